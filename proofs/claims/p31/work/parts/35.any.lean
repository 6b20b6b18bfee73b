set_option maxHeartbeats 4000000 in
set_option maxRecDepth 100000 in
theorem aX5_add_0 (l : Launch) (g : CX) (σ : ST) (hI : INV σ) (p2 : Int32) (p3 : Int32) : XM l g yX5_add wsX5_add { frames := 1, cells := 0, slots := 0, locals := 22 } [.ref (g.2.1 58), .ref (g.2.1 48), .int p2, .int p3] σ (XQi g (fun r σ' => fX5_add_0 p2 p3 σ = (r, σ') ∧ INV σ' ∧ Fr [(19, 19)] [(49, 50)] σ σ')) := by
  refine x_met (own := RX5) (cc := cX5_add) (maxL := 6) (ret := (some .int)) (lv := [(0, .ref (g.2.1 58)), (1, .ref (g.2.1 48)), (2, .int p2), (3, .int p3)]) (by decide) rfl rfl (Nat.le_of_ble_eq_true rfl) rfl ?_
  intro p e s m args below meth c ls E h hl
  have hx := E.1
  have hb := E.2.1
  have hown := E.2.2.2.1
  have hts := E.2.2.2.2.1
  have hF : Fr [(19, 19)] [(49, 50)] σ σ := Fr.refl σ
  obtain ⟨R, hR0⟩ : ∃ R, fX5_add_0 p2 p3 σ = R := ⟨_, rfl⟩
  have hR : fX5_add_0b0 p2 p3 σ = R := hR0
  have hwX5 : ∀ w ∈ wsX50, w ∈ wsX5_add := by decide +kernel
  generalize hPQ : XQi g (fun r σ' => fX5_add_0 p2 p3 σ = (r, σ') ∧ INV σ' ∧ Fr [(19, 19)] [(49, 50)] σ σ') = PQz
  refine lv_aload_n hx hb dX5_add_0 rfl (lv_at hl 0 rfl) ?_
  obtain ⟨n1, b1, e1⟩ := hI.1 19 6 rfl
  refine x_getI E h (fi_ke_voices g) rfl hwX5 (by decide) (by decide +kernel) (v := nI n1) e1 dX5_add_1 ?_
  replace hR := bd_to hR e1
  refine lv_bipush (v := 6) hx hb dX5_add_4 (by decide) ?_
  refine lv_icmp_lt (tgt := 12) hx hb dX5_add_6 (by decide) (fun c2 => ?_) (fun c2 => ?_)
  · skip
    replace hR := it_t hR c2
    have b3 : n1 < 6 := y_lt (a := n1) (b := 6) (by omega) (by omega) c2
    refine lv_aload_n hx hb dX5_add_12 rfl (lv_at hl 0 rfl) ?_
    refine x_getI E h (fi_ke_voices g) rfl hwX5 (by decide) (by decide +kernel) (v := nI n1) e1 dX5_add_13 ?_
    replace hR := bd_to hR e1
    refine lv_istore (lv' := [(4, .int (nI n1)), (0, .ref (g.2.1 58)), (1, .ref (g.2.1 48)), (2, .int p2), (3, .int p3)]) hx hb dX5_add_16 hl (by decide) rfl (fun ls hl => ?_)
    refine lv_aload_n hx hb dX5_add_18 rfl (lv_at hl 1 rfl) ?_
    refine x_getR E h (fr_ke_names g) rfl hwX5 (by decide) (by decide +kernel) dX5_add_19 ?_
    refine lv_iload hx hb dX5_add_22 (lv_at hl 0 rfl) ?_
    refine lv_iload_n hx hb dX5_add_24 rfl (lv_at hl 4 rfl) ?_
    refine y_stI E h hI hF (ia_ke_names g) (i := nI n1) (vp_in_nI (by omega) (by decide)) (j := n1) (nI_clamp (by omega)) (ba_none rfl) rfl dX5_add_25 (fun s4 H locs q4 hI4 hF4 h => ?_)
    replace hR := st_to hR (nI_clamp (n := n1) (by omega)) q4
    have e5 : s4.1 19 = nI n1 := (congrArg (fun t : ST => t.1 19) q4).trans e1
    refine lv_iconst (v := 0) hx hb dX5_add_26 (by decide) ?_
    refine lv_istore (lv' := [(5, .int 0), (4, .int (nI n1)), (0, .ref (g.2.1 58)), (1, .ref (g.2.1 48)), (2, .int p2), (3, .int p3)]) hx hb dX5_add_27 hl (by decide) rfl (fun ls hl => ?_)
    have loop29_6 : ∀ (fu : Nat) (t6 : ST) (i6_5 : Nat), INV t6 → Fr [(19, 19)] [(49, 50)] σ t6 → t6.1 19 = nI n1 → i6_5 ≤ 4 → fX5_add_0l29 fu p2 (nI n1) (nI i6_5) t6 = R → 4 - i6_5 < fu → ∀ (H : Heap) (locs : List Loc) (ls : Array Slot), HW g t6 s H locs → lv_has ls 6 [(5, .int (nI i6_5)), (4, .int (nI n1)), (0, .ref (g.2.1 58)), (1, .ref (g.2.1 48)), (2, .int p2), (3, .int p3)] → W p l e { frames := 1, cells := 0, slots := 0, locals := 22 } s m args below meth c H locs 0 0 (MQ below PQz args s 0 0 (Aw g)) (F0 m 29 ls []) := by
      intro fu6
      induction fu6 with
      | zero => intro t6 i6_5 hI_6 hF_6 e7 bi6_5 hR6 hm; exact absurd hm (Nat.not_lt_zero _)
      | succ fu6 ih =>
        have ih6 := ih
        clear ih
        intro t6 i6_5 hI_6 hF_6 e7 bi6_5 hR6 hm6 H locs ls h hl
        replace hR6 : fX5_add_0b29 (fX5_add_0l29 fu6) p2 (nI n1) (nI i6_5) t6 = R := hR6
        refine lv_iload hx hb dX5_add_29 (lv_at hl 0 rfl) ?_
        refine lv_iconst (v := 4) hx hb dX5_add_31 (by decide) ?_
        refine lv_icmp_ge (tgt := 60) hx hb dX5_add_32 (by decide) (fun c8 => ?_) (fun c8 => ?_)
        · skip
          replace hR6 := it_t hR6 c8
          have b9 : 4 ≤ i6_5 := y_le (a := 4) (b := i6_5) (by omega) (by omega) c8
          refine lv_aload_n hx hb dX5_add_60 rfl (lv_at hl 2 rfl) ?_
          refine lv_dup hx hb dX5_add_61 rfl ?_
          refine x_getI E h (fi_ke_voices g) rfl hwX5 (by decide) (by decide +kernel) (v := nI n1) e7 dX5_add_62 ?_
          replace hR6 := bd_to hR6 e7
          refine lv_iconst (v := 1) hx hb dX5_add_65 (by decide) ?_
          refine lv_iadd hx hb dX5_add_66 ?_
          refine x_topI (v2 := nI (n1 + 1)) (nI_add n1 1) ?_
          replace hR6 := bd_to hR6 (nI_add n1 1)
          refine y_putI E h hI_6 hF_6 (ty := .int) (v := nI (n1 + 1)) (fi_ke_voices g) rfl hwX5 tyX5_ok nmX5 (by decide) (by decide +kernel) (by decide +kernel) (by decide +kernel) rfl rfl (ba_some rfl (Bd.mk (n := (n1 + 1)) (by omega))) rfl dX5_add_67 (fun s10 H locs q10 hI10 hF10 h => ?_)
          replace hR6 := bd_to hR6 q10.symm
          have e11 : s10.1 19 = nI (n1 + 1) := congrArg (fun t : ST => t.1 19) q10
          refine lv_iload hx hb dX5_add_70 (lv_at hl 1 rfl) ?_
          subst hPQ
          exact x_iret E h ⟨hR0.trans hR6.symm, hI10, hF10⟩ dX5_add_72
        · skip
          replace hR6 := it_f hR6 c8
          have b12 : i6_5 < 4 := y_nle (a := 4) (b := i6_5) (by omega) (by omega) c8
          refine lv_aload_n hx hb dX5_add_35 rfl (lv_at hl 2 rfl) ?_
          refine x_getR E h (fr_ke_middles g) rfl hwX5 (by decide) (by decide +kernel) dX5_add_36 ?_
          refine lv_iload hx hb dX5_add_39 (lv_at hl 1 rfl) ?_
          refine lv_iconst (v := 4) hx hb dX5_add_41 (by decide) ?_
          refine lv_imul hx hb dX5_add_42 ?_
          refine x_topI (v2 := nI (n1 * 4)) (pk_mul n1 4) ?_
          replace hR6 := bd_to hR6 (pk_mul n1 4)
          refine lv_iload hx hb dX5_add_43 (lv_at hl 0 rfl) ?_
          refine lv_iadd hx hb dX5_add_45 ?_
          refine x_topI (v2 := nI ((n1 * 4) + i6_5)) (nI_add (n1 * 4) i6_5) ?_
          replace hR6 := bd_to hR6 (nI_add (n1 * 4) i6_5)
          refine lv_aload_n hx hb dX5_add_46 rfl (lv_at hl 3 rfl) ?_
          refine lv_iload_n hx hb dX5_add_47 rfl (lv_at hl 4 rfl) ?_
          refine lv_iload hx hb dX5_add_48 (lv_at hl 0 rfl) ?_
          refine x_vi E h (na := 2) (As := [.int p2, .int (nI i6_5)]) (aX4_middleOf_0 l g t6 hI_6 p2 (nI i6_5)) (oc_be g) rfl gX5_add_X4_middleOf rfl ⟨rfl, rfl⟩ rfl (by decide +kernel) ⟨Nat.le_of_ble_eq_true rfl, Nat.le_of_ble_eq_true rfl⟩ hl.1 rfl (Nat.le_of_ble_eq_true rfl) dX5_add_50 ⟨Nat.le_of_ble_eq_true rfl, Nat.le_of_ble_eq_true rfl⟩ (fun r13 s13 H locs q13 h => ?_)
          obtain ⟨x13, rfl⟩ := q13
          replace hR6 := bd_to hR6 x13
          refine y_stI E h hI_6 hF_6 (ia_ke_middles g) (i := nI ((n1 * 4) + i6_5)) (vp_in_nI (by omega) (by decide)) (j := ((n1 * 4) + i6_5)) (nI_clamp (by omega)) (ba_none rfl) rfl dX5_add_53 (fun s14 H locs q14 hI14 hF14 h => ?_)
          replace hR6 := st_to hR6 (nI_clamp (n := (n1 * 4) + i6_5) (by omega)) q14
          have e15 : s14.1 19 = nI n1 := (congrArg (fun t : ST => t.1 19) q14).trans e7
          replace hR6 := bd_to hR6 (nI_add i6_5 1)
          refine lv_iinc (v := (nI (i6_5 + 1))) (lv' := [(5, .int (nI (i6_5 + 1))), (4, .int (nI n1)), (0, .ref (g.2.1 58)), (1, .ref (g.2.1 48)), (2, .int p2), (3, .int p3)]) hx hb dX5_add_54 hl (k := 0) rfl (nI_add i6_5 1) (by decide) rfl (fun ls hl => ?_)
          refine lv_goto (tgt := 29) hx hb dX5_add_57 (by decide) ?_
          exact ih6 s14 (i6_5 + 1) hI14 hF14 e15 (by omega) hR6 (by omega) _ _ _ h (lv_sub hl [0, 1, 2, 3, 4, 5] rfl)
    exact loop29_6 4096 s4 0 hI4 hF4 e5 (Nat.zero_le _) hR (by omega) _ _ _ h (lv_sub hl [0, 1, 2, 3, 4, 5] rfl)
  · skip
    replace hR := it_f hR c2
    have b16 : 6 ≤ n1 := y_nlt (a := n1) (b := 6) (by omega) (by omega) c2
    refine lv_bipush (v := (-3)) hx hb dX5_add_9 (by decide) ?_
    subst hPQ
    exact x_iret E h ⟨hR0.trans hR.symm, hI, hF⟩ dX5_add_11
set_option maxHeartbeats 4000000 in
set_option maxRecDepth 100000 in
theorem aX11_keep_0 (l : Launch) (g : CX) (σ : ST) (hI : INV σ) (p1 : Int32) (p2 : Int32) : XM l g yX11_keep wsX11_keep { frames := 17, cells := 0, slots := 0, locals := 441 } [.ref (g.2.1 0), .int p1, .int p2] σ (XQi g (fun r σ' => fX11_keep_0 p1 p2 σ = (r, σ') ∧ INV σ' ∧ Fr [(3, 12), (14, 19), (22, 23)] [(8, 19), (21, 29), (31, 41), (43, 47), (49, 50)] σ σ')) := by
  refine x_met (own := RX11) (cc := cX11_keep) (maxL := 4) (ret := (some .int)) (lv := [(0, .ref (g.2.1 0)), (1, .int p1), (2, .int p2)]) (by decide) rfl rfl (Nat.le_of_ble_eq_true rfl) rfl ?_
  intro p e s m args below meth c ls E h hl
  have hx := E.1
  have hb := E.2.1
  have hown := E.2.2.2.1
  have hts := E.2.2.2.2.1
  have hF : Fr [(3, 12), (14, 19), (22, 23)] [(8, 19), (21, 29), (31, 41), (43, 47), (49, 50)] σ σ := Fr.refl σ
  obtain ⟨R, hR0⟩ : ∃ R, fX11_keep_0 p1 p2 σ = R := ⟨_, rfl⟩
  have hR : fX11_keep_0b0 p1 p2 σ = R := hR0
  have hwX0 : ∀ w ∈ wsX00, w ∈ wsX11_keep := by decide +kernel
  have hwX11 : ∀ w ∈ wsX110, w ∈ wsX11_keep := by decide +kernel
  generalize hPQ : XQi g (fun r σ' => fX11_keep_0 p1 p2 σ = (r, σ') ∧ INV σ' ∧ Fr [(3, 12), (14, 19), (22, 23)] [(8, 19), (21, 29), (31, 41), (43, 47), (49, 50)] σ σ') = PQz
  refine lv_iload_n hx hb dX11_keep_0 rfl (lv_at hl 1 rfl) ?_
  refine x_si E h (na := 1) (As := [.int p1]) (aX11_isHeapNumber_0 l g σ hI p1) gX11_keep_X11_isHeapNumber rfl ⟨rfl, rfl⟩ rfl (by decide +kernel) ⟨Nat.le_of_ble_eq_true rfl, Nat.le_of_ble_eq_true rfl⟩ hl.1 rfl (Nat.le_of_ble_eq_true rfl) dX11_keep_1 ⟨Nat.le_of_ble_eq_true rfl, Nat.le_of_ble_eq_true rfl⟩ (fun r1 s1 H locs q1 h => ?_)
  obtain ⟨x1, d1, rfl⟩ := q1
  replace hR := bd_to hR x1
  rcases d1 with ⟨rfl, m1_0n, u1_0_0, rfl⟩ | rfl
  · skip
    replace hR := it_f hR (by decide)
    refine lv_if_eq (tgt := 17) hx hb dX11_keep_4 (by decide) (fun c => absurd c (by decide)) (fun _ => ?_)
    refine lv_iload_n hx hb dX11_keep_7 rfl (lv_at hl 2 rfl) ?_
    refine lv_iconst (v := 1) hx hb dX11_keep_8 (by decide) ?_
    refine lv_bipush (v := 99) hx hb dX11_keep_9 (by decide) ?_
    refine x_si E h (na := 3) (As := [.int p2, .int 1, .int 99]) (aX11_within_0 l g σ hI p2 1 99) gX11_keep_X11_within rfl ⟨rfl, rfl⟩ rfl (by decide +kernel) ⟨Nat.le_of_ble_eq_true rfl, Nat.le_of_ble_eq_true rfl⟩ hl.1 rfl (Nat.le_of_ble_eq_true rfl) dX11_keep_11 ⟨Nat.le_of_ble_eq_true rfl, Nat.le_of_ble_eq_true rfl⟩ (fun r2 s2 H locs q2 h => ?_)
    obtain ⟨x2, d2, rfl⟩ := q2
    replace hR := bd_to hR x2
    rcases d2 with ⟨rfl, u2_0_0, u2_0_1⟩ | rfl
    · skip
      obtain ⟨n3, b3, rfl⟩ := y_rnlt (N := 99) (y_lo1 u2_0_0 (by decide)) u2_0_1 (by omega)
      have b4 : 1 ≤ n3 := y_nlt (a := n3) (b := 1) (by omega) (by omega) u2_0_0
      have b5 : n3 ≤ 99 := y_nlt (a := 99) (b := n3) (by omega) (by omega) u2_0_1
      replace hR := it_f hR (by decide)
      refine lv_if_ne (tgt := 19) hx hb dX11_keep_14 (by decide) (fun _ => ?_) (fun c => absurd c (by decide))
      refine lv_aload_n hx hb dX11_keep_19 rfl (lv_at hl 0 rfl) ?_
      refine lv_iload_n hx hb dX11_keep_20 rfl (lv_at hl 1 rfl) ?_
      refine x_vi E h (na := 1) (As := [.int (nI m1_0n)]) (aX11_refusedHeap_0 l g σ hI (nI m1_0n)) (oc_vh g) rfl gX11_keep_X11_refusedHeap rfl ⟨rfl, rfl⟩ rfl (by decide +kernel) ⟨Nat.le_of_ble_eq_true rfl, Nat.le_of_ble_eq_true rfl⟩ hl.1 rfl (Nat.le_of_ble_eq_true rfl) dX11_keep_21 ⟨Nat.le_of_ble_eq_true rfl, Nat.le_of_ble_eq_true rfl⟩ (fun r6 s6 H locs q6 h => ?_)
      obtain ⟨x6, hI6, f6⟩ := q6
      replace hR := bp_to hR x6
      have hF6 := hF.call f6 (I := [(3, 12), (14, 19), (22, 23)]) (J := [(8, 19), (21, 29), (31, 41), (43, 47), (49, 50)]) rfl rfl
      refine lv_istore_n (lv' := [(3, .int r6), (0, .ref (g.2.1 0)), (1, .int (nI m1_0n)), (2, .int (nI n3))]) hx hb dX11_keep_24 rfl hl (by decide) rfl (fun ls hl => ?_)
      refine lv_iload_n hx hb dX11_keep_25 rfl (lv_at hl 0 rfl) ?_
      refine lv_if_ge (tgt := 31) hx hb dX11_keep_26 (by decide) (fun c7 => ?_) (fun c7 => ?_)
      · skip
        replace hR := it_t hR c7
        refine lv_aload_n hx hb dX11_keep_31 rfl (lv_at hl 1 rfl) ?_
        refine x_getR E h (fr_vh_kept g) rfl hwX11 (by decide) (by decide +kernel) dX11_keep_32 ?_
        refine lv_aload_n hx hb dX11_keep_35 rfl (lv_at hl 1 rfl) ?_
        refine x_getR E h (fr_vh_all g) rfl hwX11 (by decide) (by decide +kernel) dX11_keep_36 ?_
        refine x_getRN E h (fr_al_best g) rfl hwX0 (by decide) (by decide +kernel) dX11_keep_39 ?_
        refine lv_iload_n hx hb dX11_keep_42 rfl (lv_at hl 2 rfl) ?_
        refine lv_iload_n hx hb dX11_keep_43 rfl (lv_at hl 3 rfl) ?_
        refine x_vi E h (na := 3) (As := [.ref (g.2.1 48), .int (nI m1_0n), .int (nI n3)]) (aX5_add_0 l g s6 hI6 (nI m1_0n) (nI n3)) (oc_ke g) rfl gX11_keep_X5_add rfl ⟨rfl, rfl⟩ rfl (by decide +kernel) ⟨Nat.le_of_ble_eq_true rfl, Nat.le_of_ble_eq_true rfl⟩ hl.1 rfl (Nat.le_of_ble_eq_true rfl) dX11_keep_44 ⟨Nat.le_of_ble_eq_true rfl, Nat.le_of_ble_eq_true rfl⟩ (fun r9 s9 H locs q9 h => ?_)
        obtain ⟨x9, hI9, f9⟩ := q9
        replace hR := bp_to hR x9
        have hF9 := hF6.call f9 (I := [(3, 12), (14, 19), (22, 23)]) (J := [(8, 19), (21, 29), (31, 41), (43, 47), (49, 50)]) rfl rfl
        subst hPQ
        exact x_iret E h ⟨hR0.trans hR.symm, hI9, hF9⟩ dX11_keep_47
      · skip
        replace hR := it_f hR c7
        refine lv_iload_n hx hb dX11_keep_29 rfl (lv_at hl 0 rfl) ?_
        subst hPQ
        exact x_iret E h ⟨hR0.trans hR.symm, hI6, hF6⟩ dX11_keep_30
    · skip
      replace hR := it_t hR (by decide)
      refine lv_if_ne (tgt := 19) hx hb dX11_keep_14 (by decide) (fun c => absurd (by decide) c) (fun _ => ?_)
      refine lv_iconst (v := (-1)) hx hb dX11_keep_17 (by decide) ?_
      subst hPQ
      exact x_iret E h ⟨hR0.trans hR.symm, hI, hF⟩ dX11_keep_18
  · skip
    replace hR := it_t hR (by decide)
    refine lv_if_eq (tgt := 17) hx hb dX11_keep_4 (by decide) (fun _ => ?_) (fun c => absurd (by decide) c)
    refine lv_iconst (v := (-1)) hx hb dX11_keep_17 (by decide) ?_
    subst hPQ
    exact x_iret E h ⟨hR0.trans hR.symm, hI, hF⟩ dX11_keep_18
set_option maxHeartbeats 4000000 in
set_option maxRecDepth 100000 in
theorem aX5_has_0 (l : Launch) (g : CX) (σ : ST) (hI : INV σ) (p1 : Int32) : XM l g yX5_has wsX5_has { frames := 0, cells := 0, slots := 0, locals := 0 } [.ref (g.2.1 58), .int p1] σ (XQi g (fun r σ' => fX5_has_0 p1 σ = r ∧ ((1 = r ∧ ∃ n K : Nat, σ.1 19 = nI K ∧ n < K ∧ K ≤ 6 ∧ p1 = nI n) ∨ (0 = r)) ∧ σ = σ')) := by
  refine x_met (own := RX5) (cc := cX5_has) (maxL := 2) (ret := (some .boolean)) (lv := [(0, .ref (g.2.1 58)), (1, .int p1)]) (by decide) rfl rfl (Nat.le_of_ble_eq_true rfl) rfl ?_
  intro p e s m args below meth c ls E h hl
  have hx := E.1
  have hb := E.2.1
  have hown := E.2.2.2.1
  have hts := E.2.2.2.2.1
  obtain ⟨R, hR0⟩ : ∃ R, fX5_has_0 p1 σ = R := ⟨_, rfl⟩
  have hR : fX5_has_0b0 p1 σ = R := hR0
  have hwX5 : ∀ w ∈ wsX50, w ∈ wsX5_has := by decide +kernel
  generalize hPQ : XQi g (fun r σ' => fX5_has_0 p1 σ = r ∧ ((1 = r ∧ ∃ n K : Nat, σ.1 19 = nI K ∧ n < K ∧ K ≤ 6 ∧ p1 = nI n) ∨ (0 = r)) ∧ σ = σ') = PQz
  refine lv_iload_n hx hb dX5_has_0 rfl (lv_at hl 1 rfl) ?_
  refine lv_if_lt (tgt := 22) hx hb dX5_has_1 (by decide) (fun c1 => ?_) (fun c1 => ?_)
  · skip
    replace hR := it_t hR c1
    refine lv_iconst (v := 0) hx hb dX5_has_22 (by decide) ?_
    replace hR : fX5_has_0b23 0 σ = R := hR
    subst hPQ
    exact x_zret E h rfl ⟨hR0.trans hR.symm, (Or.inr (rfl)), rfl⟩ dX5_has_23
  · skip
    replace hR := it_f hR c1
    refine lv_iload_n hx hb dX5_has_4 rfl (lv_at hl 1 rfl) ?_
    refine lv_aload_n hx hb dX5_has_5 rfl (lv_at hl 0 rfl) ?_
    obtain ⟨n4, b4, e4⟩ := hI.1 19 6 rfl
    refine x_getI E h (fi_ke_voices g) rfl hwX5 (by decide) (by decide +kernel) (v := nI n4) e4 dX5_has_6 ?_
    replace hR := bd_to hR e4
    refine lv_icmp_ge (tgt := 22) hx hb dX5_has_9 (by decide) (fun c5 => ?_) (fun c5 => ?_)
    · skip
      replace hR := it_t hR c5
      refine lv_iconst (v := 0) hx hb dX5_has_22 (by decide) ?_
      replace hR : fX5_has_0b23 0 σ = R := hR
      subst hPQ
      exact x_zret E h rfl ⟨hR0.trans hR.symm, (Or.inr (rfl)), rfl⟩ dX5_has_23
    · skip
      replace hR := it_f hR c5
      obtain ⟨n8, b8, rfl⟩ := y_rnle (N := n4) (y_lo1 c1 (by decide)) c5 (by omega)
      have b9 : 0 ≤ n8 := y_nlt (a := n8) (b := 0) (by omega) (by omega) c1
      have b10 : n8 < n4 := y_nle (a := n4) (b := n8) (by omega) (by omega) c5
      refine lv_iload_n hx hb dX5_has_12 rfl (lv_at hl 1 rfl) ?_
      refine lv_bipush (v := 6) hx hb dX5_has_13 (by decide) ?_
      refine lv_icmp_ge (tgt := 22) hx hb dX5_has_15 (by decide) (fun c11 => ?_) (fun c11 => ?_)
      · skip
        replace hR := it_t hR c11
        have b12 : 6 ≤ n8 := y_le (a := 6) (b := n8) (by omega) (by omega) c11
        refine lv_iconst (v := 0) hx hb dX5_has_22 (by decide) ?_
        replace hR : fX5_has_0b23 0 σ = R := hR
        subst hPQ
        exact x_zret E h rfl ⟨hR0.trans hR.symm, (Or.inr (rfl)), rfl⟩ dX5_has_23
      · skip
        replace hR := it_f hR c11
        have b13 : n8 < 6 := y_nle (a := 6) (b := n8) (by omega) (by omega) c11
        refine lv_iconst (v := 1) hx hb dX5_has_18 (by decide) ?_
        refine lv_goto (tgt := 23) hx hb dX5_has_19 (by decide) ?_
        replace hR : fX5_has_0b23 1 σ = R := hR
        subst hPQ
        exact x_zret E h rfl ⟨hR0.trans hR.symm, (Or.inl ⟨rfl, n8, n4, e4, (by omega), (by omega), rfl⟩), rfl⟩ dX5_has_23
set_option maxHeartbeats 4000000 in
set_option maxRecDepth 100000 in
theorem aX5_remove_0 (l : Launch) (g : CX) (σ : ST) (hI : INV σ) (p1 : Int32) : XM l g yX5_remove wsX5_remove { frames := 1, cells := 0, slots := 0, locals := 21 } [.ref (g.2.1 58), .int p1] σ (XQi g (fun r σ' => fX5_remove_0 p1 σ = (r, σ') ∧ INV σ' ∧ Fr [(19, 19)] [(49, 50)] σ σ')) := by
  refine x_met (own := RX5) (cc := cX5_remove) (maxL := 5) (ret := (some .int)) (lv := [(0, .ref (g.2.1 58)), (1, .int p1)]) (by decide) rfl rfl (Nat.le_of_ble_eq_true rfl) rfl ?_
  intro p e s m args below meth c ls E h hl
  have hx := E.1
  have hb := E.2.1
  have hown := E.2.2.2.1
  have hts := E.2.2.2.2.1
  have hF : Fr [(19, 19)] [(49, 50)] σ σ := Fr.refl σ
  obtain ⟨R, hR0⟩ : ∃ R, fX5_remove_0 p1 σ = R := ⟨_, rfl⟩
  have hR : fX5_remove_0b0 p1 σ = R := hR0
  have hwX5 : ∀ w ∈ wsX50, w ∈ wsX5_remove := by decide +kernel
  generalize hPQ : XQi g (fun r σ' => fX5_remove_0 p1 σ = (r, σ') ∧ INV σ' ∧ Fr [(19, 19)] [(49, 50)] σ σ') = PQz
  refine lv_aload_n hx hb dX5_remove_0 rfl (lv_at hl 0 rfl) ?_
  refine lv_iload_n hx hb dX5_remove_1 rfl (lv_at hl 1 rfl) ?_
  refine x_vi E h (na := 1) (As := [.int p1]) (aX5_has_0 l g σ hI p1) (oc_ke g) rfl gX5_remove_X5_has rfl ⟨rfl, rfl⟩ rfl (by decide +kernel) ⟨Nat.le_of_ble_eq_true rfl, Nat.le_of_ble_eq_true rfl⟩ hl.1 rfl (Nat.le_of_ble_eq_true rfl) dX5_remove_2 ⟨Nat.le_of_ble_eq_true rfl, Nat.le_of_ble_eq_true rfl⟩ (fun r1 s1 H locs q1 h => ?_)
  obtain ⟨x1, d1, rfl⟩ := q1
  replace hR := bd_to hR x1
  rcases d1 with ⟨rfl, m1_0n, m1_0K, u1_0_0, u1_0_1, u1_0_2, rfl⟩ | rfl
  · skip
    replace hR := it_f hR (by decide)
    refine lv_if_ne (tgt := 10) hx hb dX5_remove_5 (by decide) (fun _ => ?_) (fun c => absurd c (by decide))
    refine lv_aload_n hx hb dX5_remove_10 rfl (lv_at hl 0 rfl) ?_
    refine x_getR E h (fr_ke_names g) rfl hwX5 (by decide) (by decide +kernel) dX5_remove_11 ?_
    refine lv_iload_n hx hb dX5_remove_14 rfl (lv_at hl 1 rfl) ?_
    refine x_ldI E h (ia_ke_names g) (i := nI m1_0n) (vp_in_nI (by omega) (by decide)) (v := σ.2.2 49 m1_0n) (congrArg (σ.2.2 49) (nI_clamp (n := m1_0n) (by omega))) dX5_remove_15 ?_
    replace hR := bd_to hR (congrArg (σ.2.2 49) (nI_clamp (n := m1_0n) (by omega)))
    refine lv_topi (fun x2 e2 => ?_)
    try rw [← e2] at hR
    refine lv_istore_n (lv' := [(2, .int x2), (0, .ref (g.2.1 58)), (1, .int (nI m1_0n))]) hx hb dX5_remove_16 rfl hl (by decide) rfl (fun ls hl => ?_)
    refine lv_iload_n hx hb dX5_remove_17 rfl (lv_at hl 2 rfl) ?_
    refine lv_istore_n (lv' := [(3, .int (nI m1_0n)), (2, .int x2), (0, .ref (g.2.1 58)), (1, .int (nI m1_0n))]) hx hb dX5_remove_18 rfl hl (by decide) rfl (fun ls hl => ?_)
    have loop19_3 : ∀ (fu : Nat) (t3 : ST) (i3_3 : Nat), INV t3 → Fr [(19, 19)] [(49, 50)] σ t3 → t3.1 19 = nI m1_0K → i3_3 ≤ 6 → fX5_remove_0l19 fu x2 (nI i3_3) t3 = R → 6 - i3_3 < fu → ∀ (H : Heap) (locs : List Loc) (ls : Array Slot), HW g t3 s H locs → lv_has ls 5 [(3, .int (nI i3_3)), (2, .int x2), (0, .ref (g.2.1 58)), (1, .int (nI m1_0n))] → W p l e { frames := 1, cells := 0, slots := 0, locals := 21 } s m args below meth c H locs 0 0 (MQ below PQz args s 0 0 (Aw g)) (F0 m 19 ls []) := by
      intro fu3
      induction fu3 with
      | zero => intro t3 i3_3 hI_3 hF_3 e4 bi3_3 hR3 hm; exact absurd hm (Nat.not_lt_zero _)
      | succ fu3 ih =>
        have ih3 := ih
        clear ih
        intro t3 i3_3 hI_3 hF_3 e4 bi3_3 hR3 hm3 H locs ls h hl
        replace hR3 : fX5_remove_0b19 (fX5_remove_0l19 fu3) x2 (nI i3_3) t3 = R := hR3
        refine lv_iload_n hx hb dX5_remove_19 rfl (lv_at hl 0 rfl) ?_
        refine lv_aload_n hx hb dX5_remove_20 rfl (lv_at hl 2 rfl) ?_
        refine x_getI E h (fi_ke_voices g) rfl hwX5 (by decide) (by decide +kernel) (v := nI m1_0K) e4 dX5_remove_21 ?_
        replace hR3 := bd_to hR3 e4
        refine lv_iconst (v := 1) hx hb dX5_remove_24 (by decide) ?_
        refine lv_isub hx hb dX5_remove_25 ?_
        replace hR3 := bd_to hR3 rfl
        refine lv_icmp_ge (tgt := 88) hx hb dX5_remove_26 (by decide) (fun c5 => ?_) (fun c5 => ?_)
        · skip
          replace hR3 := it_t hR3 c5
          have b6 : m1_0K ≤ i3_3 + 1 := y_leL (a := m1_0K) (b := i3_3) (by omega) (by omega) c5
          refine lv_aload_n hx hb dX5_remove_88 rfl (lv_at hl 2 rfl) ?_
          refine lv_dup hx hb dX5_remove_89 rfl ?_
          refine x_getI E h (fi_ke_voices g) rfl hwX5 (by decide) (by decide +kernel) (v := nI m1_0K) e4 dX5_remove_90 ?_
          replace hR3 := bd_to hR3 e4
          refine lv_iconst (v := 1) hx hb dX5_remove_93 (by decide) ?_
          refine lv_isub hx hb dX5_remove_94 ?_
          refine x_topI (v2 := nI (m1_0K - 1)) (pk_sub (a := m1_0K) (b := 1) (by omega)) ?_
          replace hR3 := bd_to hR3 (pk_sub (a := m1_0K) (b := 1) (by omega))
          refine y_putI E h hI_3 hF_3 (ty := .int) (v := nI (m1_0K - 1)) (fi_ke_voices g) rfl hwX5 tyX5_ok nmX5 (by decide) (by decide +kernel) (by decide +kernel) (by decide +kernel) rfl rfl (ba_some rfl (Bd.mk (n := (m1_0K - 1)) (by omega))) rfl dX5_remove_95 (fun s7 H locs q7 hI7 hF7 h => ?_)
          replace hR3 := bd_to hR3 q7.symm
          have e8 : s7.1 19 = nI (m1_0K - 1) := congrArg (fun t : ST => t.1 19) q7
          refine lv_iload_n hx hb dX5_remove_98 rfl (lv_at hl 1 rfl) ?_
          subst hPQ
          exact x_iret E h ⟨hR0.trans hR3.symm, hI7, hF7⟩ dX5_remove_99
        · skip
          replace hR3 := it_f hR3 c5
          have b9 : i3_3 + 1 < m1_0K := y_nleL (a := m1_0K) (b := i3_3) (by omega) (by omega) c5
          refine lv_aload_n hx hb dX5_remove_29 rfl (lv_at hl 2 rfl) ?_
          refine x_getR E h (fr_ke_names g) rfl hwX5 (by decide) (by decide +kernel) dX5_remove_30 ?_
          refine lv_iload_n hx hb dX5_remove_33 rfl (lv_at hl 0 rfl) ?_
          refine lv_aload_n hx hb dX5_remove_34 rfl (lv_at hl 2 rfl) ?_
          refine x_getR E h (fr_ke_names g) rfl hwX5 (by decide) (by decide +kernel) dX5_remove_35 ?_
          refine lv_iload_n hx hb dX5_remove_38 rfl (lv_at hl 0 rfl) ?_
          refine lv_iconst (v := 1) hx hb dX5_remove_39 (by decide) ?_
          refine lv_iadd hx hb dX5_remove_40 ?_
          refine x_topI (v2 := nI (i3_3 + 1)) (nI_add i3_3 1) ?_
          replace hR3 := bd_to hR3 (nI_add i3_3 1)
          refine x_ldI E h (ia_ke_names g) (i := nI (i3_3 + 1)) (vp_in_nI (by omega) (by decide)) (v := t3.2.2 49 (i3_3 + 1)) (congrArg (t3.2.2 49) (nI_clamp (n := i3_3 + 1) (by omega))) dX5_remove_41 ?_
          replace hR3 := bd_to hR3 (congrArg (t3.2.2 49) (nI_clamp (n := i3_3 + 1) (by omega)))
          refine y_stI E h hI_3 hF_3 (ia_ke_names g) (i := nI i3_3) (vp_in_nI (by omega) (by decide)) (j := i3_3) (nI_clamp (by omega)) (ba_none rfl) rfl dX5_remove_42 (fun s10 H locs q10 hI10 hF10 h => ?_)
          replace hR3 := st_to hR3 (nI_clamp (n := i3_3) (by omega)) q10
          have e11 : s10.1 19 = nI m1_0K := (congrArg (fun t : ST => t.1 19) q10).trans e4
          refine lv_iconst (v := 0) hx hb dX5_remove_43 (by decide) ?_
          refine lv_istore (lv' := [(4, .int 0), (3, .int (nI i3_3)), (2, .int x2), (0, .ref (g.2.1 58)), (1, .int (nI m1_0n))]) hx hb dX5_remove_44 hl (by decide) rfl (fun ls hl => ?_)
          have loop46_12 : ∀ (fu : Nat) (t12 : ST) (i12_4 : Nat), INV t12 → Fr [(19, 19)] [(49, 50)] σ t12 → t12.1 19 = nI m1_0K → i12_4 ≤ 4 → fX5_remove_0l46 (fX5_remove_0l19 fu3) fu x2 (nI i3_3) (nI i12_4) t12 = R → 4 - i12_4 < fu → ∀ (H : Heap) (locs : List Loc) (ls : Array Slot), HW g t12 s H locs → lv_has ls 5 [(4, .int (nI i12_4)), (3, .int (nI i3_3)), (2, .int x2), (0, .ref (g.2.1 58)), (1, .int (nI m1_0n))] → W p l e { frames := 1, cells := 0, slots := 0, locals := 21 } s m args below meth c H locs 0 0 (MQ below PQz args s 0 0 (Aw g)) (F0 m 46 ls []) := by
            intro fu12
            induction fu12 with
            | zero => intro t12 i12_4 hI_12 hF_12 e13 bi12_4 hR12 hm; exact absurd hm (Nat.not_lt_zero _)
            | succ fu12 ih =>
              have ih12 := ih
              clear ih
              intro t12 i12_4 hI_12 hF_12 e13 bi12_4 hR12 hm12 H locs ls h hl
              replace hR12 : fX5_remove_0b46 (fX5_remove_0l19 fu3) (fX5_remove_0l46 (fX5_remove_0l19 fu3) fu12) x2 (nI i3_3) (nI i12_4) t12 = R := hR12
              refine lv_iload hx hb dX5_remove_46 (lv_at hl 0 rfl) ?_
              refine lv_iconst (v := 4) hx hb dX5_remove_48 (by decide) ?_
              refine lv_icmp_ge (tgt := 82) hx hb dX5_remove_49 (by decide) (fun c14 => ?_) (fun c14 => ?_)
              · skip
                replace hR12 := it_t hR12 c14
                have b15 : 4 ≤ i12_4 := y_le (a := 4) (b := i12_4) (by omega) (by omega) c14
                replace hR12 := bd_to hR12 (nI_add i3_3 1)
                refine lv_iinc (v := (nI (i3_3 + 1))) (lv' := [(3, .int (nI (i3_3 + 1))), (4, .int (nI i12_4)), (2, .int x2), (0, .ref (g.2.1 58)), (1, .int (nI m1_0n))]) hx hb dX5_remove_82 hl (k := 1) rfl (nI_add i3_3 1) (by decide) rfl (fun ls hl => ?_)
                refine lv_goto (tgt := 19) hx hb dX5_remove_85 (by decide) ?_
                exact ih3 t12 (i3_3 + 1) hI_12 hF_12 e13 (by omega) hR12 (by omega) _ _ _ h (lv_sub hl [0, 2, 3, 4] rfl)
              · skip
                replace hR12 := it_f hR12 c14
                have b16 : i12_4 < 4 := y_nle (a := 4) (b := i12_4) (by omega) (by omega) c14
                refine lv_aload_n hx hb dX5_remove_52 rfl (lv_at hl 3 rfl) ?_
                refine x_getR E h (fr_ke_middles g) rfl hwX5 (by decide) (by decide +kernel) dX5_remove_53 ?_
                refine lv_iload_n hx hb dX5_remove_56 rfl (lv_at hl 1 rfl) ?_
                refine lv_iconst (v := 4) hx hb dX5_remove_57 (by decide) ?_
                refine lv_imul hx hb dX5_remove_58 ?_
                refine x_topI (v2 := nI (i3_3 * 4)) (pk_mul i3_3 4) ?_
                replace hR12 := bd_to hR12 (pk_mul i3_3 4)
                refine lv_iload hx hb dX5_remove_59 (lv_at hl 0 rfl) ?_
                refine lv_iadd hx hb dX5_remove_61 ?_
                refine x_topI (v2 := nI ((i3_3 * 4) + i12_4)) (nI_add (i3_3 * 4) i12_4) ?_
                replace hR12 := bd_to hR12 (nI_add (i3_3 * 4) i12_4)
                refine lv_aload_n hx hb dX5_remove_62 rfl (lv_at hl 3 rfl) ?_
                refine x_getR E h (fr_ke_middles g) rfl hwX5 (by decide) (by decide +kernel) dX5_remove_63 ?_
                refine lv_iload_n hx hb dX5_remove_66 rfl (lv_at hl 1 rfl) ?_
                refine lv_iconst (v := 1) hx hb dX5_remove_67 (by decide) ?_
                refine lv_iadd hx hb dX5_remove_68 ?_
                refine x_topI (v2 := nI (i3_3 + 1)) (nI_add i3_3 1) ?_
                replace hR12 := bd_to hR12 (nI_add i3_3 1)
                refine lv_iconst (v := 4) hx hb dX5_remove_69 (by decide) ?_
                refine lv_imul hx hb dX5_remove_70 ?_
                refine x_topI (v2 := nI ((i3_3 + 1) * 4)) (pk_mul (i3_3 + 1) 4) ?_
                replace hR12 := bd_to hR12 (pk_mul (i3_3 + 1) 4)
                refine lv_iload hx hb dX5_remove_71 (lv_at hl 0 rfl) ?_
                refine lv_iadd hx hb dX5_remove_73 ?_
                refine x_topI (v2 := nI (((i3_3 + 1) * 4) + i12_4)) (nI_add ((i3_3 + 1) * 4) i12_4) ?_
                replace hR12 := bd_to hR12 (nI_add ((i3_3 + 1) * 4) i12_4)
                refine x_ldI E h (ia_ke_middles g) (i := nI (((i3_3 + 1) * 4) + i12_4)) (vp_in_nI (by omega) (by decide)) (v := t12.2.2 50 (((i3_3 + 1) * 4) + i12_4)) (congrArg (t12.2.2 50) (nI_clamp (n := ((i3_3 + 1) * 4) + i12_4) (by omega))) dX5_remove_74 ?_
                replace hR12 := bd_to hR12 (congrArg (t12.2.2 50) (nI_clamp (n := ((i3_3 + 1) * 4) + i12_4) (by omega)))
                refine y_stI E h hI_12 hF_12 (ia_ke_middles g) (i := nI ((i3_3 * 4) + i12_4)) (vp_in_nI (by omega) (by decide)) (j := ((i3_3 * 4) + i12_4)) (nI_clamp (by omega)) (ba_none rfl) rfl dX5_remove_75 (fun s17 H locs q17 hI17 hF17 h => ?_)
                replace hR12 := st_to hR12 (nI_clamp (n := (i3_3 * 4) + i12_4) (by omega)) q17
                have e18 : s17.1 19 = nI m1_0K := (congrArg (fun t : ST => t.1 19) q17).trans e13
                replace hR12 := bd_to hR12 (nI_add i12_4 1)
                refine lv_iinc (v := (nI (i12_4 + 1))) (lv' := [(4, .int (nI (i12_4 + 1))), (3, .int (nI i3_3)), (2, .int x2), (0, .ref (g.2.1 58)), (1, .int (nI m1_0n))]) hx hb dX5_remove_76 hl (k := 0) rfl (nI_add i12_4 1) (by decide) rfl (fun ls hl => ?_)
                refine lv_goto (tgt := 46) hx hb dX5_remove_79 (by decide) ?_
                exact ih12 s17 (i12_4 + 1) hI17 hF17 e18 (by omega) hR12 (by omega) _ _ _ h (lv_sub hl [0, 1, 2, 3, 4] rfl)
          exact loop46_12 4096 s10 0 hI10 hF10 e11 (Nat.zero_le _) hR3 (by omega) _ _ _ h (lv_sub hl [0, 1, 2, 3, 4] rfl)
    exact loop19_3 4096 σ m1_0n hI hF u1_0_0 (by omega) hR (by omega) _ _ _ h (lv_sub hl [0, 1, 2, 3] rfl)
  · skip
    replace hR := it_t hR (by decide)
    refine lv_if_ne (tgt := 10) hx hb dX5_remove_5 (by decide) (fun c => absurd (by decide) c) (fun _ => ?_)
    refine lv_iconst (v := (-1)) hx hb dX5_remove_8 (by decide) ?_
    subst hPQ
    exact x_iret E h ⟨hR0.trans hR.symm, hI, hF⟩ dX5_remove_9
set_option maxHeartbeats 4000000 in
set_option maxRecDepth 100000 in
theorem aX11_forget_0 (l : Launch) (g : CX) (σ : ST) (hI : INV σ) (p1 : Int32) : XM l g yX11_forget wsX11_forget { frames := 2, cells := 0, slots := 0, locals := 45 } [.ref (g.2.1 0), .int p1] σ (XQi g (fun r σ' => fX11_forget_0 p1 σ = (r, σ') ∧ INV σ' ∧ Fr [(19, 19)] [(49, 50)] σ σ')) := by
  refine x_met (own := RX11) (cc := cX11_forget) (maxL := 2) (ret := (some .int)) (lv := [(0, .ref (g.2.1 0)), (1, .int p1)]) (by decide) rfl rfl (Nat.le_of_ble_eq_true rfl) rfl ?_
  intro p e s m args below meth c ls E h hl
  have hx := E.1
  have hb := E.2.1
  have hown := E.2.2.2.1
  have hts := E.2.2.2.2.1
  have hF : Fr [(19, 19)] [(49, 50)] σ σ := Fr.refl σ
  obtain ⟨R, hR0⟩ : ∃ R, fX11_forget_0 p1 σ = R := ⟨_, rfl⟩
  have hR : fX11_forget_0b0 p1 σ = R := hR0
  have hwX11 : ∀ w ∈ wsX110, w ∈ wsX11_forget := by decide +kernel
  generalize hPQ : XQi g (fun r σ' => fX11_forget_0 p1 σ = (r, σ') ∧ INV σ' ∧ Fr [(19, 19)] [(49, 50)] σ σ') = PQz
  refine lv_aload_n hx hb dX11_forget_0 rfl (lv_at hl 0 rfl) ?_
  refine x_getR E h (fr_vh_kept g) rfl hwX11 (by decide) (by decide +kernel) dX11_forget_1 ?_
  refine lv_iload_n hx hb dX11_forget_4 rfl (lv_at hl 1 rfl) ?_
  refine x_vi E h (na := 1) (As := [.int p1]) (aX5_has_0 l g σ hI p1) (oc_ke g) rfl gX11_forget_X5_has rfl ⟨rfl, rfl⟩ rfl (by decide +kernel) ⟨Nat.le_of_ble_eq_true rfl, Nat.le_of_ble_eq_true rfl⟩ hl.1 rfl (Nat.le_of_ble_eq_true rfl) dX11_forget_5 ⟨Nat.le_of_ble_eq_true rfl, Nat.le_of_ble_eq_true rfl⟩ (fun r1 s1 H locs q1 h => ?_)
  obtain ⟨x1, d1, rfl⟩ := q1
  replace hR := bd_to hR x1
  rcases d1 with ⟨rfl, m1_0n, m1_0K, u1_0_0, u1_0_1, u1_0_2, rfl⟩ | rfl
  · skip
    replace hR := it_f hR (by decide)
    refine lv_if_eq (tgt := 22) hx hb dX11_forget_8 (by decide) (fun c => absurd c (by decide)) (fun _ => ?_)
    refine lv_aload_n hx hb dX11_forget_11 rfl (lv_at hl 0 rfl) ?_
    refine x_getR E h (fr_vh_kept g) rfl hwX11 (by decide) (by decide +kernel) dX11_forget_12 ?_
    refine lv_iload_n hx hb dX11_forget_15 rfl (lv_at hl 1 rfl) ?_
    refine x_vi E h (na := 1) (As := [.int (nI m1_0n)]) (aX5_remove_0 l g σ hI (nI m1_0n)) (oc_ke g) rfl gX11_forget_X5_remove rfl ⟨rfl, rfl⟩ rfl (by decide +kernel) ⟨Nat.le_of_ble_eq_true rfl, Nat.le_of_ble_eq_true rfl⟩ hl.1 rfl (Nat.le_of_ble_eq_true rfl) dX11_forget_16 ⟨Nat.le_of_ble_eq_true rfl, Nat.le_of_ble_eq_true rfl⟩ (fun r2 s2 H locs q2 h => ?_)
    obtain ⟨x2, hI2, f2⟩ := q2
    replace hR := bp_to hR x2
    have hF2 := hF.call f2 (I := [(19, 19)]) (J := [(49, 50)]) rfl rfl
    refine lv_goto (tgt := 23) hx hb dX11_forget_19 (by decide) ?_
    subst hPQ
    exact x_iret E h ⟨hR0.trans hR.symm, hI2, hF2⟩ dX11_forget_23
  · skip
    replace hR := it_t hR (by decide)
    refine lv_if_eq (tgt := 22) hx hb dX11_forget_8 (by decide) (fun _ => ?_) (fun c => absurd (by decide) c)
    refine lv_iconst (v := (-1)) hx hb dX11_forget_22 (by decide) ?_
    replace hR : fX11_forget_0b23 (-1) σ = R := hR
    subst hPQ
    exact x_iret E h ⟨hR0.trans hR.symm, hI, hF⟩ dX11_forget_23
set_option maxHeartbeats 4000000 in
set_option maxRecDepth 100000 in
theorem aX11_off_2 (l : Launch) (g : CX) (σ : ST) (hI : INV σ) (p1 : Int32) (p3 : Int32) : XM l g yX11_off wsX11_off { frames := 1, cells := 0, slots := 0, locals := 21 } [.ref (g.2.1 60), .int p1, .ref (g.2.1 51), .int p3] σ (XQi g (fun r σ' => fX11_off_2 p1 p3 σ = r ∧ σ = σ')) := by
  refine x_met (own := RX11) (cc := cX11_off) (maxL := 6) (ret := (some .int)) (lv := [(0, .ref (g.2.1 60)), (1, .int p1), (2, .ref (g.2.1 51)), (3, .int p3)]) (by decide) rfl rfl (Nat.le_of_ble_eq_true rfl) rfl ?_
  intro p e s m args below meth c ls E h hl
  have hx := E.1
  have hb := E.2.1
  have hown := E.2.2.2.1
  have hts := E.2.2.2.2.1
  obtain ⟨R, hR0⟩ : ∃ R, fX11_off_2 p1 p3 σ = R := ⟨_, rfl⟩
  have hR : fX11_off_2b0 p1 p3 σ = R := hR0
  generalize hPQ : XQi g (fun r σ' => fX11_off_2 p1 p3 σ = r ∧ σ = σ') = PQz
  refine lv_iload_n hx hb dX11_off_0 rfl (lv_at hl 1 rfl) ?_
  refine lv_if_lt (tgt := 24) hx hb dX11_off_1 (by decide) (fun c1 => ?_) (fun c1 => ?_)
  · skip
    replace hR := it_t hR c1
    refine lv_iconst (v := 0) hx hb dX11_off_24 (by decide) ?_
    subst hPQ
    exact x_iret E h ⟨hR0.trans hR.symm, rfl⟩ dX11_off_25
  · skip
    replace hR := it_f hR c1
    refine lv_iload_n hx hb dX11_off_4 rfl (lv_at hl 1 rfl) ?_
    refine lv_aload_n hx hb dX11_off_5 rfl (lv_at hl 0 rfl) ?_
    refine x_len E h (ia_ke_middles g) (v := 24) (by decide) dX11_off_6 ?_
    refine lv_iconst (v := 4) hx hb dX11_off_7 (by decide) ?_
    refine lv_isub hx hb dX11_off_8 ?_
    refine x_topI (v2 := 20) (by decide) ?_
    replace hR := bd_to hR (show (24 : Int32) - (4 : Int32) = 20 by decide)
    refine lv_icmp_gt (tgt := 24) hx hb dX11_off_9 (by decide) (fun c4 => ?_) (fun c4 => ?_)
    · skip
      replace hR := it_t hR c4
      refine lv_iconst (v := 0) hx hb dX11_off_24 (by decide) ?_
      subst hPQ
      exact x_iret E h ⟨hR0.trans hR.symm, rfl⟩ dX11_off_25
    · skip
      replace hR := it_f hR c4
      obtain ⟨n7, b7, rfl⟩ := y_rnlt (N := 20) (y_lo1 c1 (by decide)) c4 (by omega)
      have b8 : 0 ≤ n7 := y_nlt (a := n7) (b := 0) (by omega) (by omega) c1
      have b9 : n7 ≤ 20 := y_nlt (a := 20) (b := n7) (by omega) (by omega) c4
      refine lv_iload_n hx hb dX11_off_12 rfl (lv_at hl 3 rfl) ?_
      refine lv_if_lt (tgt := 24) hx hb dX11_off_13 (by decide) (fun c10 => ?_) (fun c10 => ?_)
      · skip
        replace hR := it_t hR c10
        refine lv_iconst (v := 0) hx hb dX11_off_24 (by decide) ?_
        subst hPQ
        exact x_iret E h ⟨hR0.trans hR.symm, rfl⟩ dX11_off_25
      · skip
        replace hR := it_f hR c10
        refine lv_iload_n hx hb dX11_off_16 rfl (lv_at hl 3 rfl) ?_
        refine lv_aload_n hx hb dX11_off_17 rfl (lv_at hl 2 rfl) ?_
        refine x_len E h (ia_be_middles g) (v := 36) (by decide) dX11_off_18 ?_
        refine lv_iconst (v := 4) hx hb dX11_off_19 (by decide) ?_
        refine lv_isub hx hb dX11_off_20 ?_
        refine x_topI (v2 := 32) (by decide) ?_
        replace hR := bd_to hR (show (36 : Int32) - (4 : Int32) = 32 by decide)
        refine lv_icmp_le (tgt := 26) hx hb dX11_off_21 (by decide) (fun c13 => ?_) (fun c13 => ?_)
        · skip
          replace hR := it_t hR c13
          obtain ⟨n15, b15, rfl⟩ := y_rle (N := 32) (y_lo1 c10 (by decide)) c13 (by omega)
          have b16 : 0 ≤ n15 := y_nlt (a := n15) (b := 0) (by omega) (by omega) c10
          have b17 : n15 ≤ 32 := y_le (a := n15) (b := 32) (by omega) (by omega) c13
          refine lv_iconst (v := 0) hx hb dX11_off_26 (by decide) ?_
          refine lv_istore (lv' := [(4, .int 0), (0, .ref (g.2.1 60)), (1, .int (nI n7)), (2, .ref (g.2.1 51)), (3, .int (nI n15))]) hx hb dX11_off_27 hl (by decide) rfl (fun ls hl => ?_)
          refine lv_iconst (v := 0) hx hb dX11_off_29 (by decide) ?_
          refine lv_istore (lv' := [(5, .int 0), (4, .int 0), (0, .ref (g.2.1 60)), (1, .int (nI n7)), (2, .ref (g.2.1 51)), (3, .int (nI n15))]) hx hb dX11_off_30 hl (by decide) rfl (fun ls hl => ?_)
          have loop32_18 : ∀ (fu : Nat) (i18_5 : Nat) (i18_4 : Int32), i18_5 ≤ 4 → fX11_off_2l32 fu (nI n7) (nI n15) i18_4 (nI i18_5) σ = R → 4 - i18_5 < fu → ∀ (H : Heap) (locs : List Loc) (ls : Array Slot), HW g σ s H locs → lv_has ls 6 [(5, .int (nI i18_5)), (4, .int i18_4), (0, .ref (g.2.1 60)), (1, .int (nI n7)), (2, .ref (g.2.1 51)), (3, .int (nI n15))] → W p l e { frames := 1, cells := 0, slots := 0, locals := 21 } s m args below meth c H locs 0 0 (MQ below PQz args s 0 0 (Aw g)) (F0 m 32 ls []) := by
            intro fu18
            induction fu18 with
            | zero => intro i18_5 i18_4 bi18_5 hR18 hm; exact absurd hm (Nat.not_lt_zero _)
            | succ fu18 ih =>
              have ih18 := ih
              clear ih
              intro i18_5 i18_4 bi18_5 hR18 hm18 H locs ls h hl
              replace hR18 : fX11_off_2b32 (fX11_off_2l32 fu18) (nI n7) (nI n15) i18_4 (nI i18_5) σ = R := hR18
              refine lv_iload hx hb dX11_off_32 (lv_at hl 0 rfl) ?_
              refine lv_iconst (v := 4) hx hb dX11_off_34 (by decide) ?_
              refine lv_icmp_ge (tgt := 65) hx hb dX11_off_35 (by decide) (fun c19 => ?_) (fun c19 => ?_)
              · skip
                replace hR18 := it_t hR18 c19
                have b20 : 4 ≤ i18_5 := y_le (a := 4) (b := i18_5) (by omega) (by omega) c19
                refine lv_iload hx hb dX11_off_65 (lv_at hl 1 rfl) ?_
                subst hPQ
                exact x_iret E h ⟨hR0.trans hR18.symm, rfl⟩ dX11_off_67
              · skip
                replace hR18 := it_f hR18 c19
                have b21 : i18_5 < 4 := y_nle (a := 4) (b := i18_5) (by omega) (by omega) c19
                refine lv_iload hx hb dX11_off_38 (lv_at hl 1 rfl) ?_
                refine lv_aload_n hx hb dX11_off_40 rfl (lv_at hl 2 rfl) ?_
                refine lv_iload_n hx hb dX11_off_41 rfl (lv_at hl 3 rfl) ?_
                refine lv_iload hx hb dX11_off_42 (lv_at hl 0 rfl) ?_
                refine lv_iadd hx hb dX11_off_44 ?_
                refine x_topI (v2 := nI (n7 + i18_5)) (nI_add n7 i18_5) ?_
                replace hR18 := bd_to hR18 (nI_add n7 i18_5)
                refine x_ldI E h (ia_ke_middles g) (i := nI (n7 + i18_5)) (vp_in_nI (by omega) (by decide)) (v := σ.2.2 50 (n7 + i18_5)) (congrArg (σ.2.2 50) (nI_clamp (n := n7 + i18_5) (by omega))) dX11_off_45 ?_
                replace hR18 := bd_to hR18 (congrArg (σ.2.2 50) (nI_clamp (n := n7 + i18_5) (by omega)))
                refine lv_aload_n hx hb dX11_off_46 rfl (lv_at hl 4 rfl) ?_
                refine lv_iload_n hx hb dX11_off_47 rfl (lv_at hl 5 rfl) ?_
                refine lv_iload hx hb dX11_off_48 (lv_at hl 0 rfl) ?_
                refine lv_iadd hx hb dX11_off_50 ?_
                refine x_topI (v2 := nI (n15 + i18_5)) (nI_add n15 i18_5) ?_
                replace hR18 := bd_to hR18 (nI_add n15 i18_5)
                refine x_ldI E h (ia_be_middles g) (i := nI (n15 + i18_5)) (vp_in_nI (by omega) (by decide)) (v := σ.2.2 43 (n15 + i18_5)) (congrArg (σ.2.2 43) (nI_clamp (n := n15 + i18_5) (by omega))) dX11_off_51 ?_
                replace hR18 := bd_to hR18 (congrArg (σ.2.2 43) (nI_clamp (n := n15 + i18_5) (by omega)))
                refine lv_isub hx hb dX11_off_52 ?_
                refine lv_topi (fun x22 e22 => ?_)
                replace hR18 := bd_to hR18 e22.symm
                refine x_abs E hl.1 (by decide +kernel) (by decide +kernel) (by decide +kernel) (by decide +kernel) ⟨Nat.le_of_ble_eq_true rfl, Nat.le_of_ble_eq_true rfl⟩ ⟨Nat.zero_le _, Nat.zero_le _⟩ dX11_off_53 ?_
                refine lv_topi (fun x23 e23 => ?_)
                replace hR18 := bd_to hR18 e23.symm
                refine lv_iadd hx hb dX11_off_56 ?_
                refine lv_topi (fun x24 e24 => ?_)
                replace hR18 := bd_to hR18 e24.symm
                refine lv_istore (lv' := [(4, .int x24), (5, .int (nI i18_5)), (0, .ref (g.2.1 60)), (1, .int (nI n7)), (2, .ref (g.2.1 51)), (3, .int (nI n15))]) hx hb dX11_off_57 hl (by decide) rfl (fun ls hl => ?_)
                replace hR18 := bd_to hR18 (nI_add i18_5 1)
                refine lv_iinc (v := (nI (i18_5 + 1))) (lv' := [(5, .int (nI (i18_5 + 1))), (4, .int x24), (0, .ref (g.2.1 60)), (1, .int (nI n7)), (2, .ref (g.2.1 51)), (3, .int (nI n15))]) hx hb dX11_off_59 hl (k := 1) rfl (nI_add i18_5 1) (by decide) rfl (fun ls hl => ?_)
                refine lv_goto (tgt := 32) hx hb dX11_off_62 (by decide) ?_
                exact ih18 (i18_5 + 1) x24 (by omega) hR18 (by omega) _ _ _ h (lv_sub hl [0, 1, 2, 3, 4, 5] rfl)
          exact loop32_18 4096 0 0 (Nat.zero_le _) hR (by omega) _ _ _ h (lv_sub hl [0, 1, 2, 3, 4, 5] rfl)
        · skip
          replace hR := it_f hR c13
          refine lv_iconst (v := 0) hx hb dX11_off_24 (by decide) ?_
          subst hPQ
          exact x_iret E h ⟨hR0.trans hR.symm, rfl⟩ dX11_off_25
set_option maxHeartbeats 4000000 in
set_option maxRecDepth 100000 in
theorem aX5_nearestTo_0 (l : Launch) (g : CX) (σ : ST) (hI : INV σ) (p2 : Int32) (p3 : Int32) : XM l g yX5_nearestTo wsX5_nearestTo { frames := 2, cells := 0, slots := 0, locals := 46 } [.ref (g.2.1 58), .ref (g.2.1 48), .int p2, .int p3] σ (XQi g (fun r σ' => fX5_nearestTo_0 p2 p3 σ = r ∧ Opt (-9) 6 r ∧ σ = σ')) := by
  refine x_met (own := RX5) (cc := cX5_nearestTo) (maxL := 8) (ret := (some .int)) (lv := [(0, .ref (g.2.1 58)), (1, .ref (g.2.1 48)), (2, .int p2), (3, .int p3)]) (by decide) rfl rfl (Nat.le_of_ble_eq_true rfl) rfl ?_
  intro p e s m args below meth c ls E h hl
  have hx := E.1
  have hb := E.2.1
  have hown := E.2.2.2.1
  have hts := E.2.2.2.2.1
  obtain ⟨R, hR0⟩ : ∃ R, fX5_nearestTo_0 p2 p3 σ = R := ⟨_, rfl⟩
  have hR : fX5_nearestTo_0b0 p2 p3 σ = R := hR0
  have hwX4 : ∀ w ∈ wsX40, w ∈ wsX5_nearestTo := by decide +kernel
  have hwX5 : ∀ w ∈ wsX50, w ∈ wsX5_nearestTo := by decide +kernel
  generalize hPQ : XQi g (fun r σ' => fX5_nearestTo_0 p2 p3 σ = r ∧ Opt (-9) 6 r ∧ σ = σ') = PQz
  refine lv_bipush (v := (-9)) hx hb dX5_nearestTo_0 (by decide) ?_
  refine lv_istore (lv' := [(4, .int (-9)), (0, .ref (g.2.1 58)), (1, .ref (g.2.1 48)), (2, .int p2), (3, .int p3)]) hx hb dX5_nearestTo_2 hl (by decide) rfl (fun ls hl => ?_)
  refine lv_iload_n hx hb dX5_nearestTo_4 rfl (lv_at hl 4 rfl) ?_
  refine lv_istore (lv' := [(5, .int p3), (4, .int (-9)), (0, .ref (g.2.1 58)), (1, .ref (g.2.1 48)), (2, .int p2), (3, .int p3)]) hx hb dX5_nearestTo_5 hl (by decide) rfl (fun ls hl => ?_)
  refine lv_aload_n hx hb dX5_nearestTo_7 rfl (lv_at hl 2 rfl) ?_
  obtain ⟨n1, b1, e1⟩ := hI.1 19 6 rfl
  refine x_getI E h (fi_ke_voices g) rfl hwX5 (by decide) (by decide +kernel) (v := nI n1) e1 dX5_nearestTo_8 ?_
  replace hR := bd_to hR e1
  refine lv_iconst (v := 1) hx hb dX5_nearestTo_11 (by decide) ?_
  refine lv_isub hx hb dX5_nearestTo_12 ?_
  replace hR := bd_to hR rfl
  refine lv_istore (lv' := [(6, .int (nI n1 - 1)), (5, .int p3), (4, .int (-9)), (0, .ref (g.2.1 58)), (1, .ref (g.2.1 48)), (2, .int p2), (3, .int p3)]) hx hb dX5_nearestTo_13 hl (by decide) rfl (fun ls hl => ?_)
  have loop15_2 : ∀ (fu : Nat) (i2_6 : Nat) (i2_5 : Int32) (i2_4 : Int32), i2_6 ≤ 6 → Opt (-9) 6 i2_4 → fX5_nearestTo_0l15 fu p2 i2_4 i2_5 (nI i2_6 - 1) σ = R → i2_6 < fu → ∀ (H : Heap) (locs : List Loc) (ls : Array Slot), HW g σ s H locs → lv_has ls 8 [(6, .int (nI i2_6 - 1)), (5, .int i2_5), (4, .int i2_4), (0, .ref (g.2.1 58)), (1, .ref (g.2.1 48)), (2, .int p2), (3, .int p3)] → W p l e { frames := 2, cells := 0, slots := 0, locals := 46 } s m args below meth c H locs 0 0 (MQ below PQz args s 0 0 (Aw g)) (F0 m 15 ls []) := by
    intro fu2
    induction fu2 with
    | zero => intro i2_6 i2_5 i2_4 bi2_6 oi2_4 hR2 hm; exact absurd hm (Nat.not_lt_zero _)
    | succ fu2 ih =>
      have ih2 := ih
      clear ih
      intro i2_6 i2_5 i2_4 bi2_6 oi2_4 hR2 hm2 H locs ls h hl
      replace hR2 : fX5_nearestTo_0b15 (fX5_nearestTo_0l15 fu2) p2 i2_4 i2_5 (nI i2_6 - 1) σ = R := hR2
      refine lv_iload hx hb dX5_nearestTo_15 (lv_at hl 0 rfl) ?_
      refine lv_if_lt (tgt := 61) hx hb dX5_nearestTo_17 (by decide) (fun c3 => ?_) (fun c3 => ?_)
      · skip
        replace hR2 := it_t hR2 c3
        have b4 : i2_6 < 0 + 1 := y_ltL (a := i2_6) (b := 0) (by omega) (by omega) c3
        refine lv_iload hx hb dX5_nearestTo_61 (lv_at hl 2 rfl) ?_
        subst hPQ
        exact x_iret E h ⟨hR0.trans hR2.symm, oi2_4, rfl⟩ dX5_nearestTo_63
      · skip
        replace hR2 := it_f hR2 c3
        have b5 : 0 + 1 ≤ i2_6 := y_nltL (a := i2_6) (b := 0) (by omega) (by omega) c3
        obtain ⟨n6, rfl⟩ : ∃ z, i2_6 = z + 1 := ⟨i2_6 - 1, by omega⟩
        rw [nI_pred] at hl
        try rw [nI_pred] at hR2
        refine lv_aload_n hx hb dX5_nearestTo_20 rfl (lv_at hl 3 rfl) ?_
        refine x_getR E h (fr_ke_middles g) rfl hwX5 (by decide) (by decide +kernel) dX5_nearestTo_21 ?_
        refine lv_iload hx hb dX5_nearestTo_24 (lv_at hl 0 rfl) ?_
        refine lv_iconst (v := 4) hx hb dX5_nearestTo_26 (by decide) ?_
        refine lv_imul hx hb dX5_nearestTo_27 ?_
        refine x_topI (v2 := nI (n6 * 4)) (pk_mul n6 4) ?_
        replace hR2 := bd_to hR2 (pk_mul n6 4)
        refine lv_aload_n hx hb dX5_nearestTo_28 rfl (lv_at hl 4 rfl) ?_
        refine x_getRN E h (fr_be_middles g) rfl hwX4 (by decide) (by decide +kernel) dX5_nearestTo_29 ?_
        refine lv_iload_n hx hb dX5_nearestTo_32 rfl (lv_at hl 5 rfl) ?_
        refine lv_iconst (v := 4) hx hb dX5_nearestTo_33 (by decide) ?_
        refine lv_imul hx hb dX5_nearestTo_34 ?_
        refine lv_topi (fun x7 e7 => ?_)
        replace hR2 := bd_to hR2 e7.symm
        refine x_siN (host := "VoiceHeaps") E h (na := 4) (As := [.ref (g.2.1 60), .int (nI (n6 * 4)), .ref (g.2.1 51), .int x7]) (aX11_off_2 l g σ hI (nI (n6 * 4)) x7) gX5_nearestTo_X11_off_n36 (by decide +kernel) (by decide +kernel) (by decide +kernel) rfl ⟨rfl, rfl⟩ rfl (by decide +kernel) ⟨Nat.le_of_ble_eq_true rfl, Nat.le_of_ble_eq_true rfl⟩ hl.1 rfl (Nat.le_of_ble_eq_true rfl) dX5_nearestTo_35 ⟨Nat.le_of_ble_eq_true rfl, Nat.le_of_ble_eq_true rfl⟩ (fun r8 s8 H locs q8 h => ?_)
        obtain ⟨x8, rfl⟩ := q8
        replace hR2 := bd_to hR2 x8
        refine lv_istore (lv' := [(7, .int r8), (6, .int (nI n6)), (5, .int i2_5), (4, .int i2_4), (0, .ref (g.2.1 58)), (1, .ref (g.2.1 48)), (2, .int p2), (3, .int p3)]) hx hb dX5_nearestTo_38 hl (by decide) rfl (fun ls hl => ?_)
        refine lv_iload hx hb dX5_nearestTo_40 (lv_at hl 0 rfl) ?_
        refine lv_iload hx hb dX5_nearestTo_42 (lv_at hl 2 rfl) ?_
        have j55_11 : ∀ (y11_l5 : Int32) (y11_l4 : Int32), Opt (-9) 6 y11_l4 → fX5_nearestTo_0b55 (fX5_nearestTo_0l15 fu2) p2 y11_l4 y11_l5 (nI n6) σ = R → ∀ (H : Heap) (locs : List Loc) (ls : Array Slot), HW g σ s H locs → lv_has ls 8 [(7, .int r8), (6, .int (nI n6)), (5, .int y11_l5), (4, .int y11_l4), (0, .ref (g.2.1 58)), (1, .ref (g.2.1 48)), (2, .int p2), (3, .int p3)] → W p l e { frames := 2, cells := 0, slots := 0, locals := 46 } s m args below meth c H locs 0 0 (MQ below PQz args s 0 0 (Aw g)) (F0 m 55 ls []) := by
          intro y11_l5 y11_l4 oy11_l4 hR11 H locs ls h hl
          replace hR11 := bd_to hR11 (y_m1 n6)
          refine lv_iinc (v := (nI n6 - 1)) (lv' := [(6, .int (nI n6 - 1)), (7, .int r8), (5, .int y11_l5), (4, .int y11_l4), (0, .ref (g.2.1 58)), (1, .ref (g.2.1 48)), (2, .int p2), (3, .int p3)]) hx hb dX5_nearestTo_55 hl (k := 1) rfl (y_m1 n6) (by decide) rfl (fun ls hl => ?_)
          refine lv_goto (tgt := 15) hx hb dX5_nearestTo_58 (by decide) ?_
          exact ih2 n6 y11_l5 y11_l4 (by omega) oy11_l4 hR11 (by omega) _ _ _ h (lv_sub hl [0, 2, 3, 4, 5, 6, 7] rfl)
        refine lv_icmp_gt (tgt := 55) hx hb dX5_nearestTo_44 (by decide) (fun c9 => ?_) (fun c9 => ?_)
        · skip
          replace hR2 := it_t hR2 c9
          exact j55_11 i2_5 i2_4 oi2_4 hR2 _ _ _ h (lv_sub hl [0, 1, 2, 3, 4, 5, 6, 7] rfl)
        · skip
          replace hR2 := it_f hR2 c9
          refine lv_iload hx hb dX5_nearestTo_47 (lv_at hl 0 rfl) ?_
          refine lv_istore (lv' := [(5, .int r8), (7, .int r8), (6, .int (nI n6)), (4, .int i2_4), (0, .ref (g.2.1 58)), (1, .ref (g.2.1 48)), (2, .int p2), (3, .int p3)]) hx hb dX5_nearestTo_49 hl (by decide) rfl (fun ls hl => ?_)
          refine lv_iload hx hb dX5_nearestTo_51 (lv_at hl 2 rfl) ?_
          refine lv_istore (lv' := [(4, .int (nI n6)), (5, .int r8), (7, .int r8), (6, .int (nI n6)), (0, .ref (g.2.1 58)), (1, .ref (g.2.1 48)), (2, .int p2), (3, .int p3)]) hx hb dX5_nearestTo_53 hl (by decide) rfl (fun ls hl => ?_)
          exact j55_11 r8 (nI n6) (Or.inr ⟨n6, by omega, rfl⟩) hR2 _ _ _ h (lv_sub hl [2, 3, 1, 0, 4, 5, 6, 7] rfl)
  exact loop15_2 4096 n1 p3 (-9) (by omega) (Or.inl rfl) (by first | exact hR | (rw [nI_pred]; exact hR)) (by omega) _ _ _ h (lv_sub hl [0, 1, 2, 3, 4, 5, 6] rfl)
set_option maxHeartbeats 4000000 in
set_option maxRecDepth 100000 in
theorem aX11_back_0 (l : Launch) (g : CX) (σ : ST) (hI : INV σ) (p1 : Int32) (p2 : Int32) : XM l g yX11_back wsX11_back { frames := 17, cells := 0, slots := 0, locals := 441 } [.ref (g.2.1 0), .int p1, .int p2] σ (XQi g (fun r σ' => fX11_back_0 p1 p2 σ = (r, σ') ∧ INV σ' ∧ Fr [(3, 12), (14, 18), (22, 23)] [(8, 19), (21, 29), (31, 41), (43, 47)] σ σ')) := by
  refine x_met (own := RX11) (cc := cX11_back) (maxL := 5) (ret := (some .int)) (lv := [(0, .ref (g.2.1 0)), (1, .int p1), (2, .int p2)]) (by decide) rfl rfl (Nat.le_of_ble_eq_true rfl) rfl ?_
  intro p e s m args below meth c ls E h hl
  have hx := E.1
  have hb := E.2.1
  have hown := E.2.2.2.1
  have hts := E.2.2.2.2.1
  have hF : Fr [(3, 12), (14, 18), (22, 23)] [(8, 19), (21, 29), (31, 41), (43, 47)] σ σ := Fr.refl σ
  obtain ⟨R, hR0⟩ : ∃ R, fX11_back_0 p1 p2 σ = R := ⟨_, rfl⟩
  have hR : fX11_back_0b0 p1 p2 σ = R := hR0
  have hwX0 : ∀ w ∈ wsX00, w ∈ wsX11_back := by decide +kernel
  have hwX11 : ∀ w ∈ wsX110, w ∈ wsX11_back := by decide +kernel
  have hwX5 : ∀ w ∈ wsX50, w ∈ wsX11_back := by decide +kernel
  generalize hPQ : XQi g (fun r σ' => fX11_back_0 p1 p2 σ = (r, σ') ∧ INV σ' ∧ Fr [(3, 12), (14, 18), (22, 23)] [(8, 19), (21, 29), (31, 41), (43, 47)] σ σ') = PQz
  refine lv_iload_n hx hb dX11_back_0 rfl (lv_at hl 1 rfl) ?_
  refine x_si E h (na := 1) (As := [.int p1]) (aX11_isHeapNumber_0 l g σ hI p1) gX11_back_X11_isHeapNumber rfl ⟨rfl, rfl⟩ rfl (by decide +kernel) ⟨Nat.le_of_ble_eq_true rfl, Nat.le_of_ble_eq_true rfl⟩ hl.1 rfl (Nat.le_of_ble_eq_true rfl) dX11_back_1 ⟨Nat.le_of_ble_eq_true rfl, Nat.le_of_ble_eq_true rfl⟩ (fun r1 s1 H locs q1 h => ?_)
  obtain ⟨x1, d1, rfl⟩ := q1
  replace hR := bd_to hR x1
  rcases d1 with ⟨rfl, m1_0n, u1_0_0, rfl⟩ | rfl
  · skip
    replace hR := it_f hR (by decide)
    refine lv_if_eq (tgt := 16) hx hb dX11_back_4 (by decide) (fun c => absurd c (by decide)) (fun _ => ?_)
    refine lv_iload_n hx hb dX11_back_7 rfl (lv_at hl 2 rfl) ?_
    refine lv_iconst (v := 0) hx hb dX11_back_8 (by decide) ?_
    refine lv_iconst (v := 1) hx hb dX11_back_9 (by decide) ?_
    refine x_si E h (na := 3) (As := [.int p2, .int 0, .int 1]) (aX11_within_0 l g σ hI p2 0 1) gX11_back_X11_within rfl ⟨rfl, rfl⟩ rfl (by decide +kernel) ⟨Nat.le_of_ble_eq_true rfl, Nat.le_of_ble_eq_true rfl⟩ hl.1 rfl (Nat.le_of_ble_eq_true rfl) dX11_back_10 ⟨Nat.le_of_ble_eq_true rfl, Nat.le_of_ble_eq_true rfl⟩ (fun r2 s2 H locs q2 h => ?_)
    obtain ⟨x2, d2, rfl⟩ := q2
    replace hR := bd_to hR x2
    rcases d2 with ⟨rfl, u2_0_0, u2_0_1⟩ | rfl
    · skip
      obtain ⟨n3, b3, rfl⟩ := y_rnlt (N := 1) (y_lo1 u2_0_0 (by decide)) u2_0_1 (by omega)
      have b4 : 0 ≤ n3 := y_nlt (a := n3) (b := 0) (by omega) (by omega) u2_0_0
      have b5 : n3 ≤ 1 := y_nlt (a := 1) (b := n3) (by omega) (by omega) u2_0_1
      replace hR := it_f hR (by decide)
      refine lv_if_ne (tgt := 18) hx hb dX11_back_13 (by decide) (fun _ => ?_) (fun c => absurd c (by decide))
      refine lv_aload_n hx hb dX11_back_18 rfl (lv_at hl 0 rfl) ?_
      refine lv_iload_n hx hb dX11_back_19 rfl (lv_at hl 1 rfl) ?_
      refine x_vi E h (na := 1) (As := [.int (nI m1_0n)]) (aX11_refusedHeap_0 l g σ hI (nI m1_0n)) (oc_vh g) rfl gX11_back_X11_refusedHeap rfl ⟨rfl, rfl⟩ rfl (by decide +kernel) ⟨Nat.le_of_ble_eq_true rfl, Nat.le_of_ble_eq_true rfl⟩ hl.1 rfl (Nat.le_of_ble_eq_true rfl) dX11_back_20 ⟨Nat.le_of_ble_eq_true rfl, Nat.le_of_ble_eq_true rfl⟩ (fun r6 s6 H locs q6 h => ?_)
      obtain ⟨x6, hI6, f6⟩ := q6
      replace hR := bp_to hR x6
      have hF6 := hF.call f6 (I := [(3, 12), (14, 18), (22, 23)]) (J := [(8, 19), (21, 29), (31, 41), (43, 47)]) rfl rfl
      refine lv_istore_n (lv' := [(3, .int r6), (0, .ref (g.2.1 0)), (1, .int (nI m1_0n)), (2, .int (nI n3))]) hx hb dX11_back_23 rfl hl (by decide) rfl (fun ls hl => ?_)
      refine lv_iload_n hx hb dX11_back_24 rfl (lv_at hl 0 rfl) ?_
      refine lv_if_ge (tgt := 30) hx hb dX11_back_25 (by decide) (fun c7 => ?_) (fun c7 => ?_)
      · skip
        replace hR := it_t hR c7
        refine lv_aload_n hx hb dX11_back_30 rfl (lv_at hl 1 rfl) ?_
        refine x_getR E h (fr_vh_kept g) rfl hwX11 (by decide) (by decide +kernel) dX11_back_31 ?_
        refine lv_aload_n hx hb dX11_back_34 rfl (lv_at hl 1 rfl) ?_
        refine x_getR E h (fr_vh_all g) rfl hwX11 (by decide) (by decide +kernel) dX11_back_35 ?_
        refine x_getRN E h (fr_al_best g) rfl hwX0 (by decide) (by decide +kernel) dX11_back_38 ?_
        refine lv_iload_n hx hb dX11_back_41 rfl (lv_at hl 2 rfl) ?_
        refine lv_aload_n hx hb dX11_back_42 rfl (lv_at hl 1 rfl) ?_
        refine x_getR E h (fr_vh_ruleText g) rfl hwX11 (by decide) (by decide +kernel) dX11_back_43 ?_
        refine lv_iconst (v := 2) hx hb dX11_back_46 (by decide) ?_
        refine x_vi E h (na := 1) (As := [.int 2]) (aX8_ruleNow_0 l g s6 hI6 2) (oc_rt g) rfl gX11_back_X8_ruleNow rfl ⟨rfl, rfl⟩ rfl (by decide +kernel) ⟨Nat.le_of_ble_eq_true rfl, Nat.le_of_ble_eq_true rfl⟩ hl.1 rfl (Nat.le_of_ble_eq_true rfl) dX11_back_47 ⟨Nat.le_of_ble_eq_true rfl, Nat.le_of_ble_eq_true rfl⟩ (fun r9 s9 H locs q9 h => ?_)
        obtain ⟨x9, rfl⟩ := q9
        replace hR := bd_to hR x9
        refine x_vi E h (na := 3) (As := [.ref (g.2.1 48), .int (nI m1_0n), .int r9]) (aX5_nearestTo_0 l g s6 hI6 (nI m1_0n) r9) (oc_ke g) rfl gX11_back_X5_nearestTo rfl ⟨rfl, rfl⟩ rfl (by decide +kernel) ⟨Nat.le_of_ble_eq_true rfl, Nat.le_of_ble_eq_true rfl⟩ hl.1 rfl (Nat.le_of_ble_eq_true rfl) dX11_back_50 ⟨Nat.le_of_ble_eq_true rfl, Nat.le_of_ble_eq_true rfl⟩ (fun r10 s10 H locs q10 h => ?_)
        obtain ⟨x10, d10, rfl⟩ := q10
        replace hR := bd_to hR x10
        refine lv_istore (lv' := [(4, .int r10), (3, .int r6), (0, .ref (g.2.1 0)), (1, .int (nI m1_0n)), (2, .int (nI n3))]) hx hb dX11_back_53 hl (by decide) rfl (fun ls hl => ?_)
        refine lv_iload hx hb dX11_back_55 (lv_at hl 0 rfl) ?_
        refine lv_bipush (v := (-9)) hx hb dX11_back_57 (by decide) ?_
        refine lv_icmp_eq (tgt := 67) hx hb dX11_back_59 (by decide) (fun c11 => ?_) (fun c11 => ?_)
        · skip
          replace hR := it_t hR c11
          subst c11
          refine lv_iload hx hb dX11_back_67 (lv_at hl 0 rfl) ?_
          subst hPQ
          exact x_iret E h ⟨hR0.trans hR.symm, hI6, hF6⟩ dX11_back_69
        · skip
          replace hR := it_f hR c11
          rcases d10 with rfl | ⟨n14, b14, rfl⟩
          · exact absurd c11 (by decide)
          refine lv_iload_n hx hb dX11_back_62 rfl (lv_at hl 4 rfl) ?_
          refine lv_iconst (v := 1) hx hb dX11_back_63 (by decide) ?_
          refine lv_icmp_ne (tgt := 70) hx hb dX11_back_64 (by decide) (fun c15 => ?_) (fun c15 => ?_)
          · skip
            replace hR := it_f hR c15
            have b16 : ¬ n3 = 1 := y_ne (a := n3) (b := 1) (by omega) (by omega) c15
            refine lv_aload_n hx hb dX11_back_70 rfl (lv_at hl 2 rfl) ?_
            refine x_getR E h (fr_vh_kept g) rfl hwX11 (by decide) (by decide +kernel) dX11_back_71 ?_
            refine x_getRN E h (fr_ke_names g) rfl hwX5 (by decide) (by decide +kernel) dX11_back_74 ?_
            refine lv_iload hx hb dX11_back_77 (lv_at hl 0 rfl) ?_
            refine x_ldI E h (ia_ke_names g) (i := nI n14) (vp_in_nI (by omega) (by decide)) (v := s6.2.2 49 n14) (congrArg (s6.2.2 49) (nI_clamp (n := n14) (by omega))) dX11_back_79 ?_
            replace hR := bd_to hR (congrArg (s6.2.2 49) (nI_clamp (n := n14) (by omega)))
            subst hPQ
            exact x_iret E h ⟨hR0.trans hR.symm, hI6, hF6⟩ dX11_back_80
          · skip
            replace hR := it_t hR c15
            have b17 : n3 = 1 := y_eq (a := n3) (b := 1) (by omega) (by omega) c15
            refine lv_iload hx hb dX11_back_67 (lv_at hl 0 rfl) ?_
            subst hPQ
            exact x_iret E h ⟨hR0.trans hR.symm, hI6, hF6⟩ dX11_back_69
      · skip
        replace hR := it_f hR c7
        refine lv_iload_n hx hb dX11_back_28 rfl (lv_at hl 0 rfl) ?_
        subst hPQ
        exact x_iret E h ⟨hR0.trans hR.symm, hI6, hF6⟩ dX11_back_29
    · skip
      replace hR := it_t hR (by decide)
      refine lv_if_ne (tgt := 18) hx hb dX11_back_13 (by decide) (fun c => absurd (by decide) c) (fun _ => ?_)
      refine lv_iconst (v := (-1)) hx hb dX11_back_16 (by decide) ?_
      subst hPQ
      exact x_iret E h ⟨hR0.trans hR.symm, hI, hF⟩ dX11_back_17
  · skip
    replace hR := it_t hR (by decide)
    refine lv_if_eq (tgt := 16) hx hb dX11_back_4 (by decide) (fun _ => ?_) (fun c => absurd (by decide) c)
    refine lv_iconst (v := (-1)) hx hb dX11_back_16 (by decide) ?_
    subst hPQ
    exact x_iret E h ⟨hR0.trans hR.symm, hI, hF⟩ dX11_back_17
set_option maxHeartbeats 4000000 in
set_option maxRecDepth 100000 in
theorem aX4_membersOf_0 (l : Launch) (g : CX) (σ : ST) (hI : INV σ) (p1 : Int32) (p2 : Int32) : XM l g yX4_membersOf wsX4_membersOf { frames := 0, cells := 0, slots := 0, locals := 0 } [.ref (g.2.1 48), .int p1, .int p2] σ (XQi g (fun r σ' => fX4_membersOf_0 p1 p2 σ = r ∧ σ = σ')) := by
  refine x_met (own := RX4) (cc := cX4_membersOf) (maxL := 5) (ret := (some .int)) (lv := [(0, .ref (g.2.1 48)), (1, .int p1), (2, .int p2)]) (by decide) rfl rfl (Nat.le_of_ble_eq_true rfl) rfl ?_
  intro p e s m args below meth c ls E h hl
  have hx := E.1
  have hb := E.2.1
  have hown := E.2.2.2.1
  have hts := E.2.2.2.2.1
  obtain ⟨R, hR0⟩ : ∃ R, fX4_membersOf_0 p1 p2 σ = R := ⟨_, rfl⟩
  have hR : fX4_membersOf_0b0 p1 p2 σ = R := hR0
  have hwX4 : ∀ w ∈ wsX40, w ∈ wsX4_membersOf := by decide +kernel
  generalize hPQ : XQi g (fun r σ' => fX4_membersOf_0 p1 p2 σ = r ∧ σ = σ') = PQz
  refine lv_iconst (v := 0) hx hb dX4_membersOf_0 (by decide) ?_
  refine lv_istore_n (lv' := [(3, .int 0), (0, .ref (g.2.1 48)), (1, .int p1), (2, .int p2)]) hx hb dX4_membersOf_1 rfl hl (by decide) rfl (fun ls hl => ?_)
  refine lv_iconst (v := 0) hx hb dX4_membersOf_2 (by decide) ?_
  refine lv_istore (lv' := [(4, .int 0), (3, .int 0), (0, .ref (g.2.1 48)), (1, .int p1), (2, .int p2)]) hx hb dX4_membersOf_3 hl (by decide) rfl (fun ls hl => ?_)
  have loop5_1 : ∀ (fu : Nat) (i1_4 : Nat) (i1_3 : Int32), i1_4 ≤ 9 → fX4_membersOf_0l5 fu p1 p2 i1_3 (nI i1_4) σ = R → 9 - i1_4 < fu → ∀ (H : Heap) (locs : List Loc) (ls : Array Slot), HW g σ s H locs → lv_has ls 5 [(4, .int (nI i1_4)), (3, .int i1_3), (0, .ref (g.2.1 48)), (1, .int p1), (2, .int p2)] → W p l e { frames := 0, cells := 0, slots := 0, locals := 0 } s m args below meth c H locs 0 0 (MQ below PQz args s 0 0 (Aw g)) (F0 m 5 ls []) := by
    intro fu1
    induction fu1 with
    | zero => intro i1_4 i1_3 bi1_4 hR1 hm; exact absurd hm (Nat.not_lt_zero _)
    | succ fu1 ih =>
      have ih1 := ih
      clear ih
      intro i1_4 i1_3 bi1_4 hR1 hm1 H locs ls h hl
      replace hR1 : fX4_membersOf_0b5 (fX4_membersOf_0l5 fu1) p1 p2 i1_3 (nI i1_4) σ = R := hR1
      refine lv_iload hx hb dX4_membersOf_5 (lv_at hl 0 rfl) ?_
      refine lv_iload_n hx hb dX4_membersOf_7 rfl (lv_at hl 4 rfl) ?_
      refine lv_icmp_ge (tgt := 46) hx hb dX4_membersOf_8 (by decide) (fun c2 => ?_) (fun c2 => ?_)
      · skip
        replace hR1 := it_t hR1 c2
        refine lv_iload_n hx hb dX4_membersOf_46 rfl (lv_at hl 1 rfl) ?_
        subst hPQ
        exact x_iret E h ⟨hR0.trans hR1.symm, rfl⟩ dX4_membersOf_47
      · skip
        replace hR1 := it_f hR1 c2
        refine lv_iload hx hb dX4_membersOf_11 (lv_at hl 0 rfl) ?_
        refine lv_bipush (v := 9) hx hb dX4_membersOf_13 (by decide) ?_
        refine lv_icmp_ge (tgt := 46) hx hb dX4_membersOf_15 (by decide) (fun c5 => ?_) (fun c5 => ?_)
        · skip
          replace hR1 := it_t hR1 c5
          have b6 : 9 ≤ i1_4 := y_le (a := 9) (b := i1_4) (by omega) (by omega) c5
          refine lv_iload_n hx hb dX4_membersOf_46 rfl (lv_at hl 1 rfl) ?_
          subst hPQ
          exact x_iret E h ⟨hR0.trans hR1.symm, rfl⟩ dX4_membersOf_47
        · skip
          replace hR1 := it_f hR1 c5
          have b7 : i1_4 < 9 := y_nle (a := 9) (b := i1_4) (by omega) (by omega) c5
          refine lv_iload_n hx hb dX4_membersOf_18 rfl (lv_at hl 1 rfl) ?_
          refine lv_aload_n hx hb dX4_membersOf_19 rfl (lv_at hl 2 rfl) ?_
          refine x_getR E h (fr_be_heapOf g) rfl hwX4 (by decide) (by decide +kernel) dX4_membersOf_20 ?_
          refine lv_iload hx hb dX4_membersOf_23 (lv_at hl 0 rfl) ?_
          obtain ⟨n8, b8, e8⟩ := hI.2 41 8 rfl i1_4
          refine x_ldI E h (ia_be_heapOf g) (i := nI i1_4) (vp_in_nI (by omega) (by decide)) (v := nI n8) ((congrArg (σ.2.2 41) (nI_clamp (n := i1_4) (by omega))).trans e8) dX4_membersOf_25 ?_
          replace hR1 := bd_to hR1 ((congrArg (σ.2.2 41) (nI_clamp (n := i1_4) (by omega))).trans e8)
          refine lv_iload_n hx hb dX4_membersOf_26 rfl (lv_at hl 3 rfl) ?_
          have j38_11 : ∀ (y11_s0 : Int32), fX4_membersOf_0b38 (fX4_membersOf_0l5 fu1) p1 p2 (nI i1_4) y11_s0 i1_3 σ = R → ∀ (H : Heap) (locs : List Loc) (ls : Array Slot), HW g σ s H locs → lv_has ls 5 [(4, .int (nI i1_4)), (3, .int i1_3), (0, .ref (g.2.1 48)), (1, .int p1), (2, .int p2)] → W p l e { frames := 0, cells := 0, slots := 0, locals := 0 } s m args below meth c H locs 0 0 (MQ below PQz args s 0 0 (Aw g)) (F0 m 38 ls [.int y11_s0, .int i1_3]) := by
            intro y11_s0 hR11 H locs ls h hl
            refine lv_ior hx hb dX4_membersOf_38 ?_
            refine lv_topi (fun x12 e12 => ?_)
            replace hR11 := bd_to hR11 e12.symm
            refine lv_istore_n (lv' := [(3, .int x12), (4, .int (nI i1_4)), (0, .ref (g.2.1 48)), (1, .int p1), (2, .int p2)]) hx hb dX4_membersOf_39 rfl hl (by decide) rfl (fun ls hl => ?_)
            replace hR11 := bd_to hR11 (nI_add i1_4 1)
            refine lv_iinc (v := (nI (i1_4 + 1))) (lv' := [(4, .int (nI (i1_4 + 1))), (3, .int x12), (0, .ref (g.2.1 48)), (1, .int p1), (2, .int p2)]) hx hb dX4_membersOf_40 hl (k := 1) rfl (nI_add i1_4 1) (by decide) rfl (fun ls hl => ?_)
            refine lv_goto (tgt := 5) hx hb dX4_membersOf_43 (by decide) ?_
            exact ih1 (i1_4 + 1) x12 (by omega) hR11 (by omega) _ _ _ h (lv_sub hl [0, 1, 2, 3, 4] rfl)
          refine lv_icmp_ne (tgt := 37) hx hb dX4_membersOf_27 (by decide) (fun c9 => ?_) (fun c9 => ?_)
          · skip
            replace hR1 := it_f hR1 c9
            refine lv_iconst (v := 0) hx hb dX4_membersOf_37 (by decide) ?_
            exact j38_11 0 hR1 _ _ _ h (lv_sub hl [0, 1, 2, 3, 4] rfl)
          · skip
            replace hR1 := it_t hR1 c9
            refine lv_iconst (v := 1) hx hb dX4_membersOf_30 (by decide) ?_
            refine lv_iload hx hb dX4_membersOf_31 (lv_at hl 0 rfl) ?_
            refine lv_ishl hx hb dX4_membersOf_33 ?_
            refine x_topI (v2 := nI (2 ^ i1_4)) (y_shl1 (p := i1_4) (by omega)) ?_
            replace hR1 := bd_to hR1 (y_shl1 (p := i1_4) (by omega))
            have b14 := y_pow (p := i1_4) (by omega)
            refine lv_goto (tgt := 38) hx hb dX4_membersOf_34 (by decide) ?_
            exact j38_11 (nI (2 ^ i1_4)) hR1 _ _ _ h (lv_sub hl [0, 1, 2, 3, 4] rfl)
  exact loop5_1 4096 0 0 (Nat.zero_le _) hR (by omega) _ _ _ h (lv_sub hl [0, 1, 2, 3, 4] rfl)
set_option maxHeartbeats 4000000 in
set_option maxRecDepth 100000 in
theorem aX11_off_3 (l : Launch) (g : CX) (σ : ST) (hI : INV σ) (p1 : Int32) (p3 : Int32) : XM l g yX11_off wsX11_off { frames := 1, cells := 0, slots := 0, locals := 21 } [.ref (g.2.1 20), .int p1, .ref (g.2.1 60), .int p3] σ (XQi g (fun r σ' => fX11_off_3 p1 p3 σ = r ∧ σ = σ')) := by
  refine x_met (own := RX11) (cc := cX11_off) (maxL := 6) (ret := (some .int)) (lv := [(0, .ref (g.2.1 20)), (1, .int p1), (2, .ref (g.2.1 60)), (3, .int p3)]) (by decide) rfl rfl (Nat.le_of_ble_eq_true rfl) rfl ?_
  intro p e s m args below meth c ls E h hl
  have hx := E.1
  have hb := E.2.1
  have hown := E.2.2.2.1
  have hts := E.2.2.2.2.1
  obtain ⟨R, hR0⟩ : ∃ R, fX11_off_3 p1 p3 σ = R := ⟨_, rfl⟩
  have hR : fX11_off_3b0 p1 p3 σ = R := hR0
  generalize hPQ : XQi g (fun r σ' => fX11_off_3 p1 p3 σ = r ∧ σ = σ') = PQz
  refine lv_iload_n hx hb dX11_off_0 rfl (lv_at hl 1 rfl) ?_
  refine lv_if_lt (tgt := 24) hx hb dX11_off_1 (by decide) (fun c1 => ?_) (fun c1 => ?_)
  · skip
    replace hR := it_t hR c1
    refine lv_iconst (v := 0) hx hb dX11_off_24 (by decide) ?_
    subst hPQ
    exact x_iret E h ⟨hR0.trans hR.symm, rfl⟩ dX11_off_25
  · skip
    replace hR := it_f hR c1
    refine lv_iload_n hx hb dX11_off_4 rfl (lv_at hl 1 rfl) ?_
    refine lv_aload_n hx hb dX11_off_5 rfl (lv_at hl 0 rfl) ?_
    refine x_len E h (ia_cu_middles g) (v := 192) (by decide) dX11_off_6 ?_
    refine lv_iconst (v := 4) hx hb dX11_off_7 (by decide) ?_
    refine lv_isub hx hb dX11_off_8 ?_
    refine x_topI (v2 := 188) (by decide) ?_
    replace hR := bd_to hR (show (192 : Int32) - (4 : Int32) = 188 by decide)
    refine lv_icmp_gt (tgt := 24) hx hb dX11_off_9 (by decide) (fun c4 => ?_) (fun c4 => ?_)
    · skip
      replace hR := it_t hR c4
      refine lv_iconst (v := 0) hx hb dX11_off_24 (by decide) ?_
      subst hPQ
      exact x_iret E h ⟨hR0.trans hR.symm, rfl⟩ dX11_off_25
    · skip
      replace hR := it_f hR c4
      obtain ⟨n7, b7, rfl⟩ := y_rnlt (N := 188) (y_lo1 c1 (by decide)) c4 (by omega)
      have b8 : 0 ≤ n7 := y_nlt (a := n7) (b := 0) (by omega) (by omega) c1
      have b9 : n7 ≤ 188 := y_nlt (a := 188) (b := n7) (by omega) (by omega) c4
      refine lv_iload_n hx hb dX11_off_12 rfl (lv_at hl 3 rfl) ?_
      refine lv_if_lt (tgt := 24) hx hb dX11_off_13 (by decide) (fun c10 => ?_) (fun c10 => ?_)
      · skip
        replace hR := it_t hR c10
        refine lv_iconst (v := 0) hx hb dX11_off_24 (by decide) ?_
        subst hPQ
        exact x_iret E h ⟨hR0.trans hR.symm, rfl⟩ dX11_off_25
      · skip
        replace hR := it_f hR c10
        refine lv_iload_n hx hb dX11_off_16 rfl (lv_at hl 3 rfl) ?_
        refine lv_aload_n hx hb dX11_off_17 rfl (lv_at hl 2 rfl) ?_
        refine x_len E h (ia_ke_middles g) (v := 24) (by decide) dX11_off_18 ?_
        refine lv_iconst (v := 4) hx hb dX11_off_19 (by decide) ?_
        refine lv_isub hx hb dX11_off_20 ?_
        refine x_topI (v2 := 20) (by decide) ?_
        replace hR := bd_to hR (show (24 : Int32) - (4 : Int32) = 20 by decide)
        refine lv_icmp_le (tgt := 26) hx hb dX11_off_21 (by decide) (fun c13 => ?_) (fun c13 => ?_)
        · skip
          replace hR := it_t hR c13
          obtain ⟨n15, b15, rfl⟩ := y_rle (N := 20) (y_lo1 c10 (by decide)) c13 (by omega)
          have b16 : 0 ≤ n15 := y_nlt (a := n15) (b := 0) (by omega) (by omega) c10
          have b17 : n15 ≤ 20 := y_le (a := n15) (b := 20) (by omega) (by omega) c13
          refine lv_iconst (v := 0) hx hb dX11_off_26 (by decide) ?_
          refine lv_istore (lv' := [(4, .int 0), (0, .ref (g.2.1 20)), (1, .int (nI n7)), (2, .ref (g.2.1 60)), (3, .int (nI n15))]) hx hb dX11_off_27 hl (by decide) rfl (fun ls hl => ?_)
          refine lv_iconst (v := 0) hx hb dX11_off_29 (by decide) ?_
          refine lv_istore (lv' := [(5, .int 0), (4, .int 0), (0, .ref (g.2.1 20)), (1, .int (nI n7)), (2, .ref (g.2.1 60)), (3, .int (nI n15))]) hx hb dX11_off_30 hl (by decide) rfl (fun ls hl => ?_)
          have loop32_18 : ∀ (fu : Nat) (i18_5 : Nat) (i18_4 : Int32), i18_5 ≤ 4 → fX11_off_3l32 fu (nI n7) (nI n15) i18_4 (nI i18_5) σ = R → 4 - i18_5 < fu → ∀ (H : Heap) (locs : List Loc) (ls : Array Slot), HW g σ s H locs → lv_has ls 6 [(5, .int (nI i18_5)), (4, .int i18_4), (0, .ref (g.2.1 20)), (1, .int (nI n7)), (2, .ref (g.2.1 60)), (3, .int (nI n15))] → W p l e { frames := 1, cells := 0, slots := 0, locals := 21 } s m args below meth c H locs 0 0 (MQ below PQz args s 0 0 (Aw g)) (F0 m 32 ls []) := by
            intro fu18
            induction fu18 with
            | zero => intro i18_5 i18_4 bi18_5 hR18 hm; exact absurd hm (Nat.not_lt_zero _)
            | succ fu18 ih =>
              have ih18 := ih
              clear ih
              intro i18_5 i18_4 bi18_5 hR18 hm18 H locs ls h hl
              replace hR18 : fX11_off_3b32 (fX11_off_3l32 fu18) (nI n7) (nI n15) i18_4 (nI i18_5) σ = R := hR18
              refine lv_iload hx hb dX11_off_32 (lv_at hl 0 rfl) ?_
              refine lv_iconst (v := 4) hx hb dX11_off_34 (by decide) ?_
              refine lv_icmp_ge (tgt := 65) hx hb dX11_off_35 (by decide) (fun c19 => ?_) (fun c19 => ?_)
              · skip
                replace hR18 := it_t hR18 c19
                have b20 : 4 ≤ i18_5 := y_le (a := 4) (b := i18_5) (by omega) (by omega) c19
                refine lv_iload hx hb dX11_off_65 (lv_at hl 1 rfl) ?_
                subst hPQ
                exact x_iret E h ⟨hR0.trans hR18.symm, rfl⟩ dX11_off_67
              · skip
                replace hR18 := it_f hR18 c19
                have b21 : i18_5 < 4 := y_nle (a := 4) (b := i18_5) (by omega) (by omega) c19
                refine lv_iload hx hb dX11_off_38 (lv_at hl 1 rfl) ?_
                refine lv_aload_n hx hb dX11_off_40 rfl (lv_at hl 2 rfl) ?_
                refine lv_iload_n hx hb dX11_off_41 rfl (lv_at hl 3 rfl) ?_
                refine lv_iload hx hb dX11_off_42 (lv_at hl 0 rfl) ?_
                refine lv_iadd hx hb dX11_off_44 ?_
                refine x_topI (v2 := nI (n7 + i18_5)) (nI_add n7 i18_5) ?_
                replace hR18 := bd_to hR18 (nI_add n7 i18_5)
                refine x_ldI E h (ia_cu_middles g) (i := nI (n7 + i18_5)) (vp_in_nI (by omega) (by decide)) (v := σ.2.2 15 (n7 + i18_5)) (congrArg (σ.2.2 15) (nI_clamp (n := n7 + i18_5) (by omega))) dX11_off_45 ?_
                replace hR18 := bd_to hR18 (congrArg (σ.2.2 15) (nI_clamp (n := n7 + i18_5) (by omega)))
                refine lv_aload_n hx hb dX11_off_46 rfl (lv_at hl 4 rfl) ?_
                refine lv_iload_n hx hb dX11_off_47 rfl (lv_at hl 5 rfl) ?_
                refine lv_iload hx hb dX11_off_48 (lv_at hl 0 rfl) ?_
                refine lv_iadd hx hb dX11_off_50 ?_
                refine x_topI (v2 := nI (n15 + i18_5)) (nI_add n15 i18_5) ?_
                replace hR18 := bd_to hR18 (nI_add n15 i18_5)
                refine x_ldI E h (ia_ke_middles g) (i := nI (n15 + i18_5)) (vp_in_nI (by omega) (by decide)) (v := σ.2.2 50 (n15 + i18_5)) (congrArg (σ.2.2 50) (nI_clamp (n := n15 + i18_5) (by omega))) dX11_off_51 ?_
                replace hR18 := bd_to hR18 (congrArg (σ.2.2 50) (nI_clamp (n := n15 + i18_5) (by omega)))
                refine lv_isub hx hb dX11_off_52 ?_
                refine lv_topi (fun x22 e22 => ?_)
                replace hR18 := bd_to hR18 e22.symm
                refine x_abs E hl.1 (by decide +kernel) (by decide +kernel) (by decide +kernel) (by decide +kernel) ⟨Nat.le_of_ble_eq_true rfl, Nat.le_of_ble_eq_true rfl⟩ ⟨Nat.zero_le _, Nat.zero_le _⟩ dX11_off_53 ?_
                refine lv_topi (fun x23 e23 => ?_)
                replace hR18 := bd_to hR18 e23.symm
                refine lv_iadd hx hb dX11_off_56 ?_
                refine lv_topi (fun x24 e24 => ?_)
                replace hR18 := bd_to hR18 e24.symm
                refine lv_istore (lv' := [(4, .int x24), (5, .int (nI i18_5)), (0, .ref (g.2.1 20)), (1, .int (nI n7)), (2, .ref (g.2.1 60)), (3, .int (nI n15))]) hx hb dX11_off_57 hl (by decide) rfl (fun ls hl => ?_)
                replace hR18 := bd_to hR18 (nI_add i18_5 1)
                refine lv_iinc (v := (nI (i18_5 + 1))) (lv' := [(5, .int (nI (i18_5 + 1))), (4, .int x24), (0, .ref (g.2.1 20)), (1, .int (nI n7)), (2, .ref (g.2.1 60)), (3, .int (nI n15))]) hx hb dX11_off_59 hl (k := 1) rfl (nI_add i18_5 1) (by decide) rfl (fun ls hl => ?_)
                refine lv_goto (tgt := 32) hx hb dX11_off_62 (by decide) ?_
                exact ih18 (i18_5 + 1) x24 (by omega) hR18 (by omega) _ _ _ h (lv_sub hl [0, 1, 2, 3, 4, 5] rfl)
          exact loop32_18 4096 0 0 (Nat.zero_le _) hR (by omega) _ _ _ h (lv_sub hl [0, 1, 2, 3, 4, 5] rfl)
        · skip
          replace hR := it_f hR c13
          refine lv_iconst (v := 0) hx hb dX11_off_24 (by decide) ?_
          subst hPQ
          exact x_iret E h ⟨hR0.trans hR.symm, rfl⟩ dX11_off_25
set_option maxHeartbeats 4000000 in
set_option maxRecDepth 100000 in
theorem aX5_fillOffs_0 (l : Launch) (g : CX) (σ : ST) (hI : INV σ) (p2 : Nat) (p3 : Nat) (hh0 : p2 ≤ 9) (hh1 : p3 < 6) : XM l g yX5_fillOffs wsX5_fillOffs { frames := 2, cells := 0, slots := 0, locals := 46 } [.ref (g.2.1 58), .ref (g.2.1 16), .int (nI p2), .int (nI p3)] σ (XQv g (fun σ' => fX5_fillOffs_0 (nI p2) (nI p3) σ = σ' ∧ INV σ' ∧ Fr [] [(51, 51)] σ σ')) := by
  refine x_met (own := RX5) (cc := cX5_fillOffs) (maxL := 8) (ret := none) (lv := [(0, .ref (g.2.1 58)), (1, .ref (g.2.1 16)), (2, .int (nI p2)), (3, .int (nI p3))]) (by decide) rfl rfl (Nat.le_of_ble_eq_true rfl) rfl ?_
  intro p e s m args below meth c ls E h hl
  have hx := E.1
  have hb := E.2.1
  have hown := E.2.2.2.1
  have hts := E.2.2.2.2.1
  have hF : Fr [] [(51, 51)] σ σ := Fr.refl σ
  obtain ⟨R, hR0⟩ : ∃ R, fX5_fillOffs_0 (nI p2) (nI p3) σ = R := ⟨_, rfl⟩
  have hR : fX5_fillOffs_0b0 (nI p2) (nI p3) σ = R := hR0
  have hwX2 : ∀ w ∈ wsX20, w ∈ wsX5_fillOffs := by decide +kernel
  have hwX5 : ∀ w ∈ wsX50, w ∈ wsX5_fillOffs := by decide +kernel
  generalize hPQ : XQv g (fun σ' => fX5_fillOffs_0 (nI p2) (nI p3) σ = σ' ∧ INV σ' ∧ Fr [] [(51, 51)] σ σ') = PQz
  refine lv_aload_n hx hb dX5_fillOffs_0 rfl (lv_at hl 0 rfl) ?_
  refine x_getR E h (fr_ke_offs g) rfl hwX5 (by decide) (by decide +kernel) dX5_fillOffs_1 ?_
  refine lv_iconst (v := 0) hx hb dX5_fillOffs_4 (by decide) ?_
  refine lv_iconst (v := 0) hx hb dX5_fillOffs_5 (by decide) ?_
  refine y_stI E h hI hF (ia_ke_offs g) (i := nI 0) (vp_in_nI (by omega) (by decide)) (j := 0) (nI_clamp (by omega)) (ba_none rfl) rfl dX5_fillOffs_6 (fun s1 H locs q1 hI1 hF1 h => ?_)
  replace hR := st_to hR (nI_clamp (n := 0) (by omega)) q1
  refine lv_iconst (v := 0) hx hb dX5_fillOffs_7 (by decide) ?_
  refine lv_istore (lv' := [(4, .int 0), (0, .ref (g.2.1 58)), (1, .ref (g.2.1 16)), (2, .int (nI p2)), (3, .int (nI p3))]) hx hb dX5_fillOffs_8 hl (by decide) rfl (fun ls hl => ?_)
  have loop10_2 : ∀ (fu : Nat) (t2 : ST) (i2_4 : Nat), INV t2 → Fr [] [(51, 51)] σ t2 → i2_4 ≤ p2 → fX5_fillOffs_0l10 fu (nI p2) (nI p3) (nI i2_4) t2 = R → p2 - i2_4 < fu → ∀ (H : Heap) (locs : List Loc) (ls : Array Slot), HW g t2 s H locs → lv_has ls 8 [(4, .int (nI i2_4)), (0, .ref (g.2.1 58)), (1, .ref (g.2.1 16)), (2, .int (nI p2)), (3, .int (nI p3))] → W p l e { frames := 2, cells := 0, slots := 0, locals := 46 } s m args below meth c H locs 0 0 (MQ below PQz args s 0 0 (Aw g)) (F0 m 10 ls []) := by
    intro fu2
    induction fu2 with
    | zero => intro t2 i2_4 hI_2 hF_2 bi2_4 hR2 hm; exact absurd hm (Nat.not_lt_zero _)
    | succ fu2 ih =>
      have ih2 := ih
      clear ih
      intro t2 i2_4 hI_2 hF_2 bi2_4 hR2 hm2 H locs ls h hl
      replace hR2 : fX5_fillOffs_0b10 (fX5_fillOffs_0l10 fu2) (nI p2) (nI p3) (nI i2_4) t2 = R := hR2
      refine lv_iload hx hb dX5_fillOffs_10 (lv_at hl 0 rfl) ?_
      refine lv_iload_n hx hb dX5_fillOffs_12 rfl (lv_at hl 3 rfl) ?_
      refine lv_icmp_ge (tgt := 84) hx hb dX5_fillOffs_13 (by decide) (fun c3 => ?_) (fun c3 => ?_)
      · skip
        replace hR2 := it_t hR2 c3
        have b4 : p2 ≤ i2_4 := y_le (a := p2) (b := i2_4) (by omega) (by omega) c3
        subst hPQ
        exact x_vret E h ⟨hR0.trans hR2.symm, hI_2, hF_2⟩ dX5_fillOffs_84
      · skip
        replace hR2 := it_f hR2 c3
        have b5 : i2_4 < p2 := y_nle (a := p2) (b := i2_4) (by omega) (by omega) c3
        refine lv_aload_n hx hb dX5_fillOffs_16 rfl (lv_at hl 2 rfl) ?_
        refine x_getRN E h (fr_cu_middles g) rfl hwX2 (by decide) (by decide +kernel) dX5_fillOffs_17 ?_
        refine lv_iload hx hb dX5_fillOffs_20 (lv_at hl 0 rfl) ?_
        refine lv_iconst (v := 4) hx hb dX5_fillOffs_22 (by decide) ?_
        refine lv_imul hx hb dX5_fillOffs_23 ?_
        refine x_topI (v2 := nI (i2_4 * 4)) (pk_mul i2_4 4) ?_
        replace hR2 := bd_to hR2 (pk_mul i2_4 4)
        refine lv_aload_n hx hb dX5_fillOffs_24 rfl (lv_at hl 1 rfl) ?_
        refine x_getR E h (fr_ke_middles g) rfl hwX5 (by decide) (by decide +kernel) dX5_fillOffs_25 ?_
        refine lv_iload_n hx hb dX5_fillOffs_28 rfl (lv_at hl 4 rfl) ?_
        refine lv_iconst (v := 4) hx hb dX5_fillOffs_29 (by decide) ?_
        refine lv_imul hx hb dX5_fillOffs_30 ?_
        refine x_topI (v2 := nI (p3 * 4)) (pk_mul p3 4) ?_
        replace hR2 := bd_to hR2 (pk_mul p3 4)
        refine x_siN (host := "VoiceHeaps") E h (na := 4) (As := [.ref (g.2.1 20), .int (nI (i2_4 * 4)), .ref (g.2.1 60), .int (nI (p3 * 4))]) (aX11_off_3 l g t2 hI_2 (nI (i2_4 * 4)) (nI (p3 * 4))) gX5_fillOffs_X11_off_n36 (by decide +kernel) (by decide +kernel) (by decide +kernel) rfl ⟨rfl, rfl⟩ rfl (by decide +kernel) ⟨Nat.le_of_ble_eq_true rfl, Nat.le_of_ble_eq_true rfl⟩ hl.1 rfl (Nat.le_of_ble_eq_true rfl) dX5_fillOffs_31 ⟨Nat.le_of_ble_eq_true rfl, Nat.le_of_ble_eq_true rfl⟩ (fun r6 s6 H locs q6 h => ?_)
        obtain ⟨x6, rfl⟩ := q6
        replace hR2 := bd_to hR2 x6
        refine lv_istore (lv' := [(5, .int r6), (4, .int (nI i2_4)), (0, .ref (g.2.1 58)), (1, .ref (g.2.1 16)), (2, .int (nI p2)), (3, .int (nI p3))]) hx hb dX5_fillOffs_34 hl (by decide) rfl (fun ls hl => ?_)
        refine lv_iconst (v := 1) hx hb dX5_fillOffs_36 (by decide) ?_
        refine lv_iload hx hb dX5_fillOffs_37 (lv_at hl 1 rfl) ?_
        refine lv_ishl hx hb dX5_fillOffs_39 ?_
        refine x_topI (v2 := nI (2 ^ i2_4)) (y_shl1 (p := i2_4) (by omega)) ?_
        replace hR2 := bd_to hR2 (y_shl1 (p := i2_4) (by omega))
        have b7 := y_pow (p := i2_4) (by omega)
        refine lv_istore (lv' := [(6, .int (nI (2 ^ i2_4))), (5, .int r6), (4, .int (nI i2_4)), (0, .ref (g.2.1 58)), (1, .ref (g.2.1 16)), (2, .int (nI p2)), (3, .int (nI p3))]) hx hb dX5_fillOffs_40 hl (by decide) rfl (fun ls hl => ?_)
        refine lv_iconst (v := 0) hx hb dX5_fillOffs_42 (by decide) ?_
        refine lv_istore (lv' := [(7, .int 0), (6, .int (nI (2 ^ i2_4))), (5, .int r6), (4, .int (nI i2_4)), (0, .ref (g.2.1 58)), (1, .ref (g.2.1 16)), (2, .int (nI p2)), (3, .int (nI p3))]) hx hb dX5_fillOffs_43 hl (by decide) rfl (fun ls hl => ?_)
        have loop45_8 : ∀ (fu : Nat) (t8 : ST) (i8_7 : Nat), INV t8 → Fr [] [(51, 51)] σ t8 → i8_7 ≤ (2 ^ i2_4) → fX5_fillOffs_0l45 (fX5_fillOffs_0l10 fu2) fu (nI p2) (nI p3) (nI i2_4) r6 (nI (2 ^ i2_4)) (nI i8_7) t8 = R → (2 ^ i2_4) - i8_7 < fu → ∀ (H : Heap) (locs : List Loc) (ls : Array Slot), HW g t8 s H locs → lv_has ls 8 [(7, .int (nI i8_7)), (6, .int (nI (2 ^ i2_4))), (5, .int r6), (4, .int (nI i2_4)), (0, .ref (g.2.1 58)), (1, .ref (g.2.1 16)), (2, .int (nI p2)), (3, .int (nI p3))] → W p l e { frames := 2, cells := 0, slots := 0, locals := 46 } s m args below meth c H locs 0 0 (MQ below PQz args s 0 0 (Aw g)) (F0 m 45 ls []) := by
          intro fu8
          induction fu8 with
          | zero => intro t8 i8_7 hI_8 hF_8 bi8_7 hR8 hm; exact absurd hm (Nat.not_lt_zero _)
          | succ fu8 ih =>
            have ih8 := ih
            clear ih
            intro t8 i8_7 hI_8 hF_8 bi8_7 hR8 hm8 H locs ls h hl
            replace hR8 : fX5_fillOffs_0b45 (fX5_fillOffs_0l10 fu2) (fX5_fillOffs_0l45 (fX5_fillOffs_0l10 fu2) fu8) (nI p2) (nI p3) (nI i2_4) r6 (nI (2 ^ i2_4)) (nI i8_7) t8 = R := hR8
            refine lv_iload hx hb dX5_fillOffs_45 (lv_at hl 0 rfl) ?_
            refine lv_iload hx hb dX5_fillOffs_47 (lv_at hl 1 rfl) ?_
            refine lv_icmp_ge (tgt := 78) hx hb dX5_fillOffs_49 (by decide) (fun c9 => ?_) (fun c9 => ?_)
            · skip
              replace hR8 := it_t hR8 c9
              have b10 : (2 ^ i2_4) ≤ i8_7 := y_le (a := (2 ^ i2_4)) (b := i8_7) (by omega) (by omega) c9
              replace hR8 := bd_to hR8 (nI_add i2_4 1)
              refine lv_iinc (v := (nI (i2_4 + 1))) (lv' := [(4, .int (nI (i2_4 + 1))), (7, .int (nI i8_7)), (6, .int (nI (2 ^ i2_4))), (5, .int r6), (0, .ref (g.2.1 58)), (1, .ref (g.2.1 16)), (2, .int (nI p2)), (3, .int (nI p3))]) hx hb dX5_fillOffs_78 hl (k := 3) rfl (nI_add i2_4 1) (by decide) rfl (fun ls hl => ?_)
              refine lv_goto (tgt := 10) hx hb dX5_fillOffs_81 (by decide) ?_
              exact ih2 t8 (i2_4 + 1) hI_8 hF_8 (by omega) hR8 (by omega) _ _ _ h (lv_sub hl [0, 4, 5, 6, 7] rfl)
            · skip
              replace hR8 := it_f hR8 c9
              have b11 : i8_7 < (2 ^ i2_4) := y_nle (a := (2 ^ i2_4)) (b := i8_7) (by omega) (by omega) c9
              refine lv_aload_n hx hb dX5_fillOffs_52 rfl (lv_at hl 4 rfl) ?_
              refine x_getR E h (fr_ke_offs g) rfl hwX5 (by decide) (by decide +kernel) dX5_fillOffs_53 ?_
              refine lv_iload hx hb dX5_fillOffs_56 (lv_at hl 1 rfl) ?_
              refine lv_iload hx hb dX5_fillOffs_58 (lv_at hl 0 rfl) ?_
              refine lv_ior hx hb dX5_fillOffs_60 ?_
              refine x_topI (v2 := nI ((2 ^ i2_4) ||| i8_7)) (y_or (2 ^ i2_4) i8_7) ?_
              replace hR8 := bd_to hR8 (y_or (2 ^ i2_4) i8_7)
              have b12 : ((2 ^ i2_4) ||| i8_7) < 512 := y_or9 (by omega) (by omega)
              refine lv_aload_n hx hb dX5_fillOffs_61 rfl (lv_at hl 4 rfl) ?_
              refine x_getR E h (fr_ke_offs g) rfl hwX5 (by decide) (by decide +kernel) dX5_fillOffs_62 ?_
              refine lv_iload hx hb dX5_fillOffs_65 (lv_at hl 0 rfl) ?_
              refine x_ldI E h (ia_ke_offs g) (i := nI i8_7) (vp_in_nI (by omega) (by decide)) (v := t8.2.2 51 i8_7) (congrArg (t8.2.2 51) (nI_clamp (n := i8_7) (by omega))) dX5_fillOffs_67 ?_
              replace hR8 := bd_to hR8 (congrArg (t8.2.2 51) (nI_clamp (n := i8_7) (by omega)))
              refine lv_iload hx hb dX5_fillOffs_68 (lv_at hl 2 rfl) ?_
              refine lv_iadd hx hb dX5_fillOffs_70 ?_
              refine lv_topi (fun x13 e13 => ?_)
              replace hR8 := bd_to hR8 e13.symm
              refine y_stI E h hI_8 hF_8 (ia_ke_offs g) (i := nI ((2 ^ i2_4) ||| i8_7)) (vp_in_nI (by omega) (by decide)) (j := ((2 ^ i2_4) ||| i8_7)) (nI_clamp (by omega)) (ba_none rfl) rfl dX5_fillOffs_71 (fun s14 H locs q14 hI14 hF14 h => ?_)
              replace hR8 := st_to hR8 (nI_clamp (n := (2 ^ i2_4) ||| i8_7) (by omega)) q14
              replace hR8 := bd_to hR8 (nI_add i8_7 1)
              refine lv_iinc (v := (nI (i8_7 + 1))) (lv' := [(7, .int (nI (i8_7 + 1))), (6, .int (nI (2 ^ i2_4))), (5, .int r6), (4, .int (nI i2_4)), (0, .ref (g.2.1 58)), (1, .ref (g.2.1 16)), (2, .int (nI p2)), (3, .int (nI p3))]) hx hb dX5_fillOffs_72 hl (k := 0) rfl (nI_add i8_7 1) (by decide) rfl (fun ls hl => ?_)
              refine lv_goto (tgt := 45) hx hb dX5_fillOffs_75 (by decide) ?_
              exact ih8 s14 (i8_7 + 1) hI14 hF14 (by omega) hR8 (by omega) _ _ _ h (lv_sub hl [0, 1, 2, 3, 4, 5, 6, 7] rfl)
        exact loop45_8 4096 t2 0 hI_2 hF_2 (Nat.zero_le _) hR2 (by omega) _ _ _ h (lv_sub hl [0, 1, 2, 3, 4, 5, 6, 7] rfl)
  exact loop10_2 4096 s1 0 hI1 hF1 (Nat.zero_le _) hR (by omega) _ _ _ h (lv_sub hl [0, 1, 2, 3, 4] rfl)
set_option maxHeartbeats 4000000 in
set_option maxRecDepth 100000 in
theorem aJ6_bitCount_0f7a4_0 (l : Launch) (g : CX) (σ : ST) (hI : INV σ) (p0 : Int32) : XM l g yJ6_bitCount_0f7a4 wsJ6_bitCount_0f7a4 { frames := 0, cells := 0, slots := 0, locals := 0 } [.int p0] σ (XQi g (fun r σ' => fJ6_bitCount_0f7a4_0 p0 σ = r ∧ σ = σ')) := by
  refine x_met (own := RJ6) (cc := cJ6_bitCount_0f7a4) (maxL := 1) (ret := (some .int)) (lv := [(0, .int p0)]) (by decide) rfl rfl (Nat.le_of_ble_eq_true rfl) rfl ?_
  intro p e s m args below meth c ls E h hl
  have hx := E.1
  have hb := E.2.1
  have hown := E.2.2.2.1
  have hts := E.2.2.2.2.1
  obtain ⟨R, hR0⟩ : ∃ R, fJ6_bitCount_0f7a4_0 p0 σ = R := ⟨_, rfl⟩
  have hR : fJ6_bitCount_0f7a4_0b0 p0 σ = R := hR0
  generalize hPQ : XQi g (fun r σ' => fJ6_bitCount_0f7a4_0 p0 σ = r ∧ σ = σ') = PQz
  refine lv_iload_n hx hb dJ6_bitCount_0f7a4_0 rfl (lv_at hl 0 rfl) ?_
  refine lv_iload_n hx hb dJ6_bitCount_0f7a4_1 rfl (lv_at hl 0 rfl) ?_
  refine lv_iconst (v := 1) hx hb dJ6_bitCount_0f7a4_2 (by decide) ?_
  refine lv_iushr hx hb dJ6_bitCount_0f7a4_3 rfl ?_
  refine lv_topi (fun x1 e1 => ?_)
  replace hR := bd_to hR e1.symm
  refine lv_ldcw (v := 1431655765) hx hb hown (hts (.constant RJ6 265 (1431655765)) (by decide +kernel)) dJ6_bitCount_0f7a4_4 ?_
  refine lv_iand hx hb dJ6_bitCount_0f7a4_7 ?_
  refine lv_topi (fun x2 e2 => ?_)
  replace hR := bd_to hR e2.symm
  refine lv_isub hx hb dJ6_bitCount_0f7a4_8 ?_
  refine lv_topi (fun x3 e3 => ?_)
  replace hR := bd_to hR e3.symm
  refine lv_istore_n (lv' := [(0, .int x3)]) hx hb dJ6_bitCount_0f7a4_9 rfl hl (by decide) rfl (fun ls hl => ?_)
  refine lv_iload_n hx hb dJ6_bitCount_0f7a4_10 rfl (lv_at hl 0 rfl) ?_
  refine lv_ldcw (v := 858993459) hx hb hown (hts (.constant RJ6 266 (858993459)) (by decide +kernel)) dJ6_bitCount_0f7a4_11 ?_
  refine lv_iand hx hb dJ6_bitCount_0f7a4_14 ?_
  refine lv_topi (fun x4 e4 => ?_)
  replace hR := bd_to hR e4.symm
  refine lv_iload_n hx hb dJ6_bitCount_0f7a4_15 rfl (lv_at hl 0 rfl) ?_
  refine lv_iconst (v := 2) hx hb dJ6_bitCount_0f7a4_16 (by decide) ?_
  refine lv_iushr hx hb dJ6_bitCount_0f7a4_17 rfl ?_
  refine lv_topi (fun x5 e5 => ?_)
  replace hR := bd_to hR e5.symm
  refine lv_ldcw (v := 858993459) hx hb hown (hts (.constant RJ6 266 (858993459)) (by decide +kernel)) dJ6_bitCount_0f7a4_18 ?_
  refine lv_iand hx hb dJ6_bitCount_0f7a4_21 ?_
  refine lv_topi (fun x6 e6 => ?_)
  replace hR := bd_to hR e6.symm
  refine lv_iadd hx hb dJ6_bitCount_0f7a4_22 ?_
  refine lv_topi (fun x7 e7 => ?_)
  replace hR := bd_to hR e7.symm
  refine lv_istore_n (lv' := [(0, .int x7)]) hx hb dJ6_bitCount_0f7a4_23 rfl hl (by decide) rfl (fun ls hl => ?_)
  refine lv_iload_n hx hb dJ6_bitCount_0f7a4_24 rfl (lv_at hl 0 rfl) ?_
  refine lv_iload_n hx hb dJ6_bitCount_0f7a4_25 rfl (lv_at hl 0 rfl) ?_
  refine lv_iconst (v := 4) hx hb dJ6_bitCount_0f7a4_26 (by decide) ?_
  refine lv_iushr hx hb dJ6_bitCount_0f7a4_27 rfl ?_
  refine lv_topi (fun x8 e8 => ?_)
  replace hR := bd_to hR e8.symm
  refine lv_iadd hx hb dJ6_bitCount_0f7a4_28 ?_
  refine lv_topi (fun x9 e9 => ?_)
  replace hR := bd_to hR e9.symm
  refine lv_ldcw (v := 252645135) hx hb hown (hts (.constant RJ6 267 (252645135)) (by decide +kernel)) dJ6_bitCount_0f7a4_29 ?_
  refine lv_iand hx hb dJ6_bitCount_0f7a4_32 ?_
  refine lv_topi (fun x10 e10 => ?_)
  replace hR := bd_to hR e10.symm
  refine lv_istore_n (lv' := [(0, .int x10)]) hx hb dJ6_bitCount_0f7a4_33 rfl hl (by decide) rfl (fun ls hl => ?_)
  refine lv_iload_n hx hb dJ6_bitCount_0f7a4_34 rfl (lv_at hl 0 rfl) ?_
  refine lv_iload_n hx hb dJ6_bitCount_0f7a4_35 rfl (lv_at hl 0 rfl) ?_
  refine lv_bipush (v := 8) hx hb dJ6_bitCount_0f7a4_36 (by decide) ?_
  refine lv_iushr hx hb dJ6_bitCount_0f7a4_38 rfl ?_
  refine lv_topi (fun x11 e11 => ?_)
  replace hR := bd_to hR e11.symm
  refine lv_iadd hx hb dJ6_bitCount_0f7a4_39 ?_
  refine lv_topi (fun x12 e12 => ?_)
  replace hR := bd_to hR e12.symm
  refine lv_istore_n (lv' := [(0, .int x12)]) hx hb dJ6_bitCount_0f7a4_40 rfl hl (by decide) rfl (fun ls hl => ?_)
  refine lv_iload_n hx hb dJ6_bitCount_0f7a4_41 rfl (lv_at hl 0 rfl) ?_
  refine lv_iload_n hx hb dJ6_bitCount_0f7a4_42 rfl (lv_at hl 0 rfl) ?_
  refine lv_bipush (v := 16) hx hb dJ6_bitCount_0f7a4_43 (by decide) ?_
  refine lv_iushr hx hb dJ6_bitCount_0f7a4_45 rfl ?_
  refine lv_topi (fun x13 e13 => ?_)
  replace hR := bd_to hR e13.symm
  refine lv_iadd hx hb dJ6_bitCount_0f7a4_46 ?_
  refine lv_topi (fun x14 e14 => ?_)
  replace hR := bd_to hR e14.symm
  refine lv_istore_n (lv' := [(0, .int x14)]) hx hb dJ6_bitCount_0f7a4_47 rfl hl (by decide) rfl (fun ls hl => ?_)
  refine lv_iload_n hx hb dJ6_bitCount_0f7a4_48 rfl (lv_at hl 0 rfl) ?_
  refine lv_bipush (v := 63) hx hb dJ6_bitCount_0f7a4_49 (by decide) ?_
  refine lv_iand hx hb dJ6_bitCount_0f7a4_51 ?_
  refine lv_topi (fun x15 e15 => ?_)
  replace hR := bd_to hR e15.symm
  subst hPQ
  exact x_iret E h ⟨hR0.trans hR.symm, rfl⟩ dJ6_bitCount_0f7a4_52
set_option maxHeartbeats 4000000 in
set_option maxRecDepth 100000 in
theorem aX5_dealsOf_0 (l : Launch) (g : CX) (σ : ST) (hI : INV σ) (p2 : Int32) (p3 : Nat) (p4 : Int32) (hh0 : p3 < 6) : XM l g yX5_dealsOf wsX5_dealsOf { frames := 3, cells := 0, slots := 0, locals := 73 } [.ref (g.2.1 58), .ref (g.2.1 16), .int p2, .int (nI p3), .int p4] σ (XQi g (fun r σ' => fX5_dealsOf_0 p2 (nI p3) p4 σ = (r, σ') ∧ INV σ' ∧ Fr [] [(51, 51)] σ σ')) := by
  refine x_met (own := RX5) (cc := cX5_dealsOf) (maxL := 9) (ret := (some .int)) (lv := [(0, .ref (g.2.1 58)), (1, .ref (g.2.1 16)), (2, .int p2), (3, .int (nI p3)), (4, .int p4)]) (by decide) rfl rfl (Nat.le_of_ble_eq_true rfl) rfl ?_
  intro p e s m args below meth c ls E h hl
  have hx := E.1
  have hb := E.2.1
  have hown := E.2.2.2.1
  have hts := E.2.2.2.2.1
  have hF : Fr [] [(51, 51)] σ σ := Fr.refl σ
  obtain ⟨R, hR0⟩ : ∃ R, fX5_dealsOf_0 p2 (nI p3) p4 σ = R := ⟨_, rfl⟩
  have hR : fX5_dealsOf_0b0 p2 (nI p3) p4 σ = R := hR0
  have hwX2 : ∀ w ∈ wsX20, w ∈ wsX5_dealsOf := by decide +kernel
  have hwX5 : ∀ w ∈ wsX50, w ∈ wsX5_dealsOf := by decide +kernel
  generalize hPQ : XQi g (fun r σ' => fX5_dealsOf_0 p2 (nI p3) p4 σ = (r, σ') ∧ INV σ' ∧ Fr [] [(51, 51)] σ σ') = PQz
  refine lv_aload_n hx hb dX5_dealsOf_0 rfl (lv_at hl 1 rfl) ?_
  obtain ⟨n1, b1, e1⟩ := hI.1 5 48 rfl
  refine x_getIN E h (fi_cu_pieces g) rfl hwX2 (by decide) (by decide +kernel) (v := nI n1) e1 dX5_dealsOf_1 ?_
  replace hR := bd_to hR e1
  refine lv_bipush (v := 9) hx hb dX5_dealsOf_4 (by decide) ?_
  refine x_min E hl.1 (by decide +kernel) (by decide +kernel) (by decide +kernel) (by decide +kernel) ⟨Nat.le_of_ble_eq_true rfl, Nat.le_of_ble_eq_true rfl⟩ ⟨Nat.zero_le _, Nat.zero_le _⟩ dX5_dealsOf_6 ?_
  obtain ⟨n2, b2, e2⟩ := y_min (a := n1) (b := 9) (by omega) (by omega)
  refine x_topI (v2 := nI n2) e2 ?_
  replace hR := bd_to hR e2
  refine lv_istore (lv' := [(5, .int (nI n2)), (0, .ref (g.2.1 58)), (1, .ref (g.2.1 16)), (2, .int p2), (3, .int (nI p3)), (4, .int p4)]) hx hb dX5_dealsOf_9 hl (by decide) rfl (fun ls hl => ?_)
  refine lv_aload_n hx hb dX5_dealsOf_11 rfl (lv_at hl 1 rfl) ?_
  refine lv_aload_n hx hb dX5_dealsOf_12 rfl (lv_at hl 2 rfl) ?_
  refine lv_iload hx hb dX5_dealsOf_13 (lv_at hl 0 rfl) ?_
  refine lv_iload_n hx hb dX5_dealsOf_15 rfl (lv_at hl 4 rfl) ?_
  refine x_vv E h (na := 3) (As := [.ref (g.2.1 16), .int (nI n2), .int (nI p3)]) (aX5_fillOffs_0 l g σ hI n2 p3 (by omega) (by omega)) (oc_ke g) rfl gX5_dealsOf_X5_fillOffs rfl ⟨rfl, rfl⟩ rfl (by decide +kernel) ⟨Nat.le_of_ble_eq_true rfl, Nat.le_of_ble_eq_true rfl⟩ hl.1 rfl (Nat.le_of_ble_eq_true rfl) dX5_dealsOf_16 ⟨Nat.le_of_ble_eq_true rfl, Nat.le_of_ble_eq_true rfl⟩ (fun s3 H locs q3 h => ?_)
  obtain ⟨x3, hI3, f3⟩ := q3
  replace hR := bd_to hR x3
  have hF3 := hF.call f3 (I := []) (J := [(51, 51)]) rfl rfl
  have e4 : s3.1 5 = nI n1 := ((f3.1 5 rfl)).trans e1
  refine lv_iload_n hx hb dX5_dealsOf_19 rfl (lv_at hl 3 rfl) ?_
  refine lv_if_lt (tgt := 31) hx hb dX5_dealsOf_20 (by decide) (fun c5 => ?_) (fun c5 => ?_)
  · skip
    replace hR := it_t hR c5
    refine lv_iconst (v := 0) hx hb dX5_dealsOf_31 (by decide) ?_
    subst hPQ
    exact x_iret E h ⟨hR0.trans hR.symm, hI3, hF3⟩ dX5_dealsOf_32
  · skip
    replace hR := it_f hR c5
    refine lv_iload_n hx hb dX5_dealsOf_23 rfl (lv_at hl 3 rfl) ?_
    refine lv_iconst (v := 1) hx hb dX5_dealsOf_24 (by decide) ?_
    refine lv_iload hx hb dX5_dealsOf_25 (lv_at hl 0 rfl) ?_
    refine lv_ishl hx hb dX5_dealsOf_27 ?_
    refine x_topI (v2 := nI (2 ^ n2)) (y_shl1 (p := n2) (by omega)) ?_
    replace hR := bd_to hR (y_shl1 (p := n2) (by omega))
    have b8 := y_pow (p := n2) (by omega)
    refine lv_icmp_lt (tgt := 33) hx hb dX5_dealsOf_28 (by decide) (fun c9 => ?_) (fun c9 => ?_)
    · skip
      replace hR := it_t hR c9
      obtain ⟨n11, b11, rfl⟩ := y_rlt (N := (2 ^ n2)) (y_lo1 c5 (by decide)) c9 (by omega)
      have b12 : 0 ≤ n11 := y_nlt (a := n11) (b := 0) (by omega) (by omega) c5
      have b13 : n11 < (2 ^ n2) := y_lt (a := n11) (b := (2 ^ n2)) (by omega) (by omega) c9
      refine lv_iload_n hx hb dX5_dealsOf_33 rfl (lv_at hl 3 rfl) ?_
      refine x_si E h (na := 1) (As := [.int (nI n11)]) (aJ6_bitCount_0f7a4_0 l g s3 hI3 (nI n11)) gX5_dealsOf_J6_bitCount_0f7a4 rfl ⟨rfl, rfl⟩ rfl (by decide +kernel) ⟨Nat.le_of_ble_eq_true rfl, Nat.le_of_ble_eq_true rfl⟩ hl.1 rfl (Nat.le_of_ble_eq_true rfl) dX5_dealsOf_34 ⟨Nat.le_of_ble_eq_true rfl, Nat.le_of_ble_eq_true rfl⟩ (fun r14 s14 H locs q14 h => ?_)
      obtain ⟨x14, rfl⟩ := q14
      replace hR := bd_to hR x14
      refine lv_istore (lv' := [(6, .int r14), (5, .int (nI n2)), (0, .ref (g.2.1 58)), (1, .ref (g.2.1 16)), (2, .int (nI n11)), (3, .int (nI p3)), (4, .int p4)]) hx hb dX5_dealsOf_37 hl (by decide) rfl (fun ls hl => ?_)
      refine lv_iconst (v := 0) hx hb dX5_dealsOf_39 (by decide) ?_
      refine lv_istore (lv' := [(7, .int 0), (6, .int r14), (5, .int (nI n2)), (0, .ref (g.2.1 58)), (1, .ref (g.2.1 16)), (2, .int (nI n11)), (3, .int (nI p3)), (4, .int p4)]) hx hb dX5_dealsOf_40 hl (by decide) rfl (fun ls hl => ?_)
      refine lv_iconst (v := 0) hx hb dX5_dealsOf_42 (by decide) ?_
      refine lv_istore (lv' := [(8, .int 0), (7, .int 0), (6, .int r14), (5, .int (nI n2)), (0, .ref (g.2.1 58)), (1, .ref (g.2.1 16)), (2, .int (nI n11)), (3, .int (nI p3)), (4, .int p4)]) hx hb dX5_dealsOf_43 hl (by decide) rfl (fun ls hl => ?_)
      have loop45_15 : ∀ (fu : Nat) (i15_8 : Nat) (i15_7 : Int32), i15_8 ≤ 2 ^ n2 → fX5_dealsOf_0l45 fu (nI n11) p4 (nI n2) r14 i15_7 (nI i15_8) s3 = R → 2 ^ n2 - i15_8 < fu → ∀ (H : Heap) (locs : List Loc) (ls : Array Slot), HW g s3 s H locs → lv_has ls 9 [(8, .int (nI i15_8)), (7, .int i15_7), (6, .int r14), (5, .int (nI n2)), (0, .ref (g.2.1 58)), (1, .ref (g.2.1 16)), (2, .int (nI n11)), (3, .int (nI p3)), (4, .int p4)] → W p l e { frames := 3, cells := 0, slots := 0, locals := 73 } s m args below meth c H locs 0 0 (MQ below PQz args s 0 0 (Aw g)) (F0 m 45 ls []) := by
        intro fu15
        induction fu15 with
        | zero => intro i15_8 i15_7 bi15_8 hR15 hm; exact absurd hm (Nat.not_lt_zero _)
        | succ fu15 ih =>
          have ih15 := ih
          clear ih
          intro i15_8 i15_7 bi15_8 hR15 hm15 H locs ls h hl
          replace hR15 : fX5_dealsOf_0b45 (fX5_dealsOf_0l45 fu15) (nI n11) p4 (nI n2) r14 i15_7 (nI i15_8) s3 = R := hR15
          refine lv_iload hx hb dX5_dealsOf_45 (lv_at hl 0 rfl) ?_
          refine lv_iconst (v := 1) hx hb dX5_dealsOf_47 (by decide) ?_
          refine lv_iload hx hb dX5_dealsOf_48 (lv_at hl 3 rfl) ?_
          refine lv_ishl hx hb dX5_dealsOf_50 ?_
          refine x_topI (v2 := nI (2 ^ n2)) (y_shl1 (p := n2) (by omega)) ?_
          replace hR15 := bd_to hR15 (y_shl1 (p := n2) (by omega))
          have b16 := y_pow (p := n2) (by omega)
          refine lv_icmp_ge (tgt := 94) hx hb dX5_dealsOf_51 (by decide) (fun c17 => ?_) (fun c17 => ?_)
          · skip
            replace hR15 := it_t hR15 c17
            have b18 : (2 ^ n2) ≤ i15_8 := y_le (a := (2 ^ n2)) (b := i15_8) (by omega) (by omega) c17
            refine lv_iload hx hb dX5_dealsOf_94 (lv_at hl 1 rfl) ?_
            subst hPQ
            exact x_iret E h ⟨hR0.trans hR15.symm, hI3, hF3⟩ dX5_dealsOf_96
          · skip
            replace hR15 := it_f hR15 c17
            have b19 : i15_8 < (2 ^ n2) := y_nle (a := (2 ^ n2)) (b := i15_8) (by omega) (by omega) c17
            refine lv_iload hx hb dX5_dealsOf_54 (lv_at hl 0 rfl) ?_
            refine x_si E h (na := 1) (As := [.int (nI i15_8)]) (aJ6_bitCount_0f7a4_0 l g s3 hI3 (nI i15_8)) gX5_dealsOf_J6_bitCount_0f7a4 rfl ⟨rfl, rfl⟩ rfl (by decide +kernel) ⟨Nat.le_of_ble_eq_true rfl, Nat.le_of_ble_eq_true rfl⟩ hl.1 rfl (Nat.le_of_ble_eq_true rfl) dX5_dealsOf_56 ⟨Nat.le_of_ble_eq_true rfl, Nat.le_of_ble_eq_true rfl⟩ (fun r20 s20 H locs q20 h => ?_)
            obtain ⟨x20, rfl⟩ := q20
            replace hR15 := bd_to hR15 x20
            refine lv_iload hx hb dX5_dealsOf_59 (lv_at hl 2 rfl) ?_
            have j88_23 : ∀ (y23_l7 : Int32), fX5_dealsOf_0b88 (fX5_dealsOf_0l45 fu15) (nI n11) p4 (nI n2) r14 y23_l7 (nI i15_8) s3 = R → ∀ (H : Heap) (locs : List Loc) (ls : Array Slot), HW g s3 s H locs → lv_has ls 9 [(8, .int (nI i15_8)), (7, .int y23_l7), (6, .int r14), (5, .int (nI n2)), (0, .ref (g.2.1 58)), (1, .ref (g.2.1 16)), (2, .int (nI n11)), (3, .int (nI p3)), (4, .int p4)] → W p l e { frames := 3, cells := 0, slots := 0, locals := 73 } s m args below meth c H locs 0 0 (MQ below PQz args s 0 0 (Aw g)) (F0 m 88 ls []) := by
              intro y23_l7 hR23 H locs ls h hl
              replace hR23 := bd_to hR23 (nI_add i15_8 1)
              refine lv_iinc (v := (nI (i15_8 + 1))) (lv' := [(8, .int (nI (i15_8 + 1))), (7, .int y23_l7), (6, .int r14), (5, .int (nI n2)), (0, .ref (g.2.1 58)), (1, .ref (g.2.1 16)), (2, .int (nI n11)), (3, .int (nI p3)), (4, .int p4)]) hx hb dX5_dealsOf_88 hl (k := 0) rfl (nI_add i15_8 1) (by decide) rfl (fun ls hl => ?_)
              refine lv_goto (tgt := 45) hx hb dX5_dealsOf_91 (by decide) ?_
              exact ih15 (i15_8 + 1) y23_l7 (by omega) hR23 (by omega) _ _ _ h (lv_sub hl [0, 1, 2, 3, 4, 5, 6, 7, 8] rfl)
            refine lv_icmp_ne (tgt := 88) hx hb dX5_dealsOf_61 (by decide) (fun c21 => ?_) (fun c21 => ?_)
            · skip
              replace hR15 := it_f hR15 c21
              exact j88_23 i15_7 hR15 _ _ _ h (lv_sub hl [0, 1, 2, 3, 4, 5, 6, 7, 8] rfl)
            · skip
              replace hR15 := it_t hR15 c21
              refine lv_iload hx hb dX5_dealsOf_64 (lv_at hl 8 rfl) ?_
              refine lv_if_ne (tgt := 85) hx hb dX5_dealsOf_66 (by decide) (fun c25 => ?_) (fun c25 => ?_)
              · skip
                replace hR15 := it_f hR15 c25
                obtain ⟨z27, e27⟩ : ∃ y : Int32, y = i15_7 + 1 := ⟨_, rfl⟩
                replace hR15 := bd_to hR15 e27.symm
                refine lv_iinc (v := z27) (lv' := [(7, .int z27), (8, .int (nI i15_8)), (6, .int r14), (5, .int (nI n2)), (0, .ref (g.2.1 58)), (1, .ref (g.2.1 16)), (2, .int (nI n11)), (3, .int (nI p3)), (4, .int p4)]) hx hb dX5_dealsOf_85 hl (k := 1) rfl e27.symm (by decide) rfl (fun ls hl => ?_)
                exact j88_23 z27 hR15 _ _ _ h (lv_sub hl [1, 0, 2, 3, 4, 5, 6, 7, 8] rfl)
              · skip
                replace hR15 := it_t hR15 c25
                refine lv_aload_n hx hb dX5_dealsOf_69 rfl (lv_at hl 4 rfl) ?_
                refine x_getR E h (fr_ke_offs g) rfl hwX5 (by decide) (by decide +kernel) dX5_dealsOf_70 ?_
                refine lv_iload hx hb dX5_dealsOf_73 (lv_at hl 0 rfl) ?_
                refine x_ldI E h (ia_ke_offs g) (i := nI i15_8) (vp_in_nI (by omega) (by decide)) (v := s3.2.2 51 i15_8) (congrArg (s3.2.2 51) (nI_clamp (n := i15_8) (by omega))) dX5_dealsOf_75 ?_
                replace hR15 := bd_to hR15 (congrArg (s3.2.2 51) (nI_clamp (n := i15_8) (by omega)))
                refine lv_aload_n hx hb dX5_dealsOf_76 rfl (lv_at hl 4 rfl) ?_
                refine x_getR E h (fr_ke_offs g) rfl hwX5 (by decide) (by decide +kernel) dX5_dealsOf_77 ?_
                refine lv_iload_n hx hb dX5_dealsOf_80 rfl (lv_at hl 6 rfl) ?_
                refine x_ldI E h (ia_ke_offs g) (i := nI n11) (vp_in_nI (by omega) (by decide)) (v := s3.2.2 51 n11) (congrArg (s3.2.2 51) (nI_clamp (n := n11) (by omega))) dX5_dealsOf_81 ?_
                replace hR15 := bd_to hR15 (congrArg (s3.2.2 51) (nI_clamp (n := n11) (by omega)))
                refine lv_icmp_gt (tgt := 88) hx hb dX5_dealsOf_82 (by decide) (fun c29 => ?_) (fun c29 => ?_)
                · skip
                  replace hR15 := it_t hR15 c29
                  exact j88_23 i15_7 hR15 _ _ _ h (lv_sub hl [0, 1, 2, 3, 4, 5, 6, 7, 8] rfl)
                · skip
                  replace hR15 := it_f hR15 c29
                  obtain ⟨z32, e32⟩ : ∃ y : Int32, y = i15_7 + 1 := ⟨_, rfl⟩
                  replace hR15 := bd_to hR15 e32.symm
                  refine lv_iinc (v := z32) (lv' := [(7, .int z32), (8, .int (nI i15_8)), (6, .int r14), (5, .int (nI n2)), (0, .ref (g.2.1 58)), (1, .ref (g.2.1 16)), (2, .int (nI n11)), (3, .int (nI p3)), (4, .int p4)]) hx hb dX5_dealsOf_85 hl (k := 1) rfl e32.symm (by decide) rfl (fun ls hl => ?_)
                  exact j88_23 z32 hR15 _ _ _ h (lv_sub hl [1, 0, 2, 3, 4, 5, 6, 7, 8] rfl)
      exact loop45_15 4096 0 0 (Nat.zero_le _) hR (by omega) _ _ _ h (lv_sub hl [0, 1, 2, 3, 4, 5, 6, 7, 8] rfl)
    · skip
      replace hR := it_f hR c9
      refine lv_iconst (v := 0) hx hb dX5_dealsOf_31 (by decide) ?_
      subst hPQ
      exact x_iret E h ⟨hR0.trans hR.symm, hI3, hF3⟩ dX5_dealsOf_32
set_option maxHeartbeats 4000000 in
set_option maxRecDepth 100000 in
theorem aX11_odds_0 (l : Launch) (g : CX) (σ : ST) (hI : INV σ) (p1 : Int32) (p2 : Int32) (p3 : Int32) : XM l g yX11_odds wsX11_odds { frames := 17, cells := 0, slots := 0, locals := 441 } [.ref (g.2.1 0), .int p1, .int p2, .int p3] σ (XQi g (fun r σ' => fX11_odds_0 p1 p2 p3 σ = (r, σ') ∧ INV σ' ∧ Fr [(3, 12), (14, 18), (22, 23)] [(8, 19), (21, 29), (31, 41), (43, 47), (51, 51)] σ σ')) := by
  refine x_met (own := RX11) (cc := cX11_odds) (maxL := 5) (ret := (some .int)) (lv := [(0, .ref (g.2.1 0)), (1, .int p1), (2, .int p2), (3, .int p3)]) (by decide) rfl rfl (Nat.le_of_ble_eq_true rfl) rfl ?_
  intro p e s m args below meth c ls E h hl
  have hx := E.1
  have hb := E.2.1
  have hown := E.2.2.2.1
  have hts := E.2.2.2.2.1
  have hF : Fr [(3, 12), (14, 18), (22, 23)] [(8, 19), (21, 29), (31, 41), (43, 47), (51, 51)] σ σ := Fr.refl σ
  obtain ⟨R, hR0⟩ : ∃ R, fX11_odds_0 p1 p2 p3 σ = R := ⟨_, rfl⟩
  have hR : fX11_odds_0b0 p1 p2 p3 σ = R := hR0
  have hwX0 : ∀ w ∈ wsX00, w ∈ wsX11_odds := by decide +kernel
  have hwX11 : ∀ w ∈ wsX110, w ∈ wsX11_odds := by decide +kernel
  have hwX2 : ∀ w ∈ wsX20, w ∈ wsX11_odds := by decide +kernel
  generalize hPQ : XQi g (fun r σ' => fX11_odds_0 p1 p2 p3 σ = (r, σ') ∧ INV σ' ∧ Fr [(3, 12), (14, 18), (22, 23)] [(8, 19), (21, 29), (31, 41), (43, 47), (51, 51)] σ σ') = PQz
  refine lv_iload_n hx hb dX11_odds_0 rfl (lv_at hl 1 rfl) ?_
  refine x_si E h (na := 1) (As := [.int p1]) (aX11_isHeapNumber_0 l g σ hI p1) gX11_odds_X11_isHeapNumber rfl ⟨rfl, rfl⟩ rfl (by decide +kernel) ⟨Nat.le_of_ble_eq_true rfl, Nat.le_of_ble_eq_true rfl⟩ hl.1 rfl (Nat.le_of_ble_eq_true rfl) dX11_odds_1 ⟨Nat.le_of_ble_eq_true rfl, Nat.le_of_ble_eq_true rfl⟩ (fun r1 s1 H locs q1 h => ?_)
  obtain ⟨x1, d1, rfl⟩ := q1
  replace hR := bd_to hR x1
  rcases d1 with ⟨rfl, m1_0n, u1_0_0, rfl⟩ | rfl
  · skip
    replace hR := it_f hR (by decide)
    refine lv_if_eq (tgt := 27) hx hb dX11_odds_4 (by decide) (fun c => absurd c (by decide)) (fun _ => ?_)
    refine lv_aload_n hx hb dX11_odds_7 rfl (lv_at hl 0 rfl) ?_
    refine x_getR E h (fr_vh_kept g) rfl hwX11 (by decide) (by decide +kernel) dX11_odds_8 ?_
    refine lv_iload_n hx hb dX11_odds_11 rfl (lv_at hl 2 rfl) ?_
    refine x_vi E h (na := 1) (As := [.int p2]) (aX5_has_0 l g σ hI p2) (oc_ke g) rfl gX11_odds_X5_has rfl ⟨rfl, rfl⟩ rfl (by decide +kernel) ⟨Nat.le_of_ble_eq_true rfl, Nat.le_of_ble_eq_true rfl⟩ hl.1 rfl (Nat.le_of_ble_eq_true rfl) dX11_odds_12 ⟨Nat.le_of_ble_eq_true rfl, Nat.le_of_ble_eq_true rfl⟩ (fun r2 s2 H locs q2 h => ?_)
    obtain ⟨x2, d2, rfl⟩ := q2
    replace hR := bd_to hR x2
    rcases d2 with ⟨rfl, m2_0n, m2_0K, u2_0_0, u2_0_1, u2_0_2, rfl⟩ | rfl
    · skip
      replace hR := it_f hR (by decide)
      refine lv_if_eq (tgt := 27) hx hb dX11_odds_15 (by decide) (fun c => absurd c (by decide)) (fun _ => ?_)
      refine lv_iload_n hx hb dX11_odds_18 rfl (lv_at hl 3 rfl) ?_
      refine lv_iconst (v := 0) hx hb dX11_odds_19 (by decide) ?_
      refine lv_iconst (v := 1) hx hb dX11_odds_20 (by decide) ?_
      refine x_si E h (na := 3) (As := [.int p3, .int 0, .int 1]) (aX11_within_0 l g σ hI p3 0 1) gX11_odds_X11_within rfl ⟨rfl, rfl⟩ rfl (by decide +kernel) ⟨Nat.le_of_ble_eq_true rfl, Nat.le_of_ble_eq_true rfl⟩ hl.1 rfl (Nat.le_of_ble_eq_true rfl) dX11_odds_21 ⟨Nat.le_of_ble_eq_true rfl, Nat.le_of_ble_eq_true rfl⟩ (fun r3 s3 H locs q3 h => ?_)
      obtain ⟨x3, d3, rfl⟩ := q3
      replace hR := bd_to hR x3
      rcases d3 with ⟨rfl, u3_0_0, u3_0_1⟩ | rfl
      · skip
        obtain ⟨n4, b4, rfl⟩ := y_rnlt (N := 1) (y_lo1 u3_0_0 (by decide)) u3_0_1 (by omega)
        have b5 : 0 ≤ n4 := y_nlt (a := n4) (b := 0) (by omega) (by omega) u3_0_0
        have b6 : n4 ≤ 1 := y_nlt (a := 1) (b := n4) (by omega) (by omega) u3_0_1
        replace hR := it_f hR (by decide)
        refine lv_if_ne (tgt := 29) hx hb dX11_odds_24 (by decide) (fun _ => ?_) (fun c => absurd c (by decide))
        refine lv_aload_n hx hb dX11_odds_29 rfl (lv_at hl 0 rfl) ?_
        refine lv_iload_n hx hb dX11_odds_30 rfl (lv_at hl 1 rfl) ?_
        refine x_vi E h (na := 1) (As := [.int (nI m1_0n)]) (aX11_refusedHeap_0 l g σ hI (nI m1_0n)) (oc_vh g) rfl gX11_odds_X11_refusedHeap rfl ⟨rfl, rfl⟩ rfl (by decide +kernel) ⟨Nat.le_of_ble_eq_true rfl, Nat.le_of_ble_eq_true rfl⟩ hl.1 rfl (Nat.le_of_ble_eq_true rfl) dX11_odds_31 ⟨Nat.le_of_ble_eq_true rfl, Nat.le_of_ble_eq_true rfl⟩ (fun r7 s7 H locs q7 h => ?_)
        obtain ⟨x7, hI7, f7⟩ := q7
        replace hR := bp_to hR x7
        have hF7 := hF.call f7 (I := [(3, 12), (14, 18), (22, 23)]) (J := [(8, 19), (21, 29), (31, 41), (43, 47), (51, 51)]) rfl rfl
        have e8 : s7.1 19 = nI m2_0K := ((f7.1 19 rfl)).trans u2_0_0
        refine lv_istore (lv' := [(4, .int r7), (0, .ref (g.2.1 0)), (1, .int (nI m1_0n)), (2, .int (nI m2_0n)), (3, .int (nI n4))]) hx hb dX11_odds_34 hl (by decide) rfl (fun ls hl => ?_)
        refine lv_iload hx hb dX11_odds_36 (lv_at hl 0 rfl) ?_
        refine lv_if_ge (tgt := 44) hx hb dX11_odds_38 (by decide) (fun c9 => ?_) (fun c9 => ?_)
        · skip
          replace hR := it_t hR c9
          refine lv_aload_n hx hb dX11_odds_44 rfl (lv_at hl 1 rfl) ?_
          refine x_getR E h (fr_vh_kept g) rfl hwX11 (by decide) (by decide +kernel) dX11_odds_45 ?_
          refine lv_aload_n hx hb dX11_odds_48 rfl (lv_at hl 1 rfl) ?_
          refine x_getR E h (fr_vh_cutting g) rfl hwX11 (by decide) (by decide +kernel) dX11_odds_49 ?_
          refine lv_aload_n hx hb dX11_odds_52 rfl (lv_at hl 1 rfl) ?_
          refine x_getR E h (fr_vh_all g) rfl hwX11 (by decide) (by decide +kernel) dX11_odds_53 ?_
          refine x_getRN E h (fr_al_best g) rfl hwX0 (by decide) (by decide +kernel) dX11_odds_56 ?_
          refine lv_iload_n hx hb dX11_odds_59 rfl (lv_at hl 2 rfl) ?_
          refine lv_aload_n hx hb dX11_odds_60 rfl (lv_at hl 1 rfl) ?_
          refine x_getR E h (fr_vh_cutting g) rfl hwX11 (by decide) (by decide +kernel) dX11_odds_61 ?_
          obtain ⟨n11, b11, e11⟩ := hI7.1 5 48 rfl
          refine x_getIN E h (fi_cu_pieces g) rfl hwX2 (by decide) (by decide +kernel) (v := nI n11) e11 dX11_odds_64 ?_
          replace hR := bd_to hR e11
          refine x_vi E h (na := 2) (As := [.int (nI m1_0n), .int (nI n11)]) (aX4_membersOf_0 l g s7 hI7 (nI m1_0n) (nI n11)) (oc_be g) rfl gX11_odds_X4_membersOf rfl ⟨rfl, rfl⟩ rfl (by decide +kernel) ⟨Nat.le_of_ble_eq_true rfl, Nat.le_of_ble_eq_true rfl⟩ hl.1 rfl (Nat.le_of_ble_eq_true rfl) dX11_odds_67 ⟨Nat.le_of_ble_eq_true rfl, Nat.le_of_ble_eq_true rfl⟩ (fun r12 s12 H locs q12 h => ?_)
          obtain ⟨x12, rfl⟩ := q12
          replace hR := bd_to hR x12
          refine lv_iload_n hx hb dX11_odds_70 rfl (lv_at hl 3 rfl) ?_
          refine lv_iload_n hx hb dX11_odds_71 rfl (lv_at hl 4 rfl) ?_
          refine lv_iconst (v := 1) hx hb dX11_odds_72 (by decide) ?_
          have j81_15 : ∀ (y15_s0 : Int32), fX11_odds_0b81 y15_s0 (nI m2_0n) r12 s7 = R → ∀ (H : Heap) (locs : List Loc) (ls : Array Slot), HW g s7 s H locs → lv_has ls 5 [(4, .int r7), (0, .ref (g.2.1 0)), (1, .int (nI m1_0n)), (2, .int (nI m2_0n)), (3, .int (nI n4))] → W p l e { frames := 17, cells := 0, slots := 0, locals := 441 } s m args below meth c H locs 0 0 (MQ below PQz args s 0 0 (Aw g)) (F0 m 81 ls [.int y15_s0, .int (nI m2_0n), .int r12, .ref (g.2.1 16), .ref (g.2.1 58)]) := by
            intro y15_s0 hR15 H locs ls h hl
            refine x_vi E h (na := 4) (As := [.ref (g.2.1 16), .int r12, .int (nI m2_0n), .int y15_s0]) (aX5_dealsOf_0 l g s7 hI7 r12 m2_0n y15_s0 (by omega)) (oc_ke g) rfl gX11_odds_X5_dealsOf rfl ⟨rfl, rfl⟩ rfl (by decide +kernel) ⟨Nat.le_of_ble_eq_true rfl, Nat.le_of_ble_eq_true rfl⟩ hl.1 rfl (Nat.le_of_ble_eq_true rfl) dX11_odds_81 ⟨Nat.le_of_ble_eq_true rfl, Nat.le_of_ble_eq_true rfl⟩ (fun r16 s16 H locs q16 h => ?_)
            obtain ⟨x16, hI16, f16⟩ := q16
            replace hR15 := bp_to hR15 x16
            have hF16 := hF7.call f16 (I := [(3, 12), (14, 18), (22, 23)]) (J := [(8, 19), (21, 29), (31, 41), (43, 47), (51, 51)]) rfl rfl
            have e17 : s16.1 19 = nI m2_0K := ((f16.1 19 rfl)).trans e8
            have e18 : s16.1 5 = nI n11 := ((f16.1 5 rfl)).trans e11
            subst hPQ
            exact x_iret E h ⟨hR0.trans hR15.symm, hI16, hF16⟩ dX11_odds_84
          refine lv_icmp_ne (tgt := 80) hx hb dX11_odds_73 (by decide) (fun c13 => ?_) (fun c13 => ?_)
          · skip
            replace hR := it_f hR c13
            have b14 : ¬ n4 = 1 := y_ne (a := n4) (b := 1) (by omega) (by omega) c13
            refine lv_iconst (v := 0) hx hb dX11_odds_80 (by decide) ?_
            exact j81_15 0 hR _ _ _ h (lv_sub hl [0, 1, 2, 3, 4] rfl)
          · skip
            replace hR := it_t hR c13
            have b19 : n4 = 1 := y_eq (a := n4) (b := 1) (by omega) (by omega) c13
            refine lv_iconst (v := 1) hx hb dX11_odds_76 (by decide) ?_
            refine lv_goto (tgt := 81) hx hb dX11_odds_77 (by decide) ?_
            exact j81_15 1 hR _ _ _ h (lv_sub hl [0, 1, 2, 3, 4] rfl)
        · skip
          replace hR := it_f hR c9
          refine lv_iload hx hb dX11_odds_41 (lv_at hl 0 rfl) ?_
          subst hPQ
          exact x_iret E h ⟨hR0.trans hR.symm, hI7, hF7⟩ dX11_odds_43
      · skip
        replace hR := it_t hR (by decide)
        refine lv_if_ne (tgt := 29) hx hb dX11_odds_24 (by decide) (fun c => absurd (by decide) c) (fun _ => ?_)
        refine lv_iconst (v := (-1)) hx hb dX11_odds_27 (by decide) ?_
        subst hPQ
        exact x_iret E h ⟨hR0.trans hR.symm, hI, hF⟩ dX11_odds_28
    · skip
      replace hR := it_t hR (by decide)
      refine lv_if_eq (tgt := 27) hx hb dX11_odds_15 (by decide) (fun _ => ?_) (fun c => absurd (by decide) c)
      refine lv_iconst (v := (-1)) hx hb dX11_odds_27 (by decide) ?_
      subst hPQ
      exact x_iret E h ⟨hR0.trans hR.symm, hI, hF⟩ dX11_odds_28
  · skip
    replace hR := it_t hR (by decide)
    refine lv_if_eq (tgt := 27) hx hb dX11_odds_4 (by decide) (fun _ => ?_) (fun c => absurd (by decide) c)
    refine lv_iconst (v := (-1)) hx hb dX11_odds_27 (by decide) ?_
    subst hPQ
    exact x_iret E h ⟨hR0.trans hR.symm, hI, hF⟩ dX11_odds_28
set_option maxHeartbeats 4000000 in
set_option maxRecDepth 100000 in
theorem aX11_heapOfRow_0 (l : Launch) (g : CX) (σ : ST) (hI : INV σ) (p1 : Nat) (hh0 : p1 < 48) : XM l g yX11_heapOfRow wsX11_heapOfRow { frames := 1, cells := 0, slots := 0, locals := 22 } [.ref (g.2.1 0), .int (nI p1)] σ (XQi g (fun r σ' => fX11_heapOfRow_0 (nI p1) σ = r ∧ σ = σ')) := by
  refine x_met (own := RX11) (cc := cX11_heapOfRow) (maxL := 3) (ret := (some .int)) (lv := [(0, .ref (g.2.1 0)), (1, .int (nI p1))]) (by decide) rfl rfl (Nat.le_of_ble_eq_true rfl) rfl ?_
  intro p e s m args below meth c ls E h hl
  have hx := E.1
  have hb := E.2.1
  have hown := E.2.2.2.1
  have hts := E.2.2.2.2.1
  obtain ⟨R, hR0⟩ : ∃ R, fX11_heapOfRow_0 (nI p1) σ = R := ⟨_, rfl⟩
  have hR : fX11_heapOfRow_0b0 (nI p1) σ = R := hR0
  have hwX0 : ∀ w ∈ wsX00, w ∈ wsX11_heapOfRow := by decide +kernel
  have hwX11 : ∀ w ∈ wsX110, w ∈ wsX11_heapOfRow := by decide +kernel
  have hwX2 : ∀ w ∈ wsX20, w ∈ wsX11_heapOfRow := by decide +kernel
  have hwX4 : ∀ w ∈ wsX40, w ∈ wsX11_heapOfRow := by decide +kernel
  generalize hPQ : XQi g (fun r σ' => fX11_heapOfRow_0 (nI p1) σ = r ∧ σ = σ') = PQz
  refine lv_aload_n hx hb dX11_heapOfRow_0 rfl (lv_at hl 0 rfl) ?_
  refine x_getR E h (fr_vh_cutting g) rfl hwX11 (by decide) (by decide +kernel) dX11_heapOfRow_1 ?_
  refine x_getRN E h (fr_cu_pieceOf g) rfl hwX2 (by decide) (by decide +kernel) dX11_heapOfRow_4 ?_
  refine lv_iload_n hx hb dX11_heapOfRow_7 rfl (lv_at hl 1 rfl) ?_
  refine x_ldI E h (ia_cu_pieceOf g) (i := nI p1) (vp_in_nI (by omega) (by decide)) (v := σ.2.2 17 p1) (congrArg (σ.2.2 17) (nI_clamp (n := p1) (by omega))) dX11_heapOfRow_8 ?_
  replace hR := bd_to hR (congrArg (σ.2.2 17) (nI_clamp (n := p1) (by omega)))
  refine lv_topi (fun x1 e1 => ?_)
  try rw [← e1] at hR
  refine lv_istore_n (lv' := [(2, .int x1), (0, .ref (g.2.1 0)), (1, .int (nI p1))]) hx hb dX11_heapOfRow_9 rfl hl (by decide) rfl (fun ls hl => ?_)
  refine lv_iload_n hx hb dX11_heapOfRow_10 rfl (lv_at hl 0 rfl) ?_
  refine lv_iconst (v := 0) hx hb dX11_heapOfRow_11 (by decide) ?_
  refine lv_bipush (v := 8) hx hb dX11_heapOfRow_12 (by decide) ?_
  refine x_si E h (na := 3) (As := [.int x1, .int 0, .int 8]) (aX11_within_0 l g σ hI x1 0 8) gX11_heapOfRow_X11_within rfl ⟨rfl, rfl⟩ rfl (by decide +kernel) ⟨Nat.le_of_ble_eq_true rfl, Nat.le_of_ble_eq_true rfl⟩ hl.1 rfl (Nat.le_of_ble_eq_true rfl) dX11_heapOfRow_14 ⟨Nat.le_of_ble_eq_true rfl, Nat.le_of_ble_eq_true rfl⟩ (fun r2 s2 H locs q2 h => ?_)
  obtain ⟨x2, d2, rfl⟩ := q2
  replace hR := bd_to hR x2
  rcases d2 with ⟨rfl, u2_0_0, u2_0_1⟩ | rfl
  · skip
    obtain ⟨n3, b3, rfl⟩ := y_rnlt (N := 8) (y_lo1 u2_0_0 (by decide)) u2_0_1 (by omega)
    have b4 : 0 ≤ n3 := y_nlt (a := n3) (b := 0) (by omega) (by omega) u2_0_0
    have b5 : n3 ≤ 8 := y_nlt (a := 8) (b := n3) (by omega) (by omega) u2_0_1
    replace hR := it_f hR (by decide)
    refine lv_if_eq (tgt := 35) hx hb dX11_heapOfRow_17 (by decide) (fun c => absurd c (by decide)) (fun _ => ?_)
    refine lv_aload_n hx hb dX11_heapOfRow_20 rfl (lv_at hl 1 rfl) ?_
    refine x_getR E h (fr_vh_all g) rfl hwX11 (by decide) (by decide +kernel) dX11_heapOfRow_21 ?_
    refine x_getRN E h (fr_al_best g) rfl hwX0 (by decide) (by decide +kernel) dX11_heapOfRow_24 ?_
    refine x_getRN E h (fr_be_heapOf g) rfl hwX4 (by decide) (by decide +kernel) dX11_heapOfRow_27 ?_
    refine lv_iload_n hx hb dX11_heapOfRow_30 rfl (lv_at hl 0 rfl) ?_
    obtain ⟨n6, b6, e6⟩ := hI.2 41 8 rfl n3
    refine x_ldI E h (ia_be_heapOf g) (i := nI n3) (vp_in_nI (by omega) (by decide)) (v := nI n6) ((congrArg (σ.2.2 41) (nI_clamp (n := n3) (by omega))).trans e6) dX11_heapOfRow_31 ?_
    replace hR := bd_to hR ((congrArg (σ.2.2 41) (nI_clamp (n := n3) (by omega))).trans e6)
    refine lv_goto (tgt := 37) hx hb dX11_heapOfRow_32 (by decide) ?_
    subst hPQ
    exact x_iret E h ⟨hR0.trans hR.symm, rfl⟩ dX11_heapOfRow_37
  · skip
    replace hR := it_t hR (by decide)
    refine lv_if_eq (tgt := 35) hx hb dX11_heapOfRow_17 (by decide) (fun _ => ?_) (fun c => absurd (by decide) c)
    refine lv_bipush (v := (-9)) hx hb dX11_heapOfRow_35 (by decide) ?_
    replace hR : fX11_heapOfRow_0b37 (-9) σ = R := hR
    subst hPQ
    exact x_iret E h ⟨hR0.trans hR.symm, rfl⟩ dX11_heapOfRow_37
set_option maxHeartbeats 4000000 in
set_option maxRecDepth 100000 in
theorem aX11_show_0 (l : Launch) (g : CX) (σ : ST) (hI : INV σ)  : XM l g yX11_show wsX11_show { frames := 16, cells := 0, slots := 0, locals := 420 } [.ref (g.2.1 0)] σ (XQi g (fun r σ' => fX11_show_0 σ = (r, σ') ∧ INV σ' ∧ Fr [(3, 12), (14, 18), (21, 23)] [(8, 19), (21, 29), (31, 41), (43, 47), (65, 65)] σ σ')) := by
  refine x_met (own := RX11) (cc := cX11_show) (maxL := 2) (ret := (some .int)) (lv := [(0, .ref (g.2.1 0))]) (by decide) rfl rfl (Nat.le_of_ble_eq_true rfl) rfl ?_
  intro p e s m args below meth c ls E h hl
  have hx := E.1
  have hb := E.2.1
  have hown := E.2.2.2.1
  have hts := E.2.2.2.2.1
  have hF : Fr [(3, 12), (14, 18), (21, 23)] [(8, 19), (21, 29), (31, 41), (43, 47), (65, 65)] σ σ := Fr.refl σ
  obtain ⟨R, hR0⟩ : ∃ R, fX11_show_0 σ = R := ⟨_, rfl⟩
  have hR : fX11_show_0b0 σ = R := hR0
  have hwX11 : ∀ w ∈ wsX110, w ∈ wsX11_show := by decide +kernel
  have hwX7 : ∀ w ∈ wsX70, w ∈ wsX11_show := by decide +kernel
  generalize hPQ : XQi g (fun r σ' => fX11_show_0 σ = (r, σ') ∧ INV σ' ∧ Fr [(3, 12), (14, 18), (21, 23)] [(8, 19), (21, 29), (31, 41), (43, 47), (65, 65)] σ σ') = PQz
  refine lv_aload_n hx hb dX11_show_0 rfl (lv_at hl 0 rfl) ?_
  refine x_vi E h (na := 0) (As := []) (aX11_heapNow_1 l g σ hI) (oc_vh g) rfl gX11_show_X11_heapNow rfl ⟨rfl, rfl⟩ rfl (by decide +kernel) ⟨Nat.le_of_ble_eq_true rfl, Nat.le_of_ble_eq_true rfl⟩ hl.1 rfl (Nat.le_of_ble_eq_true rfl) dX11_show_1 ⟨Nat.le_of_ble_eq_true rfl, Nat.le_of_ble_eq_true rfl⟩ (fun r1 s1 H locs q1 h => ?_)
  obtain ⟨x1, d1, hI1, f1⟩ := q1
  replace hR := bp_to hR x1
  have hF1 := hF.call f1 (I := [(3, 12), (14, 18), (21, 23)]) (J := [(8, 19), (21, 29), (31, 41), (43, 47), (65, 65)]) rfl rfl
  rcases d1 with ⟨rfl, m1_0P, u1_0_0, u1_0_1, u1_0_2⟩ | rfl
  · skip
    replace hR := it_f hR (by decide)
    refine lv_if_ne (tgt := 10) hx hb dX11_show_4 (by decide) (fun _ => ?_) (fun c => absurd c (by decide))
    refine lv_iconst (v := 0) hx hb dX11_show_10 (by decide) ?_
    refine lv_istore_n (lv' := [(1, .int 0), (0, .ref (g.2.1 0))]) hx hb dX11_show_11 rfl hl (by decide) rfl (fun ls hl => ?_)
    obtain ⟨n3, b3, e3⟩ := hI1.1 2 48 rfl
    have loop12_2 : ∀ (fu : Nat) (t2 : ST) (i2_1 : Nat), INV t2 → Fr [(3, 12), (14, 18), (21, 23)] [(8, 19), (21, 29), (31, 41), (43, 47), (65, 65)] σ t2 → t2.1 5 = nI m1_0P → t2.1 22 = 0 → t2.1 2 = nI n3 → i2_1 ≤ n3 → fX11_show_0l12 fu (nI i2_1) t2 = R → n3 - i2_1 < fu → ∀ (H : Heap) (locs : List Loc) (ls : Array Slot), HW g t2 s H locs → lv_has ls 2 [(1, .int (nI i2_1)), (0, .ref (g.2.1 0))] → W p l e { frames := 16, cells := 0, slots := 0, locals := 420 } s m args below meth c H locs 0 0 (MQ below PQz args s 0 0 (Aw g)) (F0 m 12 ls []) := by
      intro fu2
      induction fu2 with
      | zero => intro t2 i2_1 hI_2 hF_2 e4 e5 e6 bi2_1 hR2 hm; exact absurd hm (Nat.not_lt_zero _)
      | succ fu2 ih =>
        have ih2 := ih
        clear ih
        intro t2 i2_1 hI_2 hF_2 e4 e5 e6 bi2_1 hR2 hm2 H locs ls h hl
        replace hR2 : fX11_show_0b12 (fX11_show_0l12 fu2) (nI i2_1) t2 = R := hR2
        refine lv_iload_n hx hb dX11_show_12 rfl (lv_at hl 0 rfl) ?_
        refine lv_aload_n hx hb dX11_show_13 rfl (lv_at hl 1 rfl) ?_
        refine x_getR E h (fr_vh_book g) rfl hwX11 (by decide) (by decide +kernel) dX11_show_14 ?_
        refine x_getIN E h (fi_bk_rows g) rfl hwX7 (by decide) (by decide +kernel) (v := nI n3) e6 dX11_show_17 ?_
        replace hR2 := bd_to hR2 e6
        refine lv_icmp_ge (tgt := 40) hx hb dX11_show_20 (by decide) (fun c7 => ?_) (fun c7 => ?_)
        · skip
          replace hR2 := it_t hR2 c7
          have b8 : n3 ≤ i2_1 := y_le (a := n3) (b := i2_1) (by omega) (by omega) c7
          refine lv_aload_n hx hb dX11_show_40 rfl (lv_at hl 1 rfl) ?_
          refine lv_aload_n hx hb dX11_show_41 rfl (lv_at hl 1 rfl) ?_
          refine x_getR E h (fr_vh_book g) rfl hwX11 (by decide) (by decide +kernel) dX11_show_42 ?_
          refine x_getIN E h (fi_bk_rows g) rfl hwX7 (by decide) (by decide +kernel) (v := nI n3) e6 dX11_show_45 ?_
          replace hR2 := bd_to hR2 e6
          refine y_putI E h hI_2 hF_2 (ty := .int) (v := nI n3) (fi_vh_shownRows g) rfl hwX11 tyX11_ok nmX11 (by decide) (by decide +kernel) (by decide +kernel) (by decide +kernel) rfl rfl (ba_none rfl) rfl dX11_show_48 (fun s9 H locs q9 hI9 hF9 h => ?_)
          replace hR2 := bd_to hR2 q9.symm
          have e10 : s9.1 5 = nI m1_0P := (congrArg (fun t : ST => t.1 5) q9).trans e4
          have e11 : s9.1 22 = 0 := (congrArg (fun t : ST => t.1 22) q9).trans e5
          have e12 : s9.1 2 = nI n3 := (congrArg (fun t : ST => t.1 2) q9).trans e6
          have e13 : s9.1 21 = nI n3 := congrArg (fun t : ST => t.1 21) q9
          refine lv_aload_n hx hb dX11_show_51 rfl (lv_at hl 1 rfl) ?_
          refine x_getI E h (fi_vh_shownRows g) rfl hwX11 (by decide) (by decide +kernel) (v := nI n3) e13 dX11_show_52 ?_
          replace hR2 := bd_to hR2 e13
          subst hPQ
          exact x_iret E h ⟨hR0.trans hR2.symm, hI9, hF9⟩ dX11_show_55
        · skip
          replace hR2 := it_f hR2 c7
          have b14 : i2_1 < n3 := y_nle (a := n3) (b := i2_1) (by omega) (by omega) c7
          refine lv_aload_n hx hb dX11_show_23 rfl (lv_at hl 1 rfl) ?_
          refine x_getR E h (fr_vh_shownHeap g) rfl hwX11 (by decide) (by decide +kernel) dX11_show_24 ?_
          refine lv_iload_n hx hb dX11_show_27 rfl (lv_at hl 0 rfl) ?_
          refine lv_aload_n hx hb dX11_show_28 rfl (lv_at hl 1 rfl) ?_
          refine lv_iload_n hx hb dX11_show_29 rfl (lv_at hl 0 rfl) ?_
          refine x_vi E h (na := 1) (As := [.int (nI i2_1)]) (aX11_heapOfRow_0 l g t2 hI_2 i2_1 (by omega)) (oc_vh g) rfl gX11_show_X11_heapOfRow rfl ⟨rfl, rfl⟩ rfl (by decide +kernel) ⟨Nat.le_of_ble_eq_true rfl, Nat.le_of_ble_eq_true rfl⟩ hl.1 rfl (Nat.le_of_ble_eq_true rfl) dX11_show_30 ⟨Nat.le_of_ble_eq_true rfl, Nat.le_of_ble_eq_true rfl⟩ (fun r15 s15 H locs q15 h => ?_)
          obtain ⟨x15, rfl⟩ := q15
          replace hR2 := bd_to hR2 x15
          refine y_stI E h hI_2 hF_2 (ia_vh_shownHeap g) (i := nI i2_1) (vp_in_nI (by omega) (by decide)) (j := i2_1) (nI_clamp (by omega)) (ba_none rfl) rfl dX11_show_33 (fun s16 H locs q16 hI16 hF16 h => ?_)
          replace hR2 := st_to hR2 (nI_clamp (n := i2_1) (by omega)) q16
          have e17 : s16.1 5 = nI m1_0P := (congrArg (fun t : ST => t.1 5) q16).trans e4
          have e18 : s16.1 22 = 0 := (congrArg (fun t : ST => t.1 22) q16).trans e5
          have e19 : s16.1 2 = nI n3 := (congrArg (fun t : ST => t.1 2) q16).trans e6
          replace hR2 := bd_to hR2 (nI_add i2_1 1)
          refine lv_iinc (v := (nI (i2_1 + 1))) (lv' := [(1, .int (nI (i2_1 + 1))), (0, .ref (g.2.1 0))]) hx hb dX11_show_34 hl (k := 0) rfl (nI_add i2_1 1) (by decide) rfl (fun ls hl => ?_)
          refine lv_goto (tgt := 12) hx hb dX11_show_37 (by decide) ?_
          exact ih2 s16 (i2_1 + 1) hI16 hF16 e17 e18 e19 (by omega) hR2 (by omega) _ _ _ h (lv_sub hl [0, 1] rfl)
    exact loop12_2 4096 s1 0 hI1 hF1 u1_0_0 u1_0_2 e3 (Nat.zero_le _) hR (by omega) _ _ _ h (lv_sub hl [0, 1] rfl)
  · skip
    replace hR := it_t hR (by decide)
    refine lv_if_ne (tgt := 10) hx hb dX11_show_4 (by decide) (fun c => absurd (by decide) c) (fun _ => ?_)
    refine lv_bipush (v := (-2)) hx hb dX11_show_7 (by decide) ?_
    subst hPQ
    exact x_iret E h ⟨hR0.trans hR.symm, hI1, hF1⟩ dX11_show_9
