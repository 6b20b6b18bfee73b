set_option maxHeartbeats 4000000 in
set_option maxRecDepth 100000 in
theorem aX12_truth_0 (l : Launch) (g : CX) (σ : ST) (hI : INV σ) (p1 : Int32) (p2 : Int32) (p3 : Int32) : XM l g yX12_truth wsX12_truth { frames := 3, cells := 0, slots := 0, locals := 65 } [.ref (g.2.1 79), .int p1, .int p2, .int p3] σ (XQi g (fun r σ' => fX12_truth_0 p1 p2 p3 σ = (r, σ') ∧ INV σ' ∧ Fr [] [(71, 71)] σ σ')) := by
  refine x_met (own := RX12) (cc := cX12_truth) (maxL := 6) (ret := (some .int)) (lv := [(0, .ref (g.2.1 79)), (1, .int p1), (2, .int p2), (3, .int p3)]) (by decide) rfl rfl (Nat.le_of_ble_eq_true rfl) rfl ?_
  intro p e s m args below meth c ls E h hl
  have hx := E.1
  have hb := E.2.1
  have hown := E.2.2.2.1
  have hts := E.2.2.2.2.1
  have hF : Fr [] [(71, 71)] σ σ := Fr.refl σ
  obtain ⟨R, hR0⟩ : ∃ R, fX12_truth_0 p1 p2 p3 σ = R := ⟨_, rfl⟩
  have hR : fX12_truth_0b0 p1 p2 p3 σ = R := hR0
  have hwX12 : ∀ w ∈ wsX120, w ∈ wsX12_truth := by decide +kernel
  generalize hPQ : XQi g (fun r σ' => fX12_truth_0 p1 p2 p3 σ = (r, σ') ∧ INV σ' ∧ Fr [] [(71, 71)] σ σ') = PQz
  refine lv_aload_n hx hb dX12_truth_0 rfl (lv_at hl 0 rfl) ?_
  refine lv_iload_n hx hb dX12_truth_1 rfl (lv_at hl 1 rfl) ?_
  refine lv_iload_n hx hb dX12_truth_2 rfl (lv_at hl 2 rfl) ?_
  refine x_vi E h (na := 2) (As := [.int p1, .int p2]) (aX12_areRows_0 l g σ hI p1 p2) (oc_mo g) rfl gX12_truth_X12_areRows rfl ⟨rfl, rfl⟩ rfl (by decide +kernel) ⟨Nat.le_of_ble_eq_true rfl, Nat.le_of_ble_eq_true rfl⟩ hl.1 rfl (Nat.le_of_ble_eq_true rfl) dX12_truth_3 ⟨Nat.le_of_ble_eq_true rfl, Nat.le_of_ble_eq_true rfl⟩ (fun r1 s1 H locs q1 h => ?_)
  obtain ⟨x1, d1, rfl⟩ := q1
  replace hR := bd_to hR x1
  rcases d1 with ⟨rfl, m1_0f, m1_0t, m1_0R, u1_0_0, u1_0_1, u1_0_2, u1_0_3, rfl, rfl⟩ | rfl
  · skip
    replace hR := it_f hR (by decide)
    refine lv_if_eq (tgt := 18) hx hb dX12_truth_6 (by decide) (fun c => absurd c (by decide)) (fun _ => ?_)
    refine lv_iload_n hx hb dX12_truth_9 rfl (lv_at hl 3 rfl) ?_
    refine lv_iconst (v := 0) hx hb dX12_truth_10 (by decide) ?_
    refine lv_iconst (v := 5) hx hb dX12_truth_11 (by decide) ?_
    refine x_si E h (na := 3) (As := [.int p3, .int 0, .int 5]) (aX12_in_0 l g σ hI p3 0 5) gX12_truth_X12_in rfl ⟨rfl, rfl⟩ rfl (by decide +kernel) ⟨Nat.le_of_ble_eq_true rfl, Nat.le_of_ble_eq_true rfl⟩ hl.1 rfl (Nat.le_of_ble_eq_true rfl) dX12_truth_12 ⟨Nat.le_of_ble_eq_true rfl, Nat.le_of_ble_eq_true rfl⟩ (fun r2 s2 H locs q2 h => ?_)
    obtain ⟨x2, d2, rfl⟩ := q2
    replace hR := bd_to hR x2
    rcases d2 with ⟨rfl, u2_0_0, u2_0_1⟩ | ⟨rfl, u2_1_0⟩
    · skip
      obtain ⟨n3, b3, rfl⟩ := y_rnlt (N := 5) (y_lo1 u2_0_0 (by decide)) u2_0_1 (by omega)
      have b4 : 0 ≤ n3 := y_nlt (a := n3) (b := 0) (by omega) (by omega) u2_0_0
      have b5 : n3 ≤ 5 := y_nlt (a := 5) (b := n3) (by omega) (by omega) u2_0_1
      replace hR := it_f hR (by decide)
      refine lv_if_ne (tgt := 20) hx hb dX12_truth_15 (by decide) (fun _ => ?_) (fun c => absurd c (by decide))
      refine lv_iconst (v := 0) hx hb dX12_truth_20 (by decide) ?_
      refine lv_istore (lv' := [(4, .int 0), (0, .ref (g.2.1 79)), (1, .int (nI m1_0f)), (2, .int (nI m1_0t)), (3, .int (nI n3))]) hx hb dX12_truth_21 hl (by decide) rfl (fun ls hl => ?_)
      refine lv_iload_n hx hb dX12_truth_23 rfl (lv_at hl 2 rfl) ?_
      refine lv_istore (lv' := [(5, .int (nI m1_0f)), (4, .int 0), (0, .ref (g.2.1 79)), (1, .int (nI m1_0f)), (2, .int (nI m1_0t)), (3, .int (nI n3))]) hx hb dX12_truth_24 hl (by decide) rfl (fun ls hl => ?_)
      have loop26_6 : ∀ (fu : Nat) (t6 : ST) (i6_5 : Nat) (i6_4 : Int32), INV t6 → Fr [] [(71, 71)] σ t6 → t6.1 31 = nI m1_0R → i6_5 ≤ 49 → fX12_truth_0l26 fu (nI m1_0t) (nI n3) i6_4 (nI i6_5) t6 = R → 49 - i6_5 < fu → ∀ (H : Heap) (locs : List Loc) (ls : Array Slot), HW g t6 s H locs → lv_has ls 6 [(5, .int (nI i6_5)), (4, .int i6_4), (0, .ref (g.2.1 79)), (1, .int (nI m1_0f)), (2, .int (nI m1_0t)), (3, .int (nI n3))] → W p l e { frames := 3, cells := 0, slots := 0, locals := 65 } s m args below meth c H locs 0 0 (MQ below PQz args s 0 0 (Aw g)) (F0 m 26 ls []) := by
        intro fu6
        induction fu6 with
        | zero => intro t6 i6_5 i6_4 hI_6 hF_6 e7 bi6_5 hR6 hm; exact absurd hm (Nat.not_lt_zero _)
        | succ fu6 ih =>
          have ih6 := ih
          clear ih
          intro t6 i6_5 i6_4 hI_6 hF_6 e7 bi6_5 hR6 hm6 H locs ls h hl
          replace hR6 : fX12_truth_0b26 (fX12_truth_0l26 fu6) (nI m1_0t) (nI n3) i6_4 (nI i6_5) t6 = R := hR6
          refine lv_iload hx hb dX12_truth_26 (lv_at hl 0 rfl) ?_
          refine lv_iload_n hx hb dX12_truth_28 rfl (lv_at hl 4 rfl) ?_
          refine lv_icmp_gt (tgt := 67) hx hb dX12_truth_29 (by decide) (fun c8 => ?_) (fun c8 => ?_)
          · skip
            replace hR6 := it_t hR6 c8
            have b9 : m1_0t < i6_5 := y_lt (a := m1_0t) (b := i6_5) (by omega) (by omega) c8
            refine lv_iload hx hb dX12_truth_67 (lv_at hl 1 rfl) ?_
            subst hPQ
            exact x_iret E h ⟨hR0.trans hR6.symm, hI_6, hF_6⟩ dX12_truth_69
          · skip
            replace hR6 := it_f hR6 c8
            have b10 : i6_5 ≤ m1_0t := y_nlt (a := m1_0t) (b := i6_5) (by omega) (by omega) c8
            refine lv_iload hx hb dX12_truth_32 (lv_at hl 1 rfl) ?_
            refine lv_aload_n hx hb dX12_truth_34 rfl (lv_at hl 2 rfl) ?_
            refine x_getR E h (fr_mo_truth g) rfl hwX12 (by decide) (by decide +kernel) dX12_truth_35 ?_
            refine lv_iload hx hb dX12_truth_38 (lv_at hl 0 rfl) ?_
            obtain ⟨n11, b11, e11⟩ := hI_6.2 71 5 rfl i6_5
            refine x_ldI E h (ia_mo_truth g) (i := nI i6_5) (vp_in_nI (by omega) (by decide)) (v := nI n11) ((congrArg (t6.2.2 71) (nI_clamp (n := i6_5) (by omega))).trans e11) dX12_truth_40 ?_
            replace hR6 := bd_to hR6 ((congrArg (t6.2.2 71) (nI_clamp (n := i6_5) (by omega))).trans e11)
            refine lv_iload_n hx hb dX12_truth_41 rfl (lv_at hl 5 rfl) ?_
            have j50_14 : ∀ (y14_s0 : Int32), fX12_truth_0b50 (fX12_truth_0l26 fu6) (nI m1_0t) (nI n3) (nI i6_5) y14_s0 i6_4 t6 = R → ∀ (H : Heap) (locs : List Loc) (ls : Array Slot), HW g t6 s H locs → lv_has ls 6 [(5, .int (nI i6_5)), (4, .int i6_4), (0, .ref (g.2.1 79)), (1, .int (nI m1_0f)), (2, .int (nI m1_0t)), (3, .int (nI n3))] → W p l e { frames := 3, cells := 0, slots := 0, locals := 65 } s m args below meth c H locs 0 0 (MQ below PQz args s 0 0 (Aw g)) (F0 m 50 ls [.int y14_s0, .int i6_4]) := by
              intro y14_s0 hR14 H locs ls h hl
              refine lv_iadd hx hb dX12_truth_50 ?_
              refine lv_topi (fun x15 e15 => ?_)
              replace hR14 := bd_to hR14 e15.symm
              refine lv_istore (lv' := [(4, .int x15), (5, .int (nI i6_5)), (0, .ref (g.2.1 79)), (1, .int (nI m1_0f)), (2, .int (nI m1_0t)), (3, .int (nI n3))]) hx hb dX12_truth_51 hl (by decide) rfl (fun ls hl => ?_)
              refine lv_aload_n hx hb dX12_truth_53 rfl (lv_at hl 2 rfl) ?_
              refine x_getR E h (fr_mo_truth g) rfl hwX12 (by decide) (by decide +kernel) dX12_truth_54 ?_
              refine lv_iload hx hb dX12_truth_57 (lv_at hl 1 rfl) ?_
              refine lv_iload_n hx hb dX12_truth_59 rfl (lv_at hl 5 rfl) ?_
              refine y_stI E h hI_6 hF_6 (ia_mo_truth g) (i := nI i6_5) (vp_in_nI (by omega) (by decide)) (j := i6_5) (nI_clamp (by omega)) (ba_some rfl (Bd.mk (n := n3) (by omega))) rfl dX12_truth_60 (fun s16 H locs q16 hI16 hF16 h => ?_)
              replace hR14 := st_to hR14 (nI_clamp (n := i6_5) (by omega)) q16
              have e17 : s16.1 31 = nI m1_0R := (congrArg (fun t : ST => t.1 31) q16).trans e7
              replace hR14 := bd_to hR14 (nI_add i6_5 1)
              refine lv_iinc (v := (nI (i6_5 + 1))) (lv' := [(5, .int (nI (i6_5 + 1))), (4, .int x15), (0, .ref (g.2.1 79)), (1, .int (nI m1_0f)), (2, .int (nI m1_0t)), (3, .int (nI n3))]) hx hb dX12_truth_61 hl (k := 1) rfl (nI_add i6_5 1) (by decide) rfl (fun ls hl => ?_)
              refine lv_goto (tgt := 26) hx hb dX12_truth_64 (by decide) ?_
              exact ih6 s16 (i6_5 + 1) x15 hI16 hF16 e17 (by omega) hR14 (by omega) _ _ _ h (lv_sub hl [0, 1, 2, 3, 4, 5] rfl)
            refine lv_icmp_ne (tgt := 49) hx hb dX12_truth_42 (by decide) (fun c12 => ?_) (fun c12 => ?_)
            · skip
              replace hR6 := it_f hR6 c12
              have b13 : ¬ n11 = n3 := y_ne (a := n11) (b := n3) (by omega) (by omega) c12
              refine lv_iconst (v := 1) hx hb dX12_truth_49 (by decide) ?_
              exact j50_14 1 hR6 _ _ _ h (lv_sub hl [0, 1, 2, 3, 4, 5] rfl)
            · skip
              replace hR6 := it_t hR6 c12
              have b18 : n11 = n3 := y_eq (a := n11) (b := n3) (by omega) (by omega) c12
              refine lv_iconst (v := 0) hx hb dX12_truth_45 (by decide) ?_
              refine lv_goto (tgt := 50) hx hb dX12_truth_46 (by decide) ?_
              exact j50_14 0 hR6 _ _ _ h (lv_sub hl [0, 1, 2, 3, 4, 5] rfl)
      exact loop26_6 4096 σ m1_0f 0 hI hF u1_0_0 (by omega) hR (by omega) _ _ _ h (lv_sub hl [0, 1, 2, 3, 4, 5] rfl)
    · skip
      replace hR := it_t hR (by decide)
      refine lv_if_ne (tgt := 20) hx hb dX12_truth_15 (by decide) (fun c => absurd (by decide) c) (fun _ => ?_)
      refine lv_iconst (v := (-1)) hx hb dX12_truth_18 (by decide) ?_
      subst hPQ
      exact x_iret E h ⟨hR0.trans hR.symm, hI, hF⟩ dX12_truth_19
  · skip
    replace hR := it_t hR (by decide)
    refine lv_if_eq (tgt := 18) hx hb dX12_truth_6 (by decide) (fun _ => ?_) (fun c => absurd (by decide) c)
    refine lv_iconst (v := (-1)) hx hb dX12_truth_18 (by decide) ?_
    subst hPQ
    exact x_iret E h ⟨hR0.trans hR.symm, hI, hF⟩ dX12_truth_19
set_option maxHeartbeats 4000000 in
set_option maxRecDepth 100000 in
theorem aX12_mostRight_0 (l : Launch) (g : CX) (σ : ST) (hI : INV σ) (F31 : Nat) (eF31 : σ.1 31 = nI F31) (F35 : Nat) (eF35 : σ.1 35 = nI F35) (hh0 : F35 ≤ 9) (hh1 : F31 ≤ 48) (hPO : AP (σ.2.2 77) 0 F31 (PQ F35)) : XM l g yX12_mostRight wsX12_mostRight { frames := 1, cells := 0, slots := 0, locals := 21 } [.ref (g.2.1 79)] σ (XQi g (fun r σ' => fX12_mostRight_0 σ = (r, σ') ∧ INV σ' ∧ Fr [] [(92, 93)] σ σ')) := by
  refine x_met (own := RX12) (cc := cX12_mostRight) (maxL := 6) (ret := (some .int)) (lv := [(0, .ref (g.2.1 79))]) (by decide) rfl rfl (Nat.le_of_ble_eq_true rfl) rfl ?_
  intro p e s m args below meth c ls E h hl
  have hx := E.1
  have hb := E.2.1
  have hown := E.2.2.2.1
  have hts := E.2.2.2.2.1
  have hF : Fr [] [(92, 93)] σ σ := Fr.refl σ
  obtain ⟨R, hR0⟩ : ∃ R, fX12_mostRight_0 σ = R := ⟨_, rfl⟩
  have hR : fX12_mostRight_0b0 σ = R := hR0
  have hwX12 : ∀ w ∈ wsX120, w ∈ wsX12_mostRight := by decide +kernel
  generalize hPQ : XQi g (fun r σ' => fX12_mostRight_0 σ = (r, σ') ∧ INV σ' ∧ Fr [] [(92, 93)] σ σ') = PQz
  refine lv_iconst (v := 0) hx hb dX12_mostRight_0 (by decide) ?_
  refine lv_istore_n (lv' := [(1, .int 0), (0, .ref (g.2.1 79))]) hx hb dX12_mostRight_1 rfl hl (by decide) rfl (fun ls hl => ?_)
  have loop2_1 : ∀ (fu : Nat) (t1 : ST) (i1_1 : Nat), INV t1 → Fr [] [(92, 93)] σ t1 → t1.1 31 = nI F31 → t1.1 35 = nI F35 → i1_1 ≤ 54 → AP (t1.2.2 77) 0 F31 (PQ F35) → fX12_mostRight_0l2 fu (nI i1_1) t1 = R → 54 - i1_1 < fu → ∀ (H : Heap) (locs : List Loc) (ls : Array Slot), HW g t1 s H locs → lv_has ls 6 [(1, .int (nI i1_1)), (0, .ref (g.2.1 79))] → W p l e { frames := 1, cells := 0, slots := 0, locals := 21 } s m args below meth c H locs 0 0 (MQ below PQz args s 0 0 (Aw g)) (F0 m 2 ls []) := by
    intro fu1
    induction fu1 with
    | zero => intro t1 i1_1 hI_1 hF_1 e2 e3 bi1_1 po_1 hR1 hm; exact absurd hm (Nat.not_lt_zero _)
    | succ fu1 ih =>
      have ih1 := ih
      clear ih
      intro t1 i1_1 hI_1 hF_1 e2 e3 bi1_1 po_1 hR1 hm1 H locs ls h hl
      replace hR1 : fX12_mostRight_0b2 (fX12_mostRight_0l2 fu1) (nI i1_1) t1 = R := hR1
      refine lv_iload_n hx hb dX12_mostRight_2 rfl (lv_at hl 0 rfl) ?_
      refine lv_bipush (v := 54) hx hb dX12_mostRight_3 (by decide) ?_
      refine lv_icmp_ge (tgt := 21) hx hb dX12_mostRight_5 (by decide) (fun c4 => ?_) (fun c4 => ?_)
      · skip
        replace hR1 := it_t hR1 c4
        have b5 : 54 ≤ i1_1 := y_le (a := 54) (b := i1_1) (by omega) (by omega) c4
        refine lv_iconst (v := 0) hx hb dX12_mostRight_21 (by decide) ?_
        refine lv_istore_n (lv' := [(1, .int 0), (0, .ref (g.2.1 79))]) hx hb dX12_mostRight_22 rfl hl (by decide) rfl (fun ls hl => ?_)
        have loop23_6 : ∀ (fu : Nat) (t6 : ST) (i6_1 : Nat), INV t6 → Fr [] [(92, 93)] σ t6 → t6.1 31 = nI F31 → t6.1 35 = nI F35 → i6_1 ≤ F31 → AP (t6.2.2 77) 0 F31 (PQ F35) → fX12_mostRight_0l23 fu (nI i6_1) t6 = R → F31 - i6_1 < fu → ∀ (H : Heap) (locs : List Loc) (ls : Array Slot), HW g t6 s H locs → lv_has ls 6 [(1, .int (nI i6_1)), (0, .ref (g.2.1 79))] → W p l e { frames := 1, cells := 0, slots := 0, locals := 21 } s m args below meth c H locs 0 0 (MQ below PQz args s 0 0 (Aw g)) (F0 m 23 ls []) := by
          intro fu6
          induction fu6 with
          | zero => intro t6 i6_1 hI_6 hF_6 e7 e8 bi6_1 po_6 hR6 hm; exact absurd hm (Nat.not_lt_zero _)
          | succ fu6 ih =>
            have ih6 := ih
            clear ih
            intro t6 i6_1 hI_6 hF_6 e7 e8 bi6_1 po_6 hR6 hm6 H locs ls h hl
            replace hR6 : fX12_mostRight_0b23 (fX12_mostRight_0l23 fu6) (nI i6_1) t6 = R := hR6
            refine lv_iload_n hx hb dX12_mostRight_23 rfl (lv_at hl 0 rfl) ?_
            refine lv_aload_n hx hb dX12_mostRight_24 rfl (lv_at hl 1 rfl) ?_
            refine x_getI E h (fi_mo_rows g) rfl hwX12 (by decide) (by decide +kernel) (v := nI F31) e7 dX12_mostRight_25 ?_
            replace hR6 := bd_to hR6 e7
            refine lv_icmp_ge (tgt := 81) hx hb dX12_mostRight_28 (by decide) (fun c9 => ?_) (fun c9 => ?_)
            · skip
              replace hR6 := it_t hR6 c9
              have b10 : F31 ≤ i6_1 := y_le (a := F31) (b := i6_1) (by omega) (by omega) c9
              refine lv_iconst (v := 0) hx hb dX12_mostRight_81 (by decide) ?_
              refine lv_istore_n (lv' := [(1, .int 0), (0, .ref (g.2.1 79))]) hx hb dX12_mostRight_82 rfl hl (by decide) rfl (fun ls hl => ?_)
              have loop83_11 : ∀ (fu : Nat) (t11 : ST) (i11_1 : Nat), INV t11 → Fr [] [(92, 93)] σ t11 → t11.1 31 = nI F31 → t11.1 35 = nI F35 → i11_1 ≤ 512 → fX12_mostRight_0l83 fu (nI i11_1) t11 = R → 512 - i11_1 < fu → ∀ (H : Heap) (locs : List Loc) (ls : Array Slot), HW g t11 s H locs → lv_has ls 6 [(1, .int (nI i11_1)), (0, .ref (g.2.1 79))] → W p l e { frames := 1, cells := 0, slots := 0, locals := 21 } s m args below meth c H locs 0 0 (MQ below PQz args s 0 0 (Aw g)) (F0 m 83 ls []) := by
                intro fu11
                induction fu11 with
                | zero => intro t11 i11_1 hI_11 hF_11 e12 e13 bi11_1 hR11 hm; exact absurd hm (Nat.not_lt_zero _)
                | succ fu11 ih =>
                  have ih11 := ih
                  clear ih
                  intro t11 i11_1 hI_11 hF_11 e12 e13 bi11_1 hR11 hm11 H locs ls h hl
                  replace hR11 : fX12_mostRight_0b83 (fX12_mostRight_0l83 fu11) (nI i11_1) t11 = R := hR11
                  refine lv_iload_n hx hb dX12_mostRight_83 rfl (lv_at hl 0 rfl) ?_
                  refine lv_sipush (v := 512) hx hb dX12_mostRight_84 (by decide) ?_
                  refine lv_icmp_ge (tgt := 103) hx hb dX12_mostRight_87 (by decide) (fun c14 => ?_) (fun c14 => ?_)
                  · skip
                    replace hR11 := it_t hR11 c14
                    have b15 : 512 ≤ i11_1 := y_le (a := 512) (b := i11_1) (by omega) (by omega) c14
                    refine lv_iconst (v := 1) hx hb dX12_mostRight_103 (by decide) ?_
                    refine lv_istore_n (lv' := [(1, .int 1), (0, .ref (g.2.1 79))]) hx hb dX12_mostRight_104 rfl hl (by decide) rfl (fun ls hl => ?_)
                    have loop105_16 : ∀ (fu : Nat) (t16 : ST) (i16_1 : Nat), INV t16 → Fr [] [(92, 93)] σ t16 → t16.1 31 = nI F31 → t16.1 35 = nI F35 → i16_1 ≤ 6 → 1 ≤ i16_1 → fX12_mostRight_0l105 fu (nI i16_1) t16 = R → 6 - i16_1 < fu → ∀ (H : Heap) (locs : List Loc) (ls : Array Slot), HW g t16 s H locs → lv_has ls 6 [(1, .int (nI i16_1)), (0, .ref (g.2.1 79))] → W p l e { frames := 1, cells := 0, slots := 0, locals := 21 } s m args below meth c H locs 0 0 (MQ below PQz args s 0 0 (Aw g)) (F0 m 105 ls []) := by
                      intro fu16
                      induction fu16 with
                      | zero => intro t16 i16_1 hI_16 hF_16 e17 e18 bi16_1 pp16_0 hR16 hm; exact absurd hm (Nat.not_lt_zero _)
                      | succ fu16 ih =>
                        have ih16 := ih
                        clear ih
                        intro t16 i16_1 hI_16 hF_16 e17 e18 bi16_1 pp16_0 hR16 hm16 H locs ls h hl
                        replace hR16 : fX12_mostRight_0b105 (fX12_mostRight_0l105 fu16) (nI i16_1) t16 = R := hR16
                        refine lv_iload_n hx hb dX12_mostRight_105 rfl (lv_at hl 0 rfl) ?_
                        refine lv_bipush (v := 6) hx hb dX12_mostRight_106 (by decide) ?_
                        refine lv_icmp_ge (tgt := 239) hx hb dX12_mostRight_108 (by decide) (fun c19 => ?_) (fun c19 => ?_)
                        · skip
                          replace hR16 := it_t hR16 c19
                          have b20 : 6 ≤ i16_1 := y_le (a := 6) (b := i16_1) (by omega) (by omega) c19
                          refine lv_aload_n hx hb dX12_mostRight_239 rfl (lv_at hl 1 rfl) ?_
                          refine x_getR E h (fr_mo_right g) rfl hwX12 (by decide) (by decide +kernel) dX12_mostRight_240 ?_
                          refine lv_sipush (v := 3071) hx hb dX12_mostRight_243 (by decide) ?_
                          refine x_ldI E h (ia_mo_right g) (i := nI 3071) (vp_in_nI (by omega) (by decide)) (v := t16.2.2 92 3071) (congrArg (t16.2.2 92) (nI_clamp (n := 3071) (by omega))) dX12_mostRight_246 ?_
                          replace hR16 := bd_to hR16 (congrArg (t16.2.2 92) (nI_clamp (n := 3071) (by omega)))
                          subst hPQ
                          exact x_iret E h ⟨hR0.trans hR16.symm, hI_16, hF_16⟩ dX12_mostRight_247
                        · skip
                          replace hR16 := it_f hR16 c19
                          have b21 : i16_1 < 6 := y_nle (a := 6) (b := i16_1) (by omega) (by omega) c19
                          refine lv_iconst (v := 0) hx hb dX12_mostRight_111 (by decide) ?_
                          refine lv_istore_n (lv' := [(2, .int 0), (1, .int (nI i16_1)), (0, .ref (g.2.1 79))]) hx hb dX12_mostRight_112 rfl hl (by decide) rfl (fun ls hl => ?_)
                          have loop113_22 : ∀ (fu : Nat) (t22 : ST) (i22_2 : Nat), INV t22 → Fr [] [(92, 93)] σ t22 → t22.1 31 = nI F31 → t22.1 35 = nI F35 → i22_2 ≤ 512 → fX12_mostRight_0l113 (fX12_mostRight_0l105 fu16) fu (nI i16_1) (nI i22_2) t22 = R → 512 - i22_2 < fu → ∀ (H : Heap) (locs : List Loc) (ls : Array Slot), HW g t22 s H locs → lv_has ls 6 [(2, .int (nI i22_2)), (1, .int (nI i16_1)), (0, .ref (g.2.1 79))] → W p l e { frames := 1, cells := 0, slots := 0, locals := 21 } s m args below meth c H locs 0 0 (MQ below PQz args s 0 0 (Aw g)) (F0 m 113 ls []) := by
                            intro fu22
                            induction fu22 with
                            | zero => intro t22 i22_2 hI_22 hF_22 e23 e24 bi22_2 hR22 hm; exact absurd hm (Nat.not_lt_zero _)
                            | succ fu22 ih =>
                              have ih22 := ih
                              clear ih
                              intro t22 i22_2 hI_22 hF_22 e23 e24 bi22_2 hR22 hm22 H locs ls h hl
                              replace hR22 : fX12_mostRight_0b113 (fX12_mostRight_0l105 fu16) (fX12_mostRight_0l113 (fX12_mostRight_0l105 fu16) fu22) (nI i16_1) (nI i22_2) t22 = R := hR22
                              refine lv_iload_n hx hb dX12_mostRight_113 rfl (lv_at hl 0 rfl) ?_
                              refine lv_sipush (v := 512) hx hb dX12_mostRight_114 (by decide) ?_
                              refine lv_icmp_ge (tgt := 233) hx hb dX12_mostRight_117 (by decide) (fun c25 => ?_) (fun c25 => ?_)
                              · skip
                                replace hR22 := it_t hR22 c25
                                have b26 : 512 ≤ i22_2 := y_le (a := 512) (b := i22_2) (by omega) (by omega) c25
                                replace hR22 := bd_to hR22 (nI_add i16_1 1)
                                refine lv_iinc (v := (nI (i16_1 + 1))) (lv' := [(1, .int (nI (i16_1 + 1))), (2, .int (nI i22_2)), (0, .ref (g.2.1 79))]) hx hb dX12_mostRight_233 hl (k := 1) rfl (nI_add i16_1 1) (by decide) rfl (fun ls hl => ?_)
                                refine lv_goto (tgt := 105) hx hb dX12_mostRight_236 (by decide) ?_
                                exact ih16 t22 (i16_1 + 1) hI_22 hF_22 e23 e24 (by omega) (by omega) hR22 (by omega) _ _ _ h (lv_sub hl [0, 2] rfl)
                              · skip
                                replace hR22 := it_f hR22 c25
                                have b27 : i22_2 < 512 := y_nle (a := 512) (b := i22_2) (by omega) (by omega) c25
                                refine lv_aload_n hx hb dX12_mostRight_120 rfl (lv_at hl 2 rfl) ?_
                                refine x_getR E h (fr_mo_right g) rfl hwX12 (by decide) (by decide +kernel) dX12_mostRight_121 ?_
                                refine lv_sipush (v := 512) hx hb dX12_mostRight_124 (by decide) ?_
                                refine lv_iload_n hx hb dX12_mostRight_127 rfl (lv_at hl 1 rfl) ?_
                                refine lv_iconst (v := 1) hx hb dX12_mostRight_128 (by decide) ?_
                                refine lv_isub hx hb dX12_mostRight_129 ?_
                                refine x_topI (v2 := nI (i16_1 - 1)) (pk_sub (a := i16_1) (b := 1) (by omega)) ?_
                                replace hR22 := bd_to hR22 (pk_sub (a := i16_1) (b := 1) (by omega))
                                refine lv_imul hx hb dX12_mostRight_130 ?_
                                refine x_topI (v2 := nI (512 * (i16_1 - 1))) (pk_mul 512 (i16_1 - 1)) ?_
                                replace hR22 := bd_to hR22 (pk_mul 512 (i16_1 - 1))
                                refine lv_iload_n hx hb dX12_mostRight_131 rfl (lv_at hl 0 rfl) ?_
                                refine lv_iadd hx hb dX12_mostRight_132 ?_
                                refine x_topI (v2 := nI ((512 * (i16_1 - 1)) + i22_2)) (nI_add (512 * (i16_1 - 1)) i22_2) ?_
                                replace hR22 := bd_to hR22 (nI_add (512 * (i16_1 - 1)) i22_2)
                                refine x_ldI E h (ia_mo_right g) (i := nI ((512 * (i16_1 - 1)) + i22_2)) (vp_in_nI (by omega) (by decide)) (v := t22.2.2 92 ((512 * (i16_1 - 1)) + i22_2)) (congrArg (t22.2.2 92) (nI_clamp (n := (512 * (i16_1 - 1)) + i22_2) (by omega))) dX12_mostRight_133 ?_
                                replace hR22 := bd_to hR22 (congrArg (t22.2.2 92) (nI_clamp (n := (512 * (i16_1 - 1)) + i22_2) (by omega)))
                                refine lv_topi (fun x28 e28 => ?_)
                                try rw [← e28] at hR22
                                refine lv_istore_n (lv' := [(3, .int x28), (2, .int (nI i22_2)), (1, .int (nI i16_1)), (0, .ref (g.2.1 79))]) hx hb dX12_mostRight_134 rfl hl (by decide) rfl (fun ls hl => ?_)
                                refine lv_iconst (v := 0) hx hb dX12_mostRight_135 (by decide) ?_
                                refine lv_istore (lv' := [(4, .int 0), (3, .int x28), (2, .int (nI i22_2)), (1, .int (nI i16_1)), (0, .ref (g.2.1 79))]) hx hb dX12_mostRight_136 hl (by decide) rfl (fun ls hl => ?_)
                                have loop138_29 : ∀ (fu : Nat) (i29_4 : Nat) (i29_3 : Int32), i29_4 ≤ 9 → fX12_mostRight_0l138 (fX12_mostRight_0l105 fu16) (fX12_mostRight_0l113 (fX12_mostRight_0l105 fu16) fu22) fu (nI i16_1) (nI i22_2) i29_3 (nI i29_4) t22 = R → 9 - i29_4 < fu → ∀ (H : Heap) (locs : List Loc) (ls : Array Slot), HW g t22 s H locs → lv_has ls 6 [(4, .int (nI i29_4)), (3, .int i29_3), (2, .int (nI i22_2)), (1, .int (nI i16_1)), (0, .ref (g.2.1 79))] → W p l e { frames := 1, cells := 0, slots := 0, locals := 21 } s m args below meth c H locs 0 0 (MQ below PQz args s 0 0 (Aw g)) (F0 m 138 ls []) := by
                                  intro fu29
                                  induction fu29 with
                                  | zero => intro i29_4 i29_3 bi29_4 hR29 hm; exact absurd hm (Nat.not_lt_zero _)
                                  | succ fu29 ih =>
                                    have ih29 := ih
                                    clear ih
                                    intro i29_4 i29_3 bi29_4 hR29 hm29 H locs ls h hl
                                    replace hR29 : fX12_mostRight_0b138 (fX12_mostRight_0l105 fu16) (fX12_mostRight_0l113 (fX12_mostRight_0l105 fu16) fu22) (fX12_mostRight_0l138 (fX12_mostRight_0l105 fu16) (fX12_mostRight_0l113 (fX12_mostRight_0l105 fu16) fu22) fu29) (nI i16_1) (nI i22_2) i29_3 (nI i29_4) t22 = R := hR29
                                    refine lv_iload hx hb dX12_mostRight_138 (lv_at hl 0 rfl) ?_
                                    refine lv_bipush (v := 9) hx hb dX12_mostRight_140 (by decide) ?_
                                    refine lv_icmp_ge (tgt := 214) hx hb dX12_mostRight_142 (by decide) (fun c30 => ?_) (fun c30 => ?_)
                                    · skip
                                      replace hR29 := it_t hR29 c30
                                      have b31 : 9 ≤ i29_4 := y_le (a := 9) (b := i29_4) (by omega) (by omega) c30
                                      refine lv_aload_n hx hb dX12_mostRight_214 rfl (lv_at hl 4 rfl) ?_
                                      refine x_getR E h (fr_mo_right g) rfl hwX12 (by decide) (by decide +kernel) dX12_mostRight_215 ?_
                                      refine lv_sipush (v := 512) hx hb dX12_mostRight_218 (by decide) ?_
                                      refine lv_iload_n hx hb dX12_mostRight_221 rfl (lv_at hl 3 rfl) ?_
                                      refine lv_imul hx hb dX12_mostRight_222 ?_
                                      refine x_topI (v2 := nI (512 * i16_1)) (pk_mul 512 i16_1) ?_
                                      replace hR29 := bd_to hR29 (pk_mul 512 i16_1)
                                      refine lv_iload_n hx hb dX12_mostRight_223 rfl (lv_at hl 2 rfl) ?_
                                      refine lv_iadd hx hb dX12_mostRight_224 ?_
                                      refine x_topI (v2 := nI ((512 * i16_1) + i22_2)) (nI_add (512 * i16_1) i22_2) ?_
                                      replace hR29 := bd_to hR29 (nI_add (512 * i16_1) i22_2)
                                      refine lv_iload_n hx hb dX12_mostRight_225 rfl (lv_at hl 1 rfl) ?_
                                      refine y_stI E h hI_22 hF_22 (ia_mo_right g) (i := nI ((512 * i16_1) + i22_2)) (vp_in_nI (by omega) (by decide)) (j := ((512 * i16_1) + i22_2)) (nI_clamp (by omega)) (ba_none rfl) rfl dX12_mostRight_226 (fun s32 H locs q32 hI32 hF32 h => ?_)
                                      replace hR29 := st_to hR29 (nI_clamp (n := (512 * i16_1) + i22_2) (by omega)) q32
                                      have e33 : s32.1 31 = nI F31 := (congrArg (fun t : ST => t.1 31) q32).trans e23
                                      have e34 : s32.1 35 = nI F35 := (congrArg (fun t : ST => t.1 35) q32).trans e24
                                      replace hR29 := bd_to hR29 (nI_add i22_2 1)
                                      refine lv_iinc (v := (nI (i22_2 + 1))) (lv' := [(2, .int (nI (i22_2 + 1))), (4, .int (nI i29_4)), (3, .int i29_3), (1, .int (nI i16_1)), (0, .ref (g.2.1 79))]) hx hb dX12_mostRight_227 hl (k := 2) rfl (nI_add i22_2 1) (by decide) rfl (fun ls hl => ?_)
                                      refine lv_goto (tgt := 113) hx hb dX12_mostRight_230 (by decide) ?_
                                      exact ih22 s32 (i22_2 + 1) hI32 hF32 e33 e34 (by omega) hR29 (by omega) _ _ _ h (lv_sub hl [0, 3, 4] rfl)
                                    · skip
                                      replace hR29 := it_f hR29 c30
                                      have b35 : i29_4 < 9 := y_nle (a := 9) (b := i29_4) (by omega) (by omega) c30
                                      refine lv_iload_n hx hb dX12_mostRight_145 rfl (lv_at hl 2 rfl) ?_
                                      refine lv_iload hx hb dX12_mostRight_146 (lv_at hl 0 rfl) ?_
                                      refine lv_ishr hx hb dX12_mostRight_148 ?_
                                      refine lv_topi (fun x36 e36 => ?_)
                                      replace hR29 := bd_to hR29 e36.symm
                                      refine lv_iconst (v := 1) hx hb dX12_mostRight_149 (by decide) ?_
                                      refine lv_iand hx hb dX12_mostRight_150 ?_
                                      obtain ⟨n37, b37, e37⟩ := pk_andE x36 (m := 1) 1 (by decide)
                                      refine x_topI (v2 := nI n37) e37 ?_
                                      replace hR29 := bd_to hR29 e37
                                      refine lv_iconst (v := 1) hx hb dX12_mostRight_151 (by decide) ?_
                                      have j193_40 : ∀ (y40_s0 : Int32), fX12_mostRight_0b193 (fX12_mostRight_0l105 fu16) (fX12_mostRight_0l113 (fX12_mostRight_0l105 fu16) fu22) (fX12_mostRight_0l138 (fX12_mostRight_0l105 fu16) (fX12_mostRight_0l113 (fX12_mostRight_0l105 fu16) fu22) fu29) (nI i16_1) (nI i22_2) i29_3 (nI i29_4) y40_s0 t22 = R → ∀ (H : Heap) (locs : List Loc) (ls : Array Slot), HW g t22 s H locs → lv_has ls 6 [(4, .int (nI i29_4)), (3, .int i29_3), (2, .int (nI i22_2)), (1, .int (nI i16_1)), (0, .ref (g.2.1 79))] → W p l e { frames := 1, cells := 0, slots := 0, locals := 21 } s m args below meth c H locs 0 0 (MQ below PQz args s 0 0 (Aw g)) (F0 m 193 ls [.int y40_s0]) := by
                                        intro y40_s0 hR40 H locs ls h hl
                                        refine lv_istore (lv' := [(5, .int y40_s0), (4, .int (nI i29_4)), (3, .int i29_3), (2, .int (nI i22_2)), (1, .int (nI i16_1)), (0, .ref (g.2.1 79))]) hx hb dX12_mostRight_193 hl (by decide) rfl (fun ls hl => ?_)
                                        refine lv_iload hx hb dX12_mostRight_195 (lv_at hl 0 rfl) ?_
                                        refine lv_iload_n hx hb dX12_mostRight_197 rfl (lv_at hl 2 rfl) ?_
                                        have j207_43 : ∀ (y43_s0 : Int32), fX12_mostRight_0b207 (fX12_mostRight_0l105 fu16) (fX12_mostRight_0l113 (fX12_mostRight_0l105 fu16) fu22) (fX12_mostRight_0l138 (fX12_mostRight_0l105 fu16) (fX12_mostRight_0l113 (fX12_mostRight_0l105 fu16) fu22) fu29) (nI i16_1) (nI i22_2) (nI i29_4) y43_s0 t22 = R → ∀ (H : Heap) (locs : List Loc) (ls : Array Slot), HW g t22 s H locs → lv_has ls 6 [(5, .int y40_s0), (4, .int (nI i29_4)), (3, .int i29_3), (2, .int (nI i22_2)), (1, .int (nI i16_1)), (0, .ref (g.2.1 79))] → W p l e { frames := 1, cells := 0, slots := 0, locals := 21 } s m args below meth c H locs 0 0 (MQ below PQz args s 0 0 (Aw g)) (F0 m 207 ls [.int y43_s0]) := by
                                          intro y43_s0 hR43 H locs ls h hl
                                          refine lv_istore_n (lv' := [(3, .int y43_s0), (5, .int y40_s0), (4, .int (nI i29_4)), (2, .int (nI i22_2)), (1, .int (nI i16_1)), (0, .ref (g.2.1 79))]) hx hb dX12_mostRight_207 rfl hl (by decide) rfl (fun ls hl => ?_)
                                          replace hR43 := bd_to hR43 (nI_add i29_4 1)
                                          refine lv_iinc (v := (nI (i29_4 + 1))) (lv' := [(4, .int (nI (i29_4 + 1))), (3, .int y43_s0), (5, .int y40_s0), (2, .int (nI i22_2)), (1, .int (nI i16_1)), (0, .ref (g.2.1 79))]) hx hb dX12_mostRight_208 hl (k := 2) rfl (nI_add i29_4 1) (by decide) rfl (fun ls hl => ?_)
                                          refine lv_goto (tgt := 138) hx hb dX12_mostRight_211 (by decide) ?_
                                          exact ih29 (i29_4 + 1) y43_s0 (by omega) hR43 (by omega) _ _ _ h (lv_sub hl [0, 1, 3, 4, 5] rfl)
                                        refine lv_icmp_le (tgt := 206) hx hb dX12_mostRight_198 (by decide) (fun c41 => ?_) (fun c41 => ?_)
                                        · skip
                                          replace hR40 := it_t hR40 c41
                                          refine lv_iload_n hx hb dX12_mostRight_206 rfl (lv_at hl 2 rfl) ?_
                                          exact j207_43 i29_3 hR40 _ _ _ h (lv_sub hl [0, 1, 2, 3, 4, 5] rfl)
                                        · skip
                                          replace hR40 := it_f hR40 c41
                                          refine lv_iload hx hb dX12_mostRight_201 (lv_at hl 0 rfl) ?_
                                          refine lv_goto (tgt := 207) hx hb dX12_mostRight_203 (by decide) ?_
                                          exact j207_43 y40_s0 hR40 _ _ _ h (lv_sub hl [0, 1, 2, 3, 4, 5] rfl)
                                      refine lv_icmp_ne (tgt := 192) hx hb dX12_mostRight_152 (by decide) (fun c38 => ?_) (fun c38 => ?_)
                                      · skip
                                        replace hR29 := it_f hR29 c38
                                        have b39 : ¬ n37 = 1 := y_ne (a := n37) (b := 1) (by omega) (by omega) c38
                                        refine lv_iconst (v := 0) hx hb dX12_mostRight_192 (by decide) ?_
                                        exact j193_40 0 hR29 _ _ _ h (lv_sub hl [0, 1, 2, 3, 4] rfl)
                                      · skip
                                        replace hR29 := it_t hR29 c38
                                        have b45 : n37 = 1 := y_eq (a := n37) (b := 1) (by omega) (by omega) c38
                                        refine lv_aload_n hx hb dX12_mostRight_155 rfl (lv_at hl 4 rfl) ?_
                                        refine x_getR E h (fr_mo_right g) rfl hwX12 (by decide) (by decide +kernel) dX12_mostRight_156 ?_
                                        refine lv_sipush (v := 512) hx hb dX12_mostRight_159 (by decide) ?_
                                        refine lv_iload_n hx hb dX12_mostRight_162 rfl (lv_at hl 3 rfl) ?_
                                        refine lv_iconst (v := 1) hx hb dX12_mostRight_163 (by decide) ?_
                                        refine lv_isub hx hb dX12_mostRight_164 ?_
                                        refine x_topI (v2 := nI (i16_1 - 1)) (pk_sub (a := i16_1) (b := 1) (by omega)) ?_
                                        replace hR29 := bd_to hR29 (pk_sub (a := i16_1) (b := 1) (by omega))
                                        refine lv_imul hx hb dX12_mostRight_165 ?_
                                        refine x_topI (v2 := nI (512 * (i16_1 - 1))) (pk_mul 512 (i16_1 - 1)) ?_
                                        replace hR29 := bd_to hR29 (pk_mul 512 (i16_1 - 1))
                                        refine lv_iload_n hx hb dX12_mostRight_166 rfl (lv_at hl 2 rfl) ?_
                                        refine lv_iconst (v := 1) hx hb dX12_mostRight_167 (by decide) ?_
                                        refine lv_iload hx hb dX12_mostRight_168 (lv_at hl 0 rfl) ?_
                                        refine lv_ishl hx hb dX12_mostRight_170 ?_
                                        refine x_topI (v2 := nI (2 ^ i29_4)) (y_shl1 (p := i29_4) (by omega)) ?_
                                        replace hR29 := bd_to hR29 (y_shl1 (p := i29_4) (by omega))
                                        have b46 := y_pow (p := i29_4) (by omega)
                                        refine lv_iconst (v := (-1)) hx hb dX12_mostRight_171 (by decide) ?_
                                        refine lv_ixor hx hb dX12_mostRight_172 ?_
                                        refine lv_topi (fun x47 e47 => ?_)
                                        replace hR29 := bd_to hR29 e47.symm
                                        refine lv_iand hx hb dX12_mostRight_173 ?_
                                        obtain ⟨n48, b48, e48⟩ := x_and i22_2 x47 (by omega)
                                        refine x_topI (v2 := nI n48) e48 ?_
                                        replace hR29 := bd_to hR29 e48
                                        refine lv_iadd hx hb dX12_mostRight_174 ?_
                                        refine x_topI (v2 := nI ((512 * (i16_1 - 1)) + n48)) (nI_add (512 * (i16_1 - 1)) n48) ?_
                                        replace hR29 := bd_to hR29 (nI_add (512 * (i16_1 - 1)) n48)
                                        refine x_ldI E h (ia_mo_right g) (i := nI ((512 * (i16_1 - 1)) + n48)) (vp_in_nI (by omega) (by decide)) (v := t22.2.2 92 ((512 * (i16_1 - 1)) + n48)) (congrArg (t22.2.2 92) (nI_clamp (n := (512 * (i16_1 - 1)) + n48) (by omega))) dX12_mostRight_175 ?_
                                        replace hR29 := bd_to hR29 (congrArg (t22.2.2 92) (nI_clamp (n := (512 * (i16_1 - 1)) + n48) (by omega)))
                                        refine lv_aload_n hx hb dX12_mostRight_176 rfl (lv_at hl 4 rfl) ?_
                                        refine x_getR E h (fr_mo_pairs g) rfl hwX12 (by decide) (by decide +kernel) dX12_mostRight_177 ?_
                                        refine lv_bipush (v := 9) hx hb dX12_mostRight_180 (by decide) ?_
                                        refine lv_iload_n hx hb dX12_mostRight_182 rfl (lv_at hl 3 rfl) ?_
                                        refine lv_imul hx hb dX12_mostRight_183 ?_
                                        refine x_topI (v2 := nI (9 * i16_1)) (pk_mul 9 i16_1) ?_
                                        replace hR29 := bd_to hR29 (pk_mul 9 i16_1)
                                        refine lv_iload hx hb dX12_mostRight_184 (lv_at hl 0 rfl) ?_
                                        refine lv_iadd hx hb dX12_mostRight_186 ?_
                                        refine x_topI (v2 := nI ((9 * i16_1) + i29_4)) (nI_add (9 * i16_1) i29_4) ?_
                                        replace hR29 := bd_to hR29 (nI_add (9 * i16_1) i29_4)
                                        refine x_ldI E h (ia_mo_pairs g) (i := nI ((9 * i16_1) + i29_4)) (vp_in_nI (by omega) (by decide)) (v := t22.2.2 93 ((9 * i16_1) + i29_4)) (congrArg (t22.2.2 93) (nI_clamp (n := (9 * i16_1) + i29_4) (by omega))) dX12_mostRight_187 ?_
                                        replace hR29 := bd_to hR29 (congrArg (t22.2.2 93) (nI_clamp (n := (9 * i16_1) + i29_4) (by omega)))
                                        refine lv_iadd hx hb dX12_mostRight_188 ?_
                                        refine lv_topi (fun x49 e49 => ?_)
                                        replace hR29 := bd_to hR29 e49.symm
                                        refine lv_goto (tgt := 193) hx hb dX12_mostRight_189 (by decide) ?_
                                        exact j193_40 x49 hR29 _ _ _ h (lv_sub hl [0, 1, 2, 3, 4] rfl)
                                exact loop138_29 4096 0 x28 (Nat.zero_le _) hR22 (by omega) _ _ _ h (lv_sub hl [0, 1, 2, 3, 4] rfl)
                          exact loop113_22 4096 t16 0 hI_16 hF_16 e17 e18 (Nat.zero_le _) hR16 (by omega) _ _ _ h (lv_sub hl [0, 1, 2] rfl)
                    exact loop105_16 4096 t11 1 hI_11 hF_11 e12 e13 (by omega) (by omega) hR11 (by omega) _ _ _ h (lv_sub hl [0, 1] rfl)
                  · skip
                    replace hR11 := it_f hR11 c14
                    have b50 : i11_1 < 512 := y_nle (a := 512) (b := i11_1) (by omega) (by omega) c14
                    refine lv_aload_n hx hb dX12_mostRight_90 rfl (lv_at hl 1 rfl) ?_
                    refine x_getR E h (fr_mo_right g) rfl hwX12 (by decide) (by decide +kernel) dX12_mostRight_91 ?_
                    refine lv_iload_n hx hb dX12_mostRight_94 rfl (lv_at hl 0 rfl) ?_
                    refine lv_iconst (v := 0) hx hb dX12_mostRight_95 (by decide) ?_
                    refine y_stI E h hI_11 hF_11 (ia_mo_right g) (i := nI i11_1) (vp_in_nI (by omega) (by decide)) (j := i11_1) (nI_clamp (by omega)) (ba_none rfl) rfl dX12_mostRight_96 (fun s51 H locs q51 hI51 hF51 h => ?_)
                    replace hR11 := st_to hR11 (nI_clamp (n := i11_1) (by omega)) q51
                    have e52 : s51.1 31 = nI F31 := (congrArg (fun t : ST => t.1 31) q51).trans e12
                    have e53 : s51.1 35 = nI F35 := (congrArg (fun t : ST => t.1 35) q51).trans e13
                    replace hR11 := bd_to hR11 (nI_add i11_1 1)
                    refine lv_iinc (v := (nI (i11_1 + 1))) (lv' := [(1, .int (nI (i11_1 + 1))), (0, .ref (g.2.1 79))]) hx hb dX12_mostRight_97 hl (k := 0) rfl (nI_add i11_1 1) (by decide) rfl (fun ls hl => ?_)
                    refine lv_goto (tgt := 83) hx hb dX12_mostRight_100 (by decide) ?_
                    exact ih11 s51 (i11_1 + 1) hI51 hF51 e52 e53 (by omega) hR11 (by omega) _ _ _ h (lv_sub hl [0, 1] rfl)
              exact loop83_11 4096 t6 0 hI_6 hF_6 e7 e8 (Nat.zero_le _) hR6 (by omega) _ _ _ h (lv_sub hl [0, 1] rfl)
            · skip
              replace hR6 := it_f hR6 c9
              have b54 : i6_1 < F31 := y_nle (a := F31) (b := i6_1) (by omega) (by omega) c9
              refine lv_aload_n hx hb dX12_mostRight_31 rfl (lv_at hl 1 rfl) ?_
              refine x_getR E h (fr_mo_pieceOf g) rfl hwX12 (by decide) (by decide +kernel) dX12_mostRight_32 ?_
              refine lv_iload_n hx hb dX12_mostRight_35 rfl (lv_at hl 0 rfl) ?_
              refine x_ldI E h (ia_mo_pieceOf g) (i := nI i6_1) (vp_in_nI (by omega) (by decide)) (v := t6.2.2 77 i6_1) (congrArg (t6.2.2 77) (nI_clamp (n := i6_1) (by omega))) dX12_mostRight_36 ?_
              replace hR6 := bd_to hR6 (congrArg (t6.2.2 77) (nI_clamp (n := i6_1) (by omega)))
              refine lv_bipush (v := (-9)) hx hb dX12_mostRight_37 (by decide) ?_
              refine lv_icmp_eq (tgt := 75) hx hb dX12_mostRight_39 (by decide) (fun c55 => ?_) (fun c55 => ?_)
              · skip
                replace hR6 := it_t hR6 c55
                replace hR6 := bd_to hR6 (nI_add i6_1 1)
                refine lv_iinc (v := (nI (i6_1 + 1))) (lv' := [(1, .int (nI (i6_1 + 1))), (0, .ref (g.2.1 79))]) hx hb dX12_mostRight_75 hl (k := 0) rfl (nI_add i6_1 1) (by decide) rfl (fun ls hl => ?_)
                refine lv_goto (tgt := 23) hx hb dX12_mostRight_78 (by decide) ?_
                exact ih6 t6 (i6_1 + 1) hI_6 hF_6 e7 e8 (by omega) po_6 hR6 (by omega) _ _ _ h (lv_sub hl [0, 1] rfl)
              · skip
                replace hR6 := it_f hR6 c55
                refine lv_aload_n hx hb dX12_mostRight_42 rfl (lv_at hl 1 rfl) ?_
                refine x_getR E h (fr_mo_truth g) rfl hwX12 (by decide) (by decide +kernel) dX12_mostRight_43 ?_
                refine lv_iload_n hx hb dX12_mostRight_46 rfl (lv_at hl 0 rfl) ?_
                obtain ⟨n58, b58, e58⟩ := hI_6.2 71 5 rfl i6_1
                refine x_ldI E h (ia_mo_truth g) (i := nI i6_1) (vp_in_nI (by omega) (by decide)) (v := nI n58) ((congrArg (t6.2.2 71) (nI_clamp (n := i6_1) (by omega))).trans e58) dX12_mostRight_47 ?_
                replace hR6 := bd_to hR6 ((congrArg (t6.2.2 71) (nI_clamp (n := i6_1) (by omega))).trans e58)
                refine lv_if_le (tgt := 75) hx hb dX12_mostRight_48 (by decide) (fun c59 => ?_) (fun c59 => ?_)
                · skip
                  replace hR6 := it_t hR6 c59
                  have b60 : n58 ≤ 0 := y_le (a := n58) (b := 0) (by omega) (by omega) c59
                  replace hR6 := bd_to hR6 (nI_add i6_1 1)
                  refine lv_iinc (v := (nI (i6_1 + 1))) (lv' := [(1, .int (nI (i6_1 + 1))), (0, .ref (g.2.1 79))]) hx hb dX12_mostRight_75 hl (k := 0) rfl (nI_add i6_1 1) (by decide) rfl (fun ls hl => ?_)
                  refine lv_goto (tgt := 23) hx hb dX12_mostRight_78 (by decide) ?_
                  exact ih6 t6 (i6_1 + 1) hI_6 hF_6 e7 e8 (by omega) po_6 hR6 (by omega) _ _ _ h (lv_sub hl [0, 1] rfl)
                · skip
                  replace hR6 := it_f hR6 c59
                  have b61 : 0 < n58 := y_nle (a := n58) (b := 0) (by omega) (by omega) c59
                  refine lv_aload_n hx hb dX12_mostRight_51 rfl (lv_at hl 1 rfl) ?_
                  refine x_getR E h (fr_mo_pairs g) rfl hwX12 (by decide) (by decide +kernel) dX12_mostRight_52 ?_
                  refine lv_bipush (v := 9) hx hb dX12_mostRight_55 (by decide) ?_
                  refine lv_aload_n hx hb dX12_mostRight_57 rfl (lv_at hl 1 rfl) ?_
                  refine x_getR E h (fr_mo_truth g) rfl hwX12 (by decide) (by decide +kernel) dX12_mostRight_58 ?_
                  refine lv_iload_n hx hb dX12_mostRight_61 rfl (lv_at hl 0 rfl) ?_
                  refine x_ldI E h (ia_mo_truth g) (i := nI i6_1) (vp_in_nI (by omega) (by decide)) (v := nI n58) ((congrArg (t6.2.2 71) (nI_clamp (n := i6_1) (by omega))).trans e58) dX12_mostRight_62 ?_
                  replace hR6 := bd_to hR6 ((congrArg (t6.2.2 71) (nI_clamp (n := i6_1) (by omega))).trans e58)
                  refine lv_imul hx hb dX12_mostRight_63 ?_
                  refine x_topI (v2 := nI (9 * n58)) (pk_mul 9 n58) ?_
                  replace hR6 := bd_to hR6 (pk_mul 9 n58)
                  refine lv_aload_n hx hb dX12_mostRight_64 rfl (lv_at hl 1 rfl) ?_
                  refine lv_iload_n hx hb dX12_mostRight_65 rfl (lv_at hl 0 rfl) ?_
                  refine x_vi E h (na := 1) (As := [.int (nI i6_1)]) (aX12_heapOfRow_0 l g t6 hI_6 i6_1 F31 e7 F35 e8 (by omega) (by omega) (by omega) po_6) (oc_mo g) rfl gX12_mostRight_X12_heapOfRow rfl ⟨rfl, rfl⟩ rfl (by decide +kernel) ⟨Nat.le_of_ble_eq_true rfl, Nat.le_of_ble_eq_true rfl⟩ hl.1 rfl (Nat.le_of_ble_eq_true rfl) dX12_mostRight_66 ⟨Nat.le_of_ble_eq_true rfl, Nat.le_of_ble_eq_true rfl⟩ (fun r62 s62 H locs q62 h => ?_)
                  obtain ⟨x62, d62, rfl⟩ := q62
                  replace hR6 := bd_to hR6 x62
                  rcases d62 with ⟨rfl, u62_0_0⟩ | ⟨m62_1n, u62_1_0, rfl⟩
                  · skip
                    exact absurd u62_0_0 c55
                  · skip
                    refine lv_iadd hx hb dX12_mostRight_69 ?_
                    refine x_topI (v2 := nI ((9 * n58) + m62_1n)) (nI_add (9 * n58) m62_1n) ?_
                    replace hR6 := bd_to hR6 (nI_add (9 * n58) m62_1n)
                    refine lv_dup2_11 hx hb dX12_mostRight_70 rfl rfl ?_
                    refine x_ldI E h (ia_mo_pairs g) (i := nI ((9 * n58) + m62_1n)) (vp_in_nI (by omega) (by decide)) (v := t6.2.2 93 ((9 * n58) + m62_1n)) (congrArg (t6.2.2 93) (nI_clamp (n := (9 * n58) + m62_1n) (by omega))) dX12_mostRight_71 ?_
                    replace hR6 := bd_to hR6 (congrArg (t6.2.2 93) (nI_clamp (n := (9 * n58) + m62_1n) (by omega)))
                    refine lv_iconst (v := 1) hx hb dX12_mostRight_72 (by decide) ?_
                    refine lv_iadd hx hb dX12_mostRight_73 ?_
                    refine lv_topi (fun x63 e63 => ?_)
                    replace hR6 := bd_to hR6 e63.symm
                    refine y_stI E h hI_6 hF_6 (ia_mo_pairs g) (i := nI ((9 * n58) + m62_1n)) (vp_in_nI (by omega) (by decide)) (j := ((9 * n58) + m62_1n)) (nI_clamp (by omega)) (ba_none rfl) rfl dX12_mostRight_74 (fun s64 H locs q64 hI64 hF64 h => ?_)
                    replace hR6 := st_to hR6 (nI_clamp (n := (9 * n58) + m62_1n) (by omega)) q64
                    have e65 : s64.1 31 = nI F31 := (congrArg (fun t : ST => t.1 31) q64).trans e7
                    have e66 : s64.1 35 = nI F35 := (congrArg (fun t : ST => t.1 35) q64).trans e8
                    have a67 := AP.eq po_6 (show s64.2.2 77 = t6.2.2 77 from (congrArg (fun t : ST => t.2.2 77) q64).trans rfl)
                    replace hR6 := bd_to hR6 (nI_add i6_1 1)
                    refine lv_iinc (v := (nI (i6_1 + 1))) (lv' := [(1, .int (nI (i6_1 + 1))), (0, .ref (g.2.1 79))]) hx hb dX12_mostRight_75 hl (k := 0) rfl (nI_add i6_1 1) (by decide) rfl (fun ls hl => ?_)
                    refine lv_goto (tgt := 23) hx hb dX12_mostRight_78 (by decide) ?_
                    exact ih6 s64 (i6_1 + 1) hI64 hF64 e65 e66 (by omega) a67 hR6 (by omega) _ _ _ h (lv_sub hl [0, 1] rfl)
        exact loop23_6 4096 t1 0 hI_1 hF_1 e2 e3 (Nat.zero_le _) po_1 hR1 (by omega) _ _ _ h (lv_sub hl [0, 1] rfl)
      · skip
        replace hR1 := it_f hR1 c4
        have b68 : i1_1 < 54 := y_nle (a := 54) (b := i1_1) (by omega) (by omega) c4
        refine lv_aload_n hx hb dX12_mostRight_8 rfl (lv_at hl 1 rfl) ?_
        refine x_getR E h (fr_mo_pairs g) rfl hwX12 (by decide) (by decide +kernel) dX12_mostRight_9 ?_
        refine lv_iload_n hx hb dX12_mostRight_12 rfl (lv_at hl 0 rfl) ?_
        refine lv_iconst (v := 0) hx hb dX12_mostRight_13 (by decide) ?_
        refine y_stI E h hI_1 hF_1 (ia_mo_pairs g) (i := nI i1_1) (vp_in_nI (by omega) (by decide)) (j := i1_1) (nI_clamp (by omega)) (ba_none rfl) rfl dX12_mostRight_14 (fun s69 H locs q69 hI69 hF69 h => ?_)
        replace hR1 := st_to hR1 (nI_clamp (n := i1_1) (by omega)) q69
        have e70 : s69.1 31 = nI F31 := (congrArg (fun t : ST => t.1 31) q69).trans e2
        have e71 : s69.1 35 = nI F35 := (congrArg (fun t : ST => t.1 35) q69).trans e3
        have a72 := AP.eq po_1 (show s69.2.2 77 = t1.2.2 77 from (congrArg (fun t : ST => t.2.2 77) q69).trans rfl)
        replace hR1 := bd_to hR1 (nI_add i1_1 1)
        refine lv_iinc (v := (nI (i1_1 + 1))) (lv' := [(1, .int (nI (i1_1 + 1))), (0, .ref (g.2.1 79))]) hx hb dX12_mostRight_15 hl (k := 0) rfl (nI_add i1_1 1) (by decide) rfl (fun ls hl => ?_)
        refine lv_goto (tgt := 2) hx hb dX12_mostRight_18 (by decide) ?_
        exact ih1 s69 (i1_1 + 1) hI69 hF69 e70 e71 (by omega) a72 hR1 (by omega) _ _ _ h (lv_sub hl [0, 1] rfl)
  exact loop2_1 4096 σ 0 hI hF eF31 eF35 (Nat.zero_le _) hPO hR (by omega) _ _ _ h (lv_sub hl [0, 1] rfl)
set_option maxHeartbeats 4000000 in
set_option maxRecDepth 100000 in
theorem aX12_errors_0 (l : Launch) (g : CX) (σ : ST) (hI : INV σ) (p1 : Int32) : XM l g yX12_errors wsX12_errors { frames := 5, cells := 0, slots := 0, locals := 119 } [.ref (g.2.1 79), .int p1] σ (XQi g (fun r σ' => fX12_errors_0 p1 σ = (r, σ') ∧ INV σ' ∧ Fr [(35, 39)] [(75, 86), (88, 88), (92, 93)] σ σ')) := by
  refine x_met (own := RX12) (cc := cX12_errors) (maxL := 7) (ret := (some .int)) (lv := [(0, .ref (g.2.1 79)), (1, .int p1)]) (by decide) rfl rfl (Nat.le_of_ble_eq_true rfl) rfl ?_
  intro p e s m args below meth c ls E h hl
  have hx := E.1
  have hb := E.2.1
  have hown := E.2.2.2.1
  have hts := E.2.2.2.2.1
  have hF : Fr [(35, 39)] [(75, 86), (88, 88), (92, 93)] σ σ := Fr.refl σ
  obtain ⟨R, hR0⟩ : ∃ R, fX12_errors_0 p1 σ = R := ⟨_, rfl⟩
  have hR : fX12_errors_0b0 p1 σ = R := hR0
  have hwX12 : ∀ w ∈ wsX120, w ∈ wsX12_errors := by decide +kernel
  generalize hPQ : XQi g (fun r σ' => fX12_errors_0 p1 σ = (r, σ') ∧ INV σ' ∧ Fr [(35, 39)] [(75, 86), (88, 88), (92, 93)] σ σ') = PQz
  refine lv_iload_n hx hb dX12_errors_0 rfl (lv_at hl 1 rfl) ?_
  refine lv_iconst (v := 0) hx hb dX12_errors_1 (by decide) ?_
  refine lv_iconst (v := 2) hx hb dX12_errors_2 (by decide) ?_
  refine x_si E h (na := 3) (As := [.int p1, .int 0, .int 2]) (aX12_in_0 l g σ hI p1 0 2) gX12_errors_X12_in rfl ⟨rfl, rfl⟩ rfl (by decide +kernel) ⟨Nat.le_of_ble_eq_true rfl, Nat.le_of_ble_eq_true rfl⟩ hl.1 rfl (Nat.le_of_ble_eq_true rfl) dX12_errors_3 ⟨Nat.le_of_ble_eq_true rfl, Nat.le_of_ble_eq_true rfl⟩ (fun r1 s1 H locs q1 h => ?_)
  obtain ⟨x1, d1, rfl⟩ := q1
  replace hR := bd_to hR x1
  rcases d1 with ⟨rfl, u1_0_0, u1_0_1⟩ | ⟨rfl, u1_1_0⟩
  · skip
    obtain ⟨n2, b2, rfl⟩ := y_rnlt (N := 2) (y_lo1 u1_0_0 (by decide)) u1_0_1 (by omega)
    have b3 : 0 ≤ n2 := y_nlt (a := n2) (b := 0) (by omega) (by omega) u1_0_0
    have b4 : n2 ≤ 2 := y_nlt (a := 2) (b := n2) (by omega) (by omega) u1_0_1
    replace hR := it_f hR (by decide)
    refine lv_if_ne (tgt := 11) hx hb dX12_errors_6 (by decide) (fun _ => ?_) (fun c => absurd c (by decide))
    refine lv_aload_n hx hb dX12_errors_11 rfl (lv_at hl 0 rfl) ?_
    refine x_vv E h (na := 0) (As := []) (aX12_findPieces_0 l g σ hI) (oc_mo g) rfl gX12_errors_X12_findPieces rfl ⟨rfl, rfl⟩ rfl (by decide +kernel) ⟨Nat.le_of_ble_eq_true rfl, Nat.le_of_ble_eq_true rfl⟩ hl.1 rfl (Nat.le_of_ble_eq_true rfl) dX12_errors_12 ⟨Nat.le_of_ble_eq_true rfl, Nat.le_of_ble_eq_true rfl⟩ (fun s5 H locs q5 h => ?_)
    obtain ⟨x5, d5, hI5, f5⟩ := q5
    replace hR := bd_to hR x5
    have hF5 := hF.call f5 (I := [(35, 39)]) (J := [(75, 86), (88, 88), (92, 93)]) rfl rfl
    rcases d5 with ⟨m5_0P, m5_0R, u5_0_0, u5_0_1, u5_0_2, u5_0_3, u5_0_4, u5_0_5⟩
    refine lv_iconst (v := 0) hx hb dX12_errors_15 (by decide) ?_
    refine lv_istore_n (lv' := [(2, .int 0), (0, .ref (g.2.1 79)), (1, .int (nI n2))]) hx hb dX12_errors_16 rfl hl (by decide) rfl (fun ls hl => ?_)
    refine lv_iconst (v := 0) hx hb dX12_errors_17 (by decide) ?_
    refine lv_istore_n (lv' := [(3, .int 0), (2, .int 0), (0, .ref (g.2.1 79)), (1, .int (nI n2))]) hx hb dX12_errors_18 rfl hl (by decide) rfl (fun ls hl => ?_)
    refine lv_iconst (v := 0) hx hb dX12_errors_19 (by decide) ?_
    refine lv_istore (lv' := [(4, .int 0), (3, .int 0), (2, .int 0), (0, .ref (g.2.1 79)), (1, .int (nI n2))]) hx hb dX12_errors_20 hl (by decide) rfl (fun ls hl => ?_)
    refine lv_iconst (v := 0) hx hb dX12_errors_22 (by decide) ?_
    refine lv_istore (lv' := [(5, .int 0), (4, .int 0), (3, .int 0), (2, .int 0), (0, .ref (g.2.1 79)), (1, .int (nI n2))]) hx hb dX12_errors_23 hl (by decide) rfl (fun ls hl => ?_)
    have loop25_7 : ∀ (fu : Nat) (i7_5 : Nat) (i7_4 : Int32) (i7_3 : Int32) (i7_2 : Int32), i7_5 ≤ m5_0R → fX12_errors_0l25 fu (nI n2) i7_2 i7_3 i7_4 (nI i7_5) s5 = R → m5_0R - i7_5 < fu → ∀ (H : Heap) (locs : List Loc) (ls : Array Slot), HW g s5 s H locs → lv_has ls 7 [(5, .int (nI i7_5)), (4, .int i7_4), (3, .int i7_3), (2, .int i7_2), (0, .ref (g.2.1 79)), (1, .int (nI n2))] → W p l e { frames := 5, cells := 0, slots := 0, locals := 119 } s m args below meth c H locs 0 0 (MQ below PQz args s 0 0 (Aw g)) (F0 m 25 ls []) := by
      intro fu7
      induction fu7 with
      | zero => intro i7_5 i7_4 i7_3 i7_2 bi7_5 hR7 hm; exact absurd hm (Nat.not_lt_zero _)
      | succ fu7 ih =>
        have ih7 := ih
        clear ih
        intro i7_5 i7_4 i7_3 i7_2 bi7_5 hR7 hm7 H locs ls h hl
        replace hR7 : fX12_errors_0b25 (fX12_errors_0l25 fu7) (nI n2) i7_2 i7_3 i7_4 (nI i7_5) s5 = R := hR7
        refine lv_iload hx hb dX12_errors_25 (lv_at hl 0 rfl) ?_
        refine lv_aload_n hx hb dX12_errors_27 rfl (lv_at hl 4 rfl) ?_
        refine x_getI E h (fi_mo_rows g) rfl hwX12 (by decide) (by decide +kernel) (v := nI m5_0R) u5_0_1 dX12_errors_28 ?_
        replace hR7 := bd_to hR7 u5_0_1
        refine lv_icmp_ge (tgt := 130) hx hb dX12_errors_31 (by decide) (fun c8 => ?_) (fun c8 => ?_)
        · skip
          replace hR7 := it_t hR7 c8
          have b9 : m5_0R ≤ i7_5 := y_le (a := m5_0R) (b := i7_5) (by omega) (by omega) c8
          refine lv_iload_n hx hb dX12_errors_130 rfl (lv_at hl 5 rfl) ?_
          refine lv_iconst (v := 2) hx hb dX12_errors_131 (by decide) ?_
          refine lv_icmp_ge (tgt := 145) hx hb dX12_errors_132 (by decide) (fun c10 => ?_) (fun c10 => ?_)
          · skip
            replace hR7 := it_t hR7 c10
            have b11 : 2 ≤ n2 := y_le (a := 2) (b := n2) (by omega) (by omega) c10
            refine lv_aload_n hx hb dX12_errors_145 rfl (lv_at hl 4 rfl) ?_
            refine x_vi E h (na := 0) (As := []) (aX12_findBest_0 l g s5 hI5) (oc_mo g) rfl gX12_errors_X12_findBest rfl ⟨rfl, rfl⟩ rfl (by decide +kernel) ⟨Nat.le_of_ble_eq_true rfl, Nat.le_of_ble_eq_true rfl⟩ hl.1 rfl (Nat.le_of_ble_eq_true rfl) dX12_errors_146 ⟨Nat.le_of_ble_eq_true rfl, Nat.le_of_ble_eq_true rfl⟩ (fun r12 s12 H locs q12 h => ?_)
            obtain ⟨x12, d12, hI12, f12⟩ := q12
            replace hR7 := bp_to hR7 x12
            have hF12 := hF5.call f12 (I := [(35, 39)]) (J := [(75, 86), (88, 88), (92, 93)]) rfl rfl
            have e13 : s12.1 31 = nI m5_0R := ((f12.1 31 rfl)).trans u5_0_1
            rcases d12 with ⟨rfl, m12_0P, m12_0R, u12_0_0, u12_0_1, u12_0_2, u12_0_3, u12_0_4, u12_0_5⟩ | rfl
            · skip
              obtain rfl : m5_0R = m12_0R := y_eq (by omega) (by omega) ((e13).symm.trans u12_0_1)
              replace hR7 := it_f hR7 (by decide)
              refine lv_if_eq (tgt := 162) hx hb dX12_errors_149 (by decide) (fun c => absurd c (by decide)) (fun _ => ?_)
              refine lv_iload hx hb dX12_errors_152 (lv_at hl 1 rfl) ?_
              refine lv_aload_n hx hb dX12_errors_154 rfl (lv_at hl 4 rfl) ?_
              refine x_vi E h (na := 0) (As := []) (aX12_mostRight_0 l g s12 hI12 m5_0R e13 m12_0P u12_0_0 (by omega) (by omega) u12_0_4) (oc_mo g) rfl gX12_errors_X12_mostRight rfl ⟨rfl, rfl⟩ rfl (by decide +kernel) ⟨Nat.le_of_ble_eq_true rfl, Nat.le_of_ble_eq_true rfl⟩ hl.1 rfl (Nat.le_of_ble_eq_true rfl) dX12_errors_155 ⟨Nat.le_of_ble_eq_true rfl, Nat.le_of_ble_eq_true rfl⟩ (fun r16 s16 H locs q16 h => ?_)
              obtain ⟨x16, hI16, f16⟩ := q16
              replace hR7 := bp_to hR7 x16
              have hF16 := hF12.call f16 (I := [(35, 39)]) (J := [(75, 86), (88, 88), (92, 93)]) rfl rfl
              have e17 : s16.1 31 = nI m5_0R := ((f16.1 31 rfl)).trans e13
              have e18 : s16.1 35 = nI m12_0P := ((f16.1 35 rfl)).trans u12_0_0
              have a19 := AP.eq u12_0_4 (f16.2 77 rfl)
              refine lv_isub hx hb dX12_errors_158 ?_
              refine lv_topi (fun x20 e20 => ?_)
              replace hR7 := bd_to hR7 e20.symm
              refine lv_goto (tgt := 164) hx hb dX12_errors_159 (by decide) ?_
              subst hPQ
              exact x_iret E h ⟨hR0.trans hR7.symm, hI16, hF16⟩ dX12_errors_164
            · skip
              replace hR7 := it_t hR7 (by decide)
              refine lv_if_eq (tgt := 162) hx hb dX12_errors_149 (by decide) (fun _ => ?_) (fun c => absurd (by decide) c)
              refine lv_bipush (v := (-2)) hx hb dX12_errors_162 (by decide) ?_
              replace hR7 : fX12_errors_0b164 (-2) s12 = R := hR7
              subst hPQ
              exact x_iret E h ⟨hR0.trans hR7.symm, hI12, hF12⟩ dX12_errors_164
          · skip
            replace hR7 := it_f hR7 c10
            have b21 : n2 < 2 := y_nle (a := 2) (b := n2) (by omega) (by omega) c10
            refine lv_iload_n hx hb dX12_errors_135 rfl (lv_at hl 5 rfl) ?_
            refine lv_if_ne (tgt := 143) hx hb dX12_errors_136 (by decide) (fun c22 => ?_) (fun c22 => ?_)
            · skip
              replace hR7 := it_f hR7 c22
              have b23 : ¬ n2 = 0 := y_ne (a := n2) (b := 0) (by omega) (by omega) c22
              refine lv_iload_n hx hb dX12_errors_143 rfl (lv_at hl 2 rfl) ?_
              replace hR7 : fX12_errors_0b144 i7_3 s5 = R := hR7
              subst hPQ
              exact x_iret E h ⟨hR0.trans hR7.symm, hI5, hF5⟩ dX12_errors_144
            · skip
              replace hR7 := it_t hR7 c22
              have b24 : n2 = 0 := y_eq (a := n2) (b := 0) (by omega) (by omega) c22
              refine lv_iload_n hx hb dX12_errors_139 rfl (lv_at hl 3 rfl) ?_
              refine lv_goto (tgt := 144) hx hb dX12_errors_140 (by decide) ?_
              replace hR7 : fX12_errors_0b144 i7_2 s5 = R := hR7
              subst hPQ
              exact x_iret E h ⟨hR0.trans hR7.symm, hI5, hF5⟩ dX12_errors_144
        · skip
          replace hR7 := it_f hR7 c8
          have b25 : i7_5 < m5_0R := y_nle (a := m5_0R) (b := i7_5) (by omega) (by omega) c8
          refine lv_aload_n hx hb dX12_errors_34 rfl (lv_at hl 4 rfl) ?_
          refine x_getR E h (fr_mo_pieceOf g) rfl hwX12 (by decide) (by decide +kernel) dX12_errors_35 ?_
          refine lv_iload hx hb dX12_errors_38 (lv_at hl 0 rfl) ?_
          refine x_ldI E h (ia_mo_pieceOf g) (i := nI i7_5) (vp_in_nI (by omega) (by decide)) (v := s5.2.2 77 i7_5) (congrArg (s5.2.2 77) (nI_clamp (n := i7_5) (by omega))) dX12_errors_40 ?_
          replace hR7 := bd_to hR7 (congrArg (s5.2.2 77) (nI_clamp (n := i7_5) (by omega)))
          refine lv_bipush (v := (-9)) hx hb dX12_errors_41 (by decide) ?_
          have j51_28 : ∀ (y28_s0 : Int32), fX12_errors_0b51 (fX12_errors_0l25 fu7) (nI n2) i7_2 i7_3 i7_4 (nI i7_5) y28_s0 s5 = R → ∀ (H : Heap) (locs : List Loc) (ls : Array Slot), HW g s5 s H locs → lv_has ls 7 [(5, .int (nI i7_5)), (4, .int i7_4), (3, .int i7_3), (2, .int i7_2), (0, .ref (g.2.1 79)), (1, .int (nI n2))] → W p l e { frames := 5, cells := 0, slots := 0, locals := 119 } s m args below meth c H locs 0 0 (MQ below PQz args s 0 0 (Aw g)) (F0 m 51 ls [.int y28_s0]) := by
            intro y28_s0 hR28 H locs ls h hl
            refine lv_istore (lv' := [(6, .int y28_s0), (5, .int (nI i7_5)), (4, .int i7_4), (3, .int i7_3), (2, .int i7_2), (0, .ref (g.2.1 79)), (1, .int (nI n2))]) hx hb dX12_errors_51 hl (by decide) rfl (fun ls hl => ?_)
            refine lv_iload_n hx hb dX12_errors_53 rfl (lv_at hl 4 rfl) ?_
            refine lv_iload hx hb dX12_errors_54 (lv_at hl 0 rfl) ?_
            have j74_31 : ∀ (y31_s0 : Int32), fX12_errors_0b74 (fX12_errors_0l25 fu7) (nI n2) i7_3 i7_4 (nI i7_5) y28_s0 y31_s0 i7_2 s5 = R → ∀ (H : Heap) (locs : List Loc) (ls : Array Slot), HW g s5 s H locs → lv_has ls 7 [(6, .int y28_s0), (5, .int (nI i7_5)), (4, .int i7_4), (3, .int i7_3), (2, .int i7_2), (0, .ref (g.2.1 79)), (1, .int (nI n2))] → W p l e { frames := 5, cells := 0, slots := 0, locals := 119 } s m args below meth c H locs 0 0 (MQ below PQz args s 0 0 (Aw g)) (F0 m 74 ls [.int y31_s0, .int i7_2]) := by
              intro y31_s0 hR31 H locs ls h hl
              refine lv_iadd hx hb dX12_errors_74 ?_
              refine lv_topi (fun x32 e32 => ?_)
              replace hR31 := bd_to hR31 e32.symm
              refine lv_istore_n (lv' := [(2, .int x32), (6, .int y28_s0), (5, .int (nI i7_5)), (4, .int i7_4), (3, .int i7_3), (0, .ref (g.2.1 79)), (1, .int (nI n2))]) hx hb dX12_errors_75 rfl hl (by decide) rfl (fun ls hl => ?_)
              refine lv_iload_n hx hb dX12_errors_76 rfl (lv_at hl 4 rfl) ?_
              refine lv_iload hx hb dX12_errors_77 (lv_at hl 1 rfl) ?_
              refine lv_if_eq (tgt := 96) hx hb dX12_errors_79 (by decide) (fun c33 => ?_) (fun c33 => ?_)
              · skip
                replace hR31 := it_t hR31 c33
                subst c33
                refine lv_iconst (v := 0) hx hb dX12_errors_96 (by decide) ?_
                replace hR31 : fX12_errors_0b97 (fX12_errors_0l25 fu7) (nI n2) x32 i7_4 (nI i7_5) 0 0 i7_3 s5 = R := hR31
                refine lv_iadd hx hb dX12_errors_97 ?_
                refine lv_topi (fun x35 e35 => ?_)
                replace hR31 := bd_to hR31 e35.symm
                refine lv_istore_n (lv' := [(3, .int x35), (2, .int x32), (6, .int 0), (5, .int (nI i7_5)), (4, .int i7_4), (0, .ref (g.2.1 79)), (1, .int (nI n2))]) hx hb dX12_errors_98 rfl hl (by decide) rfl (fun ls hl => ?_)
                refine lv_iload hx hb dX12_errors_99 (lv_at hl 4 rfl) ?_
                refine lv_iload hx hb dX12_errors_101 (lv_at hl 2 rfl) ?_
                replace hR31 := it_t hR31 (by decide)
                refine lv_if_eq (tgt := 120) hx hb dX12_errors_103 (by decide) (fun _ => ?_) (fun c => absurd (by decide) c)
                refine lv_iconst (v := 0) hx hb dX12_errors_120 (by decide) ?_
                replace hR31 : fX12_errors_0b121 (fX12_errors_0l25 fu7) (nI n2) x32 x35 (nI i7_5) 0 i7_4 s5 = R := hR31
                refine lv_iadd hx hb dX12_errors_121 ?_
                refine lv_topi (fun x36 e36 => ?_)
                replace hR31 := bd_to hR31 e36.symm
                refine lv_istore (lv' := [(4, .int x36), (3, .int x35), (2, .int x32), (6, .int 0), (5, .int (nI i7_5)), (0, .ref (g.2.1 79)), (1, .int (nI n2))]) hx hb dX12_errors_122 hl (by decide) rfl (fun ls hl => ?_)
                replace hR31 := bd_to hR31 (nI_add i7_5 1)
                refine lv_iinc (v := (nI (i7_5 + 1))) (lv' := [(5, .int (nI (i7_5 + 1))), (4, .int x36), (3, .int x35), (2, .int x32), (6, .int 0), (0, .ref (g.2.1 79)), (1, .int (nI n2))]) hx hb dX12_errors_124 hl (k := 4) rfl (nI_add i7_5 1) (by decide) rfl (fun ls hl => ?_)
                refine lv_goto (tgt := 25) hx hb dX12_errors_127 (by decide) ?_
                exact ih7 (i7_5 + 1) x36 x35 x32 (by omega) hR31 (by omega) _ _ _ h (lv_sub hl [0, 1, 2, 3, 5, 6] rfl)
              · skip
                replace hR31 := it_f hR31 c33
                refine lv_aload_n hx hb dX12_errors_82 rfl (lv_at hl 5 rfl) ?_
                refine x_getR E h (fr_mo_truth g) rfl hwX12 (by decide) (by decide +kernel) dX12_errors_83 ?_
                refine lv_iload hx hb dX12_errors_86 (lv_at hl 2 rfl) ?_
                obtain ⟨n38, b38, e38⟩ := hI5.2 71 5 rfl i7_5
                refine x_ldI E h (ia_mo_truth g) (i := nI i7_5) (vp_in_nI (by omega) (by decide)) (v := nI n38) ((congrArg (s5.2.2 71) (nI_clamp (n := i7_5) (by omega))).trans e38) dX12_errors_88 ?_
                replace hR31 := bd_to hR31 ((congrArg (s5.2.2 71) (nI_clamp (n := i7_5) (by omega))).trans e38)
                refine lv_if_ne (tgt := 96) hx hb dX12_errors_89 (by decide) (fun c39 => ?_) (fun c39 => ?_)
                · skip
                  replace hR31 := it_f hR31 c39
                  have b40 : ¬ n38 = 0 := y_ne (a := n38) (b := 0) (by omega) (by omega) c39
                  refine lv_iconst (v := 0) hx hb dX12_errors_96 (by decide) ?_
                  replace hR31 : fX12_errors_0b97 (fX12_errors_0l25 fu7) (nI n2) x32 i7_4 (nI i7_5) y28_s0 0 i7_3 s5 = R := hR31
                  refine lv_iadd hx hb dX12_errors_97 ?_
                  refine lv_topi (fun x41 e41 => ?_)
                  replace hR31 := bd_to hR31 e41.symm
                  refine lv_istore_n (lv' := [(3, .int x41), (2, .int x32), (6, .int y28_s0), (5, .int (nI i7_5)), (4, .int i7_4), (0, .ref (g.2.1 79)), (1, .int (nI n2))]) hx hb dX12_errors_98 rfl hl (by decide) rfl (fun ls hl => ?_)
                  refine lv_iload hx hb dX12_errors_99 (lv_at hl 4 rfl) ?_
                  refine lv_iload hx hb dX12_errors_101 (lv_at hl 2 rfl) ?_
                  replace hR31 := it_f hR31 c33
                  refine lv_if_eq (tgt := 120) hx hb dX12_errors_103 (by decide) (fun c => absurd c c33) (fun _ => ?_)
                  refine lv_aload_n hx hb dX12_errors_106 rfl (lv_at hl 5 rfl) ?_
                  refine x_getR E h (fr_mo_truth g) rfl hwX12 (by decide) (by decide +kernel) dX12_errors_107 ?_
                  refine lv_iload hx hb dX12_errors_110 (lv_at hl 3 rfl) ?_
                  refine x_ldI E h (ia_mo_truth g) (i := nI i7_5) (vp_in_nI (by omega) (by decide)) (v := nI n38) ((congrArg (s5.2.2 71) (nI_clamp (n := i7_5) (by omega))).trans e38) dX12_errors_112 ?_
                  replace hR31 := bd_to hR31 ((congrArg (s5.2.2 71) (nI_clamp (n := i7_5) (by omega))).trans e38)
                  have j121_44 : ∀ (y44_s0 : Int32), fX12_errors_0b121 (fX12_errors_0l25 fu7) (nI n2) x32 x41 (nI i7_5) y44_s0 i7_4 s5 = R → ∀ (H : Heap) (locs : List Loc) (ls : Array Slot), HW g s5 s H locs → lv_has ls 7 [(3, .int x41), (2, .int x32), (6, .int y28_s0), (5, .int (nI i7_5)), (4, .int i7_4), (0, .ref (g.2.1 79)), (1, .int (nI n2))] → W p l e { frames := 5, cells := 0, slots := 0, locals := 119 } s m args below meth c H locs 0 0 (MQ below PQz args s 0 0 (Aw g)) (F0 m 121 ls [.int y44_s0, .int i7_4]) := by
                    intro y44_s0 hR44 H locs ls h hl
                    refine lv_iadd hx hb dX12_errors_121 ?_
                    refine lv_topi (fun x45 e45 => ?_)
                    replace hR44 := bd_to hR44 e45.symm
                    refine lv_istore (lv' := [(4, .int x45), (3, .int x41), (2, .int x32), (6, .int y28_s0), (5, .int (nI i7_5)), (0, .ref (g.2.1 79)), (1, .int (nI n2))]) hx hb dX12_errors_122 hl (by decide) rfl (fun ls hl => ?_)
                    replace hR44 := bd_to hR44 (nI_add i7_5 1)
                    refine lv_iinc (v := (nI (i7_5 + 1))) (lv' := [(5, .int (nI (i7_5 + 1))), (4, .int x45), (3, .int x41), (2, .int x32), (6, .int y28_s0), (0, .ref (g.2.1 79)), (1, .int (nI n2))]) hx hb dX12_errors_124 hl (k := 4) rfl (nI_add i7_5 1) (by decide) rfl (fun ls hl => ?_)
                    refine lv_goto (tgt := 25) hx hb dX12_errors_127 (by decide) ?_
                    exact ih7 (i7_5 + 1) x45 x41 x32 (by omega) hR44 (by omega) _ _ _ h (lv_sub hl [0, 1, 2, 3, 5, 6] rfl)
                  refine lv_if_le (tgt := 120) hx hb dX12_errors_113 (by decide) (fun c42 => ?_) (fun c42 => ?_)
                  · skip
                    replace hR31 := it_t hR31 c42
                    have b43 : n38 ≤ 0 := y_le (a := n38) (b := 0) (by omega) (by omega) c42
                    refine lv_iconst (v := 0) hx hb dX12_errors_120 (by decide) ?_
                    exact j121_44 0 hR31 _ _ _ h (lv_sub hl [0, 1, 2, 3, 4, 5, 6] rfl)
                  · skip
                    replace hR31 := it_f hR31 c42
                    have b46 : 0 < n38 := y_nle (a := n38) (b := 0) (by omega) (by omega) c42
                    refine lv_iconst (v := 1) hx hb dX12_errors_116 (by decide) ?_
                    refine lv_goto (tgt := 121) hx hb dX12_errors_117 (by decide) ?_
                    exact j121_44 1 hR31 _ _ _ h (lv_sub hl [0, 1, 2, 3, 4, 5, 6] rfl)
                · skip
                  replace hR31 := it_t hR31 c39
                  have b47 : n38 = 0 := y_eq (a := n38) (b := 0) (by omega) (by omega) c39
                  refine lv_iconst (v := 1) hx hb dX12_errors_92 (by decide) ?_
                  refine lv_goto (tgt := 97) hx hb dX12_errors_93 (by decide) ?_
                  replace hR31 : fX12_errors_0b97 (fX12_errors_0l25 fu7) (nI n2) x32 i7_4 (nI i7_5) y28_s0 1 i7_3 s5 = R := hR31
                  refine lv_iadd hx hb dX12_errors_97 ?_
                  refine lv_topi (fun x48 e48 => ?_)
                  replace hR31 := bd_to hR31 e48.symm
                  refine lv_istore_n (lv' := [(3, .int x48), (2, .int x32), (6, .int y28_s0), (5, .int (nI i7_5)), (4, .int i7_4), (0, .ref (g.2.1 79)), (1, .int (nI n2))]) hx hb dX12_errors_98 rfl hl (by decide) rfl (fun ls hl => ?_)
                  refine lv_iload hx hb dX12_errors_99 (lv_at hl 4 rfl) ?_
                  refine lv_iload hx hb dX12_errors_101 (lv_at hl 2 rfl) ?_
                  replace hR31 := it_f hR31 c33
                  refine lv_if_eq (tgt := 120) hx hb dX12_errors_103 (by decide) (fun c => absurd c c33) (fun _ => ?_)
                  refine lv_aload_n hx hb dX12_errors_106 rfl (lv_at hl 5 rfl) ?_
                  refine x_getR E h (fr_mo_truth g) rfl hwX12 (by decide) (by decide +kernel) dX12_errors_107 ?_
                  refine lv_iload hx hb dX12_errors_110 (lv_at hl 3 rfl) ?_
                  refine x_ldI E h (ia_mo_truth g) (i := nI i7_5) (vp_in_nI (by omega) (by decide)) (v := nI n38) ((congrArg (s5.2.2 71) (nI_clamp (n := i7_5) (by omega))).trans e38) dX12_errors_112 ?_
                  replace hR31 := bd_to hR31 ((congrArg (s5.2.2 71) (nI_clamp (n := i7_5) (by omega))).trans e38)
                  have j121_51 : ∀ (y51_s0 : Int32), fX12_errors_0b121 (fX12_errors_0l25 fu7) (nI n2) x32 x48 (nI i7_5) y51_s0 i7_4 s5 = R → ∀ (H : Heap) (locs : List Loc) (ls : Array Slot), HW g s5 s H locs → lv_has ls 7 [(3, .int x48), (2, .int x32), (6, .int y28_s0), (5, .int (nI i7_5)), (4, .int i7_4), (0, .ref (g.2.1 79)), (1, .int (nI n2))] → W p l e { frames := 5, cells := 0, slots := 0, locals := 119 } s m args below meth c H locs 0 0 (MQ below PQz args s 0 0 (Aw g)) (F0 m 121 ls [.int y51_s0, .int i7_4]) := by
                    intro y51_s0 hR51 H locs ls h hl
                    refine lv_iadd hx hb dX12_errors_121 ?_
                    refine lv_topi (fun x52 e52 => ?_)
                    replace hR51 := bd_to hR51 e52.symm
                    refine lv_istore (lv' := [(4, .int x52), (3, .int x48), (2, .int x32), (6, .int y28_s0), (5, .int (nI i7_5)), (0, .ref (g.2.1 79)), (1, .int (nI n2))]) hx hb dX12_errors_122 hl (by decide) rfl (fun ls hl => ?_)
                    replace hR51 := bd_to hR51 (nI_add i7_5 1)
                    refine lv_iinc (v := (nI (i7_5 + 1))) (lv' := [(5, .int (nI (i7_5 + 1))), (4, .int x52), (3, .int x48), (2, .int x32), (6, .int y28_s0), (0, .ref (g.2.1 79)), (1, .int (nI n2))]) hx hb dX12_errors_124 hl (k := 4) rfl (nI_add i7_5 1) (by decide) rfl (fun ls hl => ?_)
                    refine lv_goto (tgt := 25) hx hb dX12_errors_127 (by decide) ?_
                    exact ih7 (i7_5 + 1) x52 x48 x32 (by omega) hR51 (by omega) _ _ _ h (lv_sub hl [0, 1, 2, 3, 5, 6] rfl)
                  refine lv_if_le (tgt := 120) hx hb dX12_errors_113 (by decide) (fun c49 => ?_) (fun c49 => ?_)
                  · skip
                    replace hR31 := it_t hR31 c49
                    have b50 : n38 ≤ 0 := y_le (a := n38) (b := 0) (by omega) (by omega) c49
                    refine lv_iconst (v := 0) hx hb dX12_errors_120 (by decide) ?_
                    exact j121_51 0 hR31 _ _ _ h (lv_sub hl [0, 1, 2, 3, 4, 5, 6] rfl)
                  · skip
                    replace hR31 := it_f hR31 c49
                    have b53 : 0 < n38 := y_nle (a := n38) (b := 0) (by omega) (by omega) c49
                    refine lv_iconst (v := 1) hx hb dX12_errors_116 (by decide) ?_
                    refine lv_goto (tgt := 121) hx hb dX12_errors_117 (by decide) ?_
                    exact j121_51 1 hR31 _ _ _ h (lv_sub hl [0, 1, 2, 3, 4, 5, 6] rfl)
            refine lv_if_ne (tgt := 73) hx hb dX12_errors_56 (by decide) (fun c29 => ?_) (fun c29 => ?_)
            · skip
              replace hR28 := it_f hR28 c29
              refine lv_iconst (v := 0) hx hb dX12_errors_73 (by decide) ?_
              exact j74_31 0 hR28 _ _ _ h (lv_sub hl [0, 1, 2, 3, 4, 5, 6] rfl)
            · skip
              replace hR28 := it_t hR28 c29
              subst c29
              refine lv_aload_n hx hb dX12_errors_59 rfl (lv_at hl 5 rfl) ?_
              refine x_getR E h (fr_mo_truth g) rfl hwX12 (by decide) (by decide +kernel) dX12_errors_60 ?_
              refine lv_iload hx hb dX12_errors_63 (lv_at hl 1 rfl) ?_
              obtain ⟨n55, b55, e55⟩ := hI5.2 71 5 rfl i7_5
              refine x_ldI E h (ia_mo_truth g) (i := nI i7_5) (vp_in_nI (by omega) (by decide)) (v := nI n55) ((congrArg (s5.2.2 71) (nI_clamp (n := i7_5) (by omega))).trans e55) dX12_errors_65 ?_
              replace hR28 := bd_to hR28 ((congrArg (s5.2.2 71) (nI_clamp (n := i7_5) (by omega))).trans e55)
              refine lv_if_le (tgt := 73) hx hb dX12_errors_66 (by decide) (fun c56 => ?_) (fun c56 => ?_)
              · skip
                replace hR28 := it_t hR28 c56
                have b57 : n55 ≤ 0 := y_le (a := n55) (b := 0) (by omega) (by omega) c56
                refine lv_iconst (v := 0) hx hb dX12_errors_73 (by decide) ?_
                exact j74_31 0 hR28 _ _ _ h (lv_sub hl [0, 1, 2, 3, 4, 5, 6] rfl)
              · skip
                replace hR28 := it_f hR28 c56
                have b58 : 0 < n55 := y_nle (a := n55) (b := 0) (by omega) (by omega) c56
                refine lv_iconst (v := 1) hx hb dX12_errors_69 (by decide) ?_
                refine lv_goto (tgt := 74) hx hb dX12_errors_70 (by decide) ?_
                exact j74_31 1 hR28 _ _ _ h (lv_sub hl [0, 1, 2, 3, 4, 5, 6] rfl)
          refine lv_icmp_eq (tgt := 50) hx hb dX12_errors_43 (by decide) (fun c26 => ?_) (fun c26 => ?_)
          · skip
            replace hR7 := it_t hR7 c26
            refine lv_iconst (v := 0) hx hb dX12_errors_50 (by decide) ?_
            exact j51_28 0 hR7 _ _ _ h (lv_sub hl [0, 1, 2, 3, 4, 5] rfl)
          · skip
            replace hR7 := it_f hR7 c26
            refine lv_iconst (v := 1) hx hb dX12_errors_46 (by decide) ?_
            refine lv_goto (tgt := 51) hx hb dX12_errors_47 (by decide) ?_
            exact j51_28 1 hR7 _ _ _ h (lv_sub hl [0, 1, 2, 3, 4, 5] rfl)
    exact loop25_7 4096 0 0 0 0 (Nat.zero_le _) hR (by omega) _ _ _ h (lv_sub hl [0, 1, 2, 3, 4, 5] rfl)
  · skip
    replace hR := it_t hR (by decide)
    refine lv_if_ne (tgt := 11) hx hb dX12_errors_6 (by decide) (fun c => absurd (by decide) c) (fun _ => ?_)
    refine lv_iconst (v := (-1)) hx hb dX12_errors_9 (by decide) ?_
    subst hPQ
    exact x_iret E h ⟨hR0.trans hR.symm, hI, hF⟩ dX12_errors_10
set_option maxHeartbeats 4000000 in
set_option maxRecDepth 100000 in
theorem aX12_weight_0 (l : Launch) (g : CX) (σ : ST) (hI : INV σ) (p1 : Int32) (p2 : Int32) : XM l g yX12_weight wsX12_weight { frames := 4, cells := 0, slots := 0, locals := 95 } [.ref (g.2.1 79), .int p1, .int p2] σ (XQi g (fun r σ' => fX12_weight_0 p1 p2 σ = (r, σ') ∧ INV σ' ∧ Fr [(35, 38)] [(75, 84)] σ σ')) := by
  refine x_met (own := RX12) (cc := cX12_weight) (maxL := 6) (ret := (some .int)) (lv := [(0, .ref (g.2.1 79)), (1, .int p1), (2, .int p2)]) (by decide) rfl rfl (Nat.le_of_ble_eq_true rfl) rfl ?_
  intro p e s m args below meth c ls E h hl
  have hx := E.1
  have hb := E.2.1
  have hown := E.2.2.2.1
  have hts := E.2.2.2.2.1
  have hF : Fr [(35, 38)] [(75, 84)] σ σ := Fr.refl σ
  obtain ⟨R, hR0⟩ : ∃ R, fX12_weight_0 p1 p2 σ = R := ⟨_, rfl⟩
  have hR : fX12_weight_0b0 p1 p2 σ = R := hR0
  have hwX12 : ∀ w ∈ wsX120, w ∈ wsX12_weight := by decide +kernel
  generalize hPQ : XQi g (fun r σ' => fX12_weight_0 p1 p2 σ = (r, σ') ∧ INV σ' ∧ Fr [(35, 38)] [(75, 84)] σ σ') = PQz
  refine lv_aload_n hx hb dX12_weight_0 rfl (lv_at hl 0 rfl) ?_
  refine x_vv E h (na := 0) (As := []) (aX12_findPieces_0 l g σ hI) (oc_mo g) rfl gX12_weight_X12_findPieces rfl ⟨rfl, rfl⟩ rfl (by decide +kernel) ⟨Nat.le_of_ble_eq_true rfl, Nat.le_of_ble_eq_true rfl⟩ hl.1 rfl (Nat.le_of_ble_eq_true rfl) dX12_weight_1 ⟨Nat.le_of_ble_eq_true rfl, Nat.le_of_ble_eq_true rfl⟩ (fun s1 H locs q1 h => ?_)
  obtain ⟨x1, d1, hI1, f1⟩ := q1
  replace hR := bd_to hR x1
  have hF1 := hF.call f1 (I := [(35, 38)]) (J := [(75, 84)]) rfl rfl
  rcases d1 with ⟨m1_0P, m1_0R, u1_0_0, u1_0_1, u1_0_2, u1_0_3, u1_0_4, u1_0_5⟩
  refine lv_iload_n hx hb dX12_weight_4 rfl (lv_at hl 1 rfl) ?_
  refine lv_iconst (v := 0) hx hb dX12_weight_5 (by decide) ?_
  refine lv_bipush (v := 7) hx hb dX12_weight_6 (by decide) ?_
  refine x_si E h (na := 3) (As := [.int p1, .int 0, .int 7]) (aX12_in_0 l g s1 hI1 p1 0 7) gX12_weight_X12_in rfl ⟨rfl, rfl⟩ rfl (by decide +kernel) ⟨Nat.le_of_ble_eq_true rfl, Nat.le_of_ble_eq_true rfl⟩ hl.1 rfl (Nat.le_of_ble_eq_true rfl) dX12_weight_8 ⟨Nat.le_of_ble_eq_true rfl, Nat.le_of_ble_eq_true rfl⟩ (fun r3 s3 H locs q3 h => ?_)
  obtain ⟨x3, d3, rfl⟩ := q3
  replace hR := bd_to hR x3
  rcases d3 with ⟨rfl, u3_0_0, u3_0_1⟩ | ⟨rfl, u3_1_0⟩
  · skip
    obtain ⟨n4, b4, rfl⟩ := y_rnlt (N := 7) (y_lo1 u3_0_0 (by decide)) u3_0_1 (by omega)
    have b5 : 0 ≤ n4 := y_nlt (a := n4) (b := 0) (by omega) (by omega) u3_0_0
    have b6 : n4 ≤ 7 := y_nlt (a := 7) (b := n4) (by omega) (by omega) u3_0_1
    replace hR := it_f hR (by decide)
    refine lv_if_eq (tgt := 22) hx hb dX12_weight_11 (by decide) (fun c => absurd c (by decide)) (fun _ => ?_)
    refine lv_aload_n hx hb dX12_weight_14 rfl (lv_at hl 0 rfl) ?_
    refine lv_iload_n hx hb dX12_weight_15 rfl (lv_at hl 2 rfl) ?_
    refine x_vi E h (na := 1) (As := [.int p2]) (aX12_isPiece_0 l g s1 hI1 p2) (oc_mo g) rfl gX12_weight_X12_isPiece rfl ⟨rfl, rfl⟩ rfl (by decide +kernel) ⟨Nat.le_of_ble_eq_true rfl, Nat.le_of_ble_eq_true rfl⟩ hl.1 rfl (Nat.le_of_ble_eq_true rfl) dX12_weight_16 ⟨Nat.le_of_ble_eq_true rfl, Nat.le_of_ble_eq_true rfl⟩ (fun r7 s7 H locs q7 h => ?_)
    obtain ⟨x7, d7, rfl⟩ := q7
    replace hR := bd_to hR x7
    rcases d7 with ⟨rfl, m7_0n, m7_0P, u7_0_0, u7_0_1, u7_0_2, rfl⟩ | rfl
    · skip
      obtain rfl : m1_0P = m7_0P := y_eq (by omega) (by omega) ((u1_0_0).symm.trans u7_0_0)
      replace hR := it_f hR (by decide)
      refine lv_if_ne (tgt := 24) hx hb dX12_weight_19 (by decide) (fun _ => ?_) (fun c => absurd c (by decide))
      refine lv_aload_n hx hb dX12_weight_24 rfl (lv_at hl 0 rfl) ?_
      refine x_getR E h (fr_mo_many g) rfl hwX12 (by decide) (by decide +kernel) dX12_weight_25 ?_
      refine lv_iload_n hx hb dX12_weight_28 rfl (lv_at hl 2 rfl) ?_
      refine x_ldI E h (ia_mo_many g) (i := nI m7_0n) (vp_in_nI (by omega) (by decide)) (v := s1.2.2 76 m7_0n) (congrArg (s1.2.2 76) (nI_clamp (n := m7_0n) (by omega))) dX12_weight_29 ?_
      replace hR := bd_to hR (congrArg (s1.2.2 76) (nI_clamp (n := m7_0n) (by omega)))
      refine lv_topi (fun x8 e8 => ?_)
      try rw [← e8] at hR
      refine lv_istore_n (lv' := [(3, .int x8), (0, .ref (g.2.1 79)), (1, .int (nI n4)), (2, .int (nI m7_0n))]) hx hb dX12_weight_30 rfl hl (by decide) rfl (fun ls hl => ?_)
      refine lv_iload_n hx hb dX12_weight_31 rfl (lv_at hl 0 rfl) ?_
      refine lv_aload_n hx hb dX12_weight_32 rfl (lv_at hl 1 rfl) ?_
      refine x_getR E h (fr_mo_middle g) rfl hwX12 (by decide) (by decide +kernel) dX12_weight_33 ?_
      refine lv_iconst (v := 4) hx hb dX12_weight_36 (by decide) ?_
      refine lv_iload_n hx hb dX12_weight_37 rfl (lv_at hl 3 rfl) ?_
      refine lv_imul hx hb dX12_weight_38 ?_
      refine x_topI (v2 := nI (4 * m7_0n)) (pk_mul 4 m7_0n) ?_
      replace hR := bd_to hR (pk_mul 4 m7_0n)
      refine x_ldI E h (ia_mo_middle g) (i := nI (4 * m7_0n)) (vp_in_nI (by omega) (by decide)) (v := s1.2.2 78 (4 * m7_0n)) (congrArg (s1.2.2 78) (nI_clamp (n := 4 * m7_0n) (by omega))) dX12_weight_39 ?_
      replace hR := bd_to hR (congrArg (s1.2.2 78) (nI_clamp (n := 4 * m7_0n) (by omega)))
      refine lv_iadd hx hb dX12_weight_40 ?_
      refine lv_topi (fun x9 e9 => ?_)
      replace hR := bd_to hR e9.symm
      refine lv_istore (lv' := [(4, .int x9), (3, .int x8), (0, .ref (g.2.1 79)), (1, .int (nI n4)), (2, .int (nI m7_0n))]) hx hb dX12_weight_41 hl (by decide) rfl (fun ls hl => ?_)
      refine lv_iload hx hb dX12_weight_43 (lv_at hl 0 rfl) ?_
      refine lv_aload_n hx hb dX12_weight_45 rfl (lv_at hl 2 rfl) ?_
      refine x_getR E h (fr_mo_spread g) rfl hwX12 (by decide) (by decide +kernel) dX12_weight_46 ?_
      refine lv_iload_n hx hb dX12_weight_49 rfl (lv_at hl 4 rfl) ?_
      refine x_ldI E h (ia_mo_spread g) (i := nI m7_0n) (vp_in_nI (by omega) (by decide)) (v := s1.2.2 79 m7_0n) (congrArg (s1.2.2 79) (nI_clamp (n := m7_0n) (by omega))) dX12_weight_50 ?_
      replace hR := bd_to hR (congrArg (s1.2.2 79) (nI_clamp (n := m7_0n) (by omega)))
      refine lv_iadd hx hb dX12_weight_51 ?_
      refine lv_topi (fun x10 e10 => ?_)
      replace hR := bd_to hR e10.symm
      refine lv_istore (lv' := [(5, .int x10), (4, .int x9), (3, .int x8), (0, .ref (g.2.1 79)), (1, .int (nI n4)), (2, .int (nI m7_0n))]) hx hb dX12_weight_52 hl (by decide) rfl (fun ls hl => ?_)
      refine lv_iload_n hx hb dX12_weight_54 rfl (lv_at hl 4 rfl) ?_
      refine lv_topi (fun x11 e11 => ?_)
      by_cases c_55_0 : x11 = 0
      · refine x_topI (v2 := 0) c_55_0 ?_
        replace hR := it_t hR (e11.symm.trans c_55_0)
        refine lv_tableIn (tgt := 96) (off := 41) hx hb dX12_weight_55 (by decide) (by decide) (by decide) (by decide) ?_
        refine lv_aload_n hx hb dX12_weight_96 rfl (lv_at hl 3 rfl) ?_
        refine lv_dup hx hb dX12_weight_97 rfl ?_
        refine x_getL E h (fl_mo_trace g) rfl hwX12 (by decide) (by decide +kernel) rfl dX12_weight_98 ?_
        replace hR := bd_to hR rfl
        refine lv_lconst (v := 1) hx hb dX12_weight_101 (by decide) ?_
        refine lv_ladd hx hb dX12_weight_102 ?_
        refine lv_topl (fun y12 e12 => ?_)
        replace hR := bd_to hR e12.symm
        refine y_putL E h hI1 hF1 (ty := .long) (v := y12) (fl_mo_trace g) rfl hwX12 tyX12_ok nmX12 (by decide) (by decide +kernel) (by decide +kernel) (by decide +kernel) rfl rfl dX12_weight_103 (fun s13 H locs q13 hI13 hF13 h => ?_)
        replace hR := bd_to hR q13.symm
        have e14 : s13.1 35 = nI m1_0P := (congrArg (fun t : ST => t.1 35) q13).trans u1_0_0
        have e15 : s13.1 31 = nI m1_0R := (congrArg (fun t : ST => t.1 31) q13).trans u1_0_1
        have a16 := AP.eq u1_0_4 (show s13.2.2 77 = s1.2.2 77 from (congrArg (fun t : ST => t.2.2 77) q13).trans rfl)
        refine lv_iload_n hx hb dX12_weight_106 rfl (lv_at hl 2 rfl) ?_
        subst hPQ
        exact x_iret E h ⟨hR0.trans hR.symm, hI13, hF13⟩ dX12_weight_107
      replace hR := it_f hR (fun q9 => c_55_0 (e11.trans q9))
      by_cases c_55_1 : x11 = 1
      · refine x_topI (v2 := 1) c_55_1 ?_
        replace hR := it_t hR (e11.symm.trans c_55_1)
        refine lv_tableIn (tgt := 108) (off := 53) hx hb dX12_weight_55 (by decide) (by decide) (by decide) (by decide) ?_
        refine lv_aload_n hx hb dX12_weight_108 rfl (lv_at hl 3 rfl) ?_
        refine lv_dup hx hb dX12_weight_109 rfl ?_
        refine x_getL E h (fl_mo_trace g) rfl hwX12 (by decide) (by decide +kernel) rfl dX12_weight_110 ?_
        replace hR := bd_to hR rfl
        refine lv_ldc2 (v := 11) hx hb hown (hts (.constantLong RX12 274 (11)) (by decide +kernel)) dX12_weight_113 ?_
        refine lv_ladd hx hb dX12_weight_116 ?_
        refine lv_topl (fun y17 e17 => ?_)
        replace hR := bd_to hR e17.symm
        refine y_putL E h hI1 hF1 (ty := .long) (v := y17) (fl_mo_trace g) rfl hwX12 tyX12_ok nmX12 (by decide) (by decide +kernel) (by decide +kernel) (by decide +kernel) rfl rfl dX12_weight_117 (fun s18 H locs q18 hI18 hF18 h => ?_)
        replace hR := bd_to hR q18.symm
        have e19 : s18.1 35 = nI m1_0P := (congrArg (fun t : ST => t.1 35) q18).trans u1_0_0
        have e20 : s18.1 31 = nI m1_0R := (congrArg (fun t : ST => t.1 31) q18).trans u1_0_1
        have a21 := AP.eq u1_0_4 (show s18.2.2 77 = s1.2.2 77 from (congrArg (fun t : ST => t.2.2 77) q18).trans rfl)
        refine lv_iload hx hb dX12_weight_120 (lv_at hl 1 rfl) ?_
        subst hPQ
        exact x_iret E h ⟨hR0.trans hR.symm, hI18, hF18⟩ dX12_weight_122
      replace hR := it_f hR (fun q9 => c_55_1 (e11.trans q9))
      by_cases c_55_2 : x11 = 2
      · refine x_topI (v2 := 2) c_55_2 ?_
        replace hR := it_t hR (e11.symm.trans c_55_2)
        refine lv_tableIn (tgt := 123) (off := 68) hx hb dX12_weight_55 (by decide) (by decide) (by decide) (by decide) ?_
        refine lv_aload_n hx hb dX12_weight_123 rfl (lv_at hl 3 rfl) ?_
        refine lv_dup hx hb dX12_weight_124 rfl ?_
        refine x_getL E h (fl_mo_trace g) rfl hwX12 (by decide) (by decide +kernel) rfl dX12_weight_125 ?_
        replace hR := bd_to hR rfl
        refine lv_ldc2 (v := 111) hx hb hown (hts (.constantLong RX12 276 (111)) (by decide +kernel)) dX12_weight_128 ?_
        refine lv_ladd hx hb dX12_weight_131 ?_
        refine lv_topl (fun y22 e22 => ?_)
        replace hR := bd_to hR e22.symm
        refine y_putL E h hI1 hF1 (ty := .long) (v := y22) (fl_mo_trace g) rfl hwX12 tyX12_ok nmX12 (by decide) (by decide +kernel) (by decide +kernel) (by decide +kernel) rfl rfl dX12_weight_132 (fun s23 H locs q23 hI23 hF23 h => ?_)
        replace hR := bd_to hR q23.symm
        have e24 : s23.1 35 = nI m1_0P := (congrArg (fun t : ST => t.1 35) q23).trans u1_0_0
        have e25 : s23.1 31 = nI m1_0R := (congrArg (fun t : ST => t.1 31) q23).trans u1_0_1
        have a26 := AP.eq u1_0_4 (show s23.2.2 77 = s1.2.2 77 from (congrArg (fun t : ST => t.2.2 77) q23).trans rfl)
        refine lv_iload hx hb dX12_weight_135 (lv_at hl 0 rfl) ?_
        subst hPQ
        exact x_iret E h ⟨hR0.trans hR.symm, hI23, hF23⟩ dX12_weight_137
      replace hR := it_f hR (fun q9 => c_55_2 (e11.trans q9))
      by_cases c_55_3 : x11 = 3
      · refine x_topI (v2 := 3) c_55_3 ?_
        replace hR := it_t hR (e11.symm.trans c_55_3)
        refine lv_tableIn (tgt := 138) (off := 83) hx hb dX12_weight_55 (by decide) (by decide) (by decide) (by decide) ?_
        refine lv_aload_n hx hb dX12_weight_138 rfl (lv_at hl 3 rfl) ?_
        refine lv_dup hx hb dX12_weight_139 rfl ?_
        refine x_getL E h (fl_mo_trace g) rfl hwX12 (by decide) (by decide +kernel) rfl dX12_weight_140 ?_
        replace hR := bd_to hR rfl
        refine lv_ldc2 (v := 1111) hx hb hown (hts (.constantLong RX12 278 (1111)) (by decide +kernel)) dX12_weight_143 ?_
        refine lv_ladd hx hb dX12_weight_146 ?_
        refine lv_topl (fun y27 e27 => ?_)
        replace hR := bd_to hR e27.symm
        refine y_putL E h hI1 hF1 (ty := .long) (v := y27) (fl_mo_trace g) rfl hwX12 tyX12_ok nmX12 (by decide) (by decide +kernel) (by decide +kernel) (by decide +kernel) rfl rfl dX12_weight_147 (fun s28 H locs q28 hI28 hF28 h => ?_)
        replace hR := bd_to hR q28.symm
        have e29 : s28.1 35 = nI m1_0P := (congrArg (fun t : ST => t.1 35) q28).trans u1_0_0
        have e30 : s28.1 31 = nI m1_0R := (congrArg (fun t : ST => t.1 31) q28).trans u1_0_1
        have a31 := AP.eq u1_0_4 (show s28.2.2 77 = s1.2.2 77 from (congrArg (fun t : ST => t.2.2 77) q28).trans rfl)
        refine lv_iload hx hb dX12_weight_150 (lv_at hl 0 rfl) ?_
        refine lv_iconst (v := 1) hx hb dX12_weight_152 (by decide) ?_
        refine lv_iadd hx hb dX12_weight_153 ?_
        refine lv_topi (fun x32 e32 => ?_)
        replace hR := bd_to hR e32.symm
        refine lv_iconst (v := 2) hx hb dX12_weight_154 (by decide) ?_
        refine lv_idiv hx hb dX12_weight_155 (by decide) ?_
        refine lv_topi (fun x33 e33 => ?_)
        replace hR := bd_to hR e33.symm
        subst hPQ
        exact x_iret E h ⟨hR0.trans hR.symm, hI28, hF28⟩ dX12_weight_156
      replace hR := it_f hR (fun q9 => c_55_3 (e11.trans q9))
      by_cases c_55_4 : x11 = 4
      · refine x_topI (v2 := 4) c_55_4 ?_
        replace hR := it_t hR (e11.symm.trans c_55_4)
        refine lv_tableIn (tgt := 157) (off := 102) hx hb dX12_weight_55 (by decide) (by decide) (by decide) (by decide) ?_
        refine lv_aload_n hx hb dX12_weight_157 rfl (lv_at hl 3 rfl) ?_
        refine lv_dup hx hb dX12_weight_158 rfl ?_
        refine x_getL E h (fl_mo_trace g) rfl hwX12 (by decide) (by decide +kernel) rfl dX12_weight_159 ?_
        replace hR := bd_to hR rfl
        refine lv_ldc2 (v := 10111) hx hb hown (hts (.constantLong RX12 280 (10111)) (by decide +kernel)) dX12_weight_162 ?_
        refine lv_ladd hx hb dX12_weight_165 ?_
        refine lv_topl (fun y34 e34 => ?_)
        replace hR := bd_to hR e34.symm
        refine y_putL E h hI1 hF1 (ty := .long) (v := y34) (fl_mo_trace g) rfl hwX12 tyX12_ok nmX12 (by decide) (by decide +kernel) (by decide +kernel) (by decide +kernel) rfl rfl dX12_weight_166 (fun s35 H locs q35 hI35 hF35 h => ?_)
        replace hR := bd_to hR q35.symm
        have e36 : s35.1 35 = nI m1_0P := (congrArg (fun t : ST => t.1 35) q35).trans u1_0_0
        have e37 : s35.1 31 = nI m1_0R := (congrArg (fun t : ST => t.1 31) q35).trans u1_0_1
        have a38 := AP.eq u1_0_4 (show s35.2.2 77 = s1.2.2 77 from (congrArg (fun t : ST => t.2.2 77) q35).trans rfl)
        refine lv_iload hx hb dX12_weight_169 (lv_at hl 0 rfl) ?_
        refine lv_iconst (v := 3) hx hb dX12_weight_171 (by decide) ?_
        refine lv_icmp_ge (tgt := 179) hx hb dX12_weight_172 (by decide) (fun c39 => ?_) (fun c39 => ?_)
        · skip
          replace hR := it_t hR c39
          refine lv_iload hx hb dX12_weight_179 (lv_at hl 0 rfl) ?_
          refine lv_iconst (v := 3) hx hb dX12_weight_181 (by decide) ?_
          refine lv_isub hx hb dX12_weight_182 ?_
          refine lv_topi (fun x41 e41 => ?_)
          replace hR := bd_to hR e41.symm
          subst hPQ
          exact x_iret E h ⟨hR0.trans hR.symm, hI35, hF35⟩ dX12_weight_183
        · skip
          replace hR := it_f hR c39
          refine lv_iconst (v := 0) hx hb dX12_weight_175 (by decide) ?_
          refine lv_goto (tgt := 183) hx hb dX12_weight_176 (by decide) ?_
          replace hR : fX12_weight_0b183 0 s35 = R := hR
          subst hPQ
          exact x_iret E h ⟨hR0.trans hR.symm, hI35, hF35⟩ dX12_weight_183
      replace hR := it_f hR (fun q9 => c_55_4 (e11.trans q9))
      by_cases c_55_5 : x11 = 5
      · refine x_topI (v2 := 5) c_55_5 ?_
        replace hR := it_t hR (e11.symm.trans c_55_5)
        refine lv_tableIn (tgt := 184) (off := 129) hx hb dX12_weight_55 (by decide) (by decide) (by decide) (by decide) ?_
        refine lv_aload_n hx hb dX12_weight_184 rfl (lv_at hl 3 rfl) ?_
        refine lv_dup hx hb dX12_weight_185 rfl ?_
        refine x_getL E h (fl_mo_trace g) rfl hwX12 (by decide) (by decide +kernel) rfl dX12_weight_186 ?_
        replace hR := bd_to hR rfl
        refine lv_ldc2 (v := 100011) hx hb hown (hts (.constantLong RX12 282 (100011)) (by decide +kernel)) dX12_weight_189 ?_
        refine lv_ladd hx hb dX12_weight_192 ?_
        refine lv_topl (fun y43 e43 => ?_)
        replace hR := bd_to hR e43.symm
        refine y_putL E h hI1 hF1 (ty := .long) (v := y43) (fl_mo_trace g) rfl hwX12 tyX12_ok nmX12 (by decide) (by decide +kernel) (by decide +kernel) (by decide +kernel) rfl rfl dX12_weight_193 (fun s44 H locs q44 hI44 hF44 h => ?_)
        replace hR := bd_to hR q44.symm
        have e45 : s44.1 35 = nI m1_0P := (congrArg (fun t : ST => t.1 35) q44).trans u1_0_0
        have e46 : s44.1 31 = nI m1_0R := (congrArg (fun t : ST => t.1 31) q44).trans u1_0_1
        have a47 := AP.eq u1_0_4 (show s44.2.2 77 = s1.2.2 77 from (congrArg (fun t : ST => t.2.2 77) q44).trans rfl)
        refine lv_iload hx hb dX12_weight_196 (lv_at hl 1 rfl) ?_
        refine lv_iconst (v := 3) hx hb dX12_weight_198 (by decide) ?_
        refine lv_idiv hx hb dX12_weight_199 (by decide) ?_
        refine lv_topi (fun x48 e48 => ?_)
        replace hR := bd_to hR e48.symm
        subst hPQ
        exact x_iret E h ⟨hR0.trans hR.symm, hI44, hF44⟩ dX12_weight_200
      replace hR := it_f hR (fun q9 => c_55_5 (e11.trans q9))
      by_cases c_55_6 : x11 = 6
      · refine x_topI (v2 := 6) c_55_6 ?_
        replace hR := it_t hR (e11.symm.trans c_55_6)
        refine lv_tableIn (tgt := 201) (off := 146) hx hb dX12_weight_55 (by decide) (by decide) (by decide) (by decide) ?_
        refine lv_aload_n hx hb dX12_weight_201 rfl (lv_at hl 3 rfl) ?_
        refine lv_dup hx hb dX12_weight_202 rfl ?_
        refine x_getL E h (fl_mo_trace g) rfl hwX12 (by decide) (by decide +kernel) rfl dX12_weight_203 ?_
        replace hR := bd_to hR rfl
        refine lv_ldc2 (v := 1000011) hx hb hown (hts (.constantLong RX12 284 (1000011)) (by decide +kernel)) dX12_weight_206 ?_
        refine lv_ladd hx hb dX12_weight_209 ?_
        refine lv_topl (fun y49 e49 => ?_)
        replace hR := bd_to hR e49.symm
        refine y_putL E h hI1 hF1 (ty := .long) (v := y49) (fl_mo_trace g) rfl hwX12 tyX12_ok nmX12 (by decide) (by decide +kernel) (by decide +kernel) (by decide +kernel) rfl rfl dX12_weight_210 (fun s50 H locs q50 hI50 hF50 h => ?_)
        replace hR := bd_to hR q50.symm
        have e51 : s50.1 35 = nI m1_0P := (congrArg (fun t : ST => t.1 35) q50).trans u1_0_0
        have e52 : s50.1 31 = nI m1_0R := (congrArg (fun t : ST => t.1 31) q50).trans u1_0_1
        have a53 := AP.eq u1_0_4 (show s50.2.2 77 = s1.2.2 77 from (congrArg (fun t : ST => t.2.2 77) q50).trans rfl)
        refine lv_iload hx hb dX12_weight_213 (lv_at hl 1 rfl) ?_
        refine lv_bipush (v := 7) hx hb dX12_weight_215 (by decide) ?_
        refine lv_aload_n hx hb dX12_weight_217 rfl (lv_at hl 3 rfl) ?_
        obtain ⟨n54, b54, e54⟩ := hI50.1 40 6 rfl
        refine x_getI E h (fi_mo_kept g) rfl hwX12 (by decide) (by decide +kernel) (v := nI n54) e54 dX12_weight_218 ?_
        replace hR := bd_to hR e54
        refine lv_imul hx hb dX12_weight_221 ?_
        refine x_topI (v2 := nI (7 * n54)) (pk_mul 7 n54) ?_
        replace hR := bd_to hR (pk_mul 7 n54)
        refine lv_iadd hx hb dX12_weight_222 ?_
        refine lv_topi (fun x55 e55 => ?_)
        replace hR := bd_to hR e55.symm
        subst hPQ
        exact x_iret E h ⟨hR0.trans hR.symm, hI50, hF50⟩ dX12_weight_223
      replace hR := it_f hR (fun q9 => c_55_6 (e11.trans q9))
      refine lv_tableOut (tgt := 224) hx hb dX12_weight_55 (x_out6 c_55_0 c_55_1 c_55_2 c_55_3 c_55_4 c_55_5 c_55_6) (by decide) ?_
      refine lv_aload_n hx hb dX12_weight_224 rfl (lv_at hl 3 rfl) ?_
      refine lv_dup hx hb dX12_weight_225 rfl ?_
      refine x_getL E h (fl_mo_trace g) rfl hwX12 (by decide) (by decide +kernel) rfl dX12_weight_226 ?_
      replace hR := bd_to hR rfl
      refine lv_ldc2 (v := 10000001) hx hb hown (hts (.constantLong RX12 286 (10000001)) (by decide +kernel)) dX12_weight_229 ?_
      refine lv_ladd hx hb dX12_weight_232 ?_
      refine lv_topl (fun y56 e56 => ?_)
      replace hR := bd_to hR e56.symm
      refine y_putL E h hI1 hF1 (ty := .long) (v := y56) (fl_mo_trace g) rfl hwX12 tyX12_ok nmX12 (by decide) (by decide +kernel) (by decide +kernel) (by decide +kernel) rfl rfl dX12_weight_233 (fun s57 H locs q57 hI57 hF57 h => ?_)
      replace hR := bd_to hR q57.symm
      have e58 : s57.1 35 = nI m1_0P := (congrArg (fun t : ST => t.1 35) q57).trans u1_0_0
      have e59 : s57.1 31 = nI m1_0R := (congrArg (fun t : ST => t.1 31) q57).trans u1_0_1
      have a60 := AP.eq u1_0_4 (show s57.2.2 77 = s1.2.2 77 from (congrArg (fun t : ST => t.2.2 77) q57).trans rfl)
      refine lv_iload_n hx hb dX12_weight_236 rfl (lv_at hl 2 rfl) ?_
      refine lv_iload_n hx hb dX12_weight_237 rfl (lv_at hl 2 rfl) ?_
      refine lv_imul hx hb dX12_weight_238 ?_
      refine lv_topi (fun x61 e61 => ?_)
      replace hR := bd_to hR e61.symm
      refine lv_bipush (v := 89) hx hb dX12_weight_239 (by decide) ?_
      refine lv_irem hx hb dX12_weight_241 (by decide) ?_
      refine lv_topi (fun x62 e62 => ?_)
      replace hR := bd_to hR e62.symm
      subst hPQ
      exact x_iret E h ⟨hR0.trans hR.symm, hI57, hF57⟩ dX12_weight_242
    · skip
      replace hR := it_t hR (by decide)
      refine lv_if_ne (tgt := 24) hx hb dX12_weight_19 (by decide) (fun c => absurd (by decide) c) (fun _ => ?_)
      refine lv_iconst (v := (-1)) hx hb dX12_weight_22 (by decide) ?_
      subst hPQ
      exact x_iret E h ⟨hR0.trans hR.symm, hI1, hF1⟩ dX12_weight_23
  · skip
    replace hR := it_t hR (by decide)
    refine lv_if_eq (tgt := 22) hx hb dX12_weight_11 (by decide) (fun _ => ?_) (fun c => absurd (by decide) c)
    refine lv_iconst (v := (-1)) hx hb dX12_weight_22 (by decide) ?_
    subst hPQ
    exact x_iret E h ⟨hR0.trans hR.symm, hI1, hF1⟩ dX12_weight_23
set_option maxHeartbeats 4000000 in
set_option maxRecDepth 100000 in
theorem aX12_count_0 (l : Launch) (g : CX) (σ : ST) (hI : INV σ) (p1 : Int32) : XM l g yX12_count wsX12_count { frames := 0, cells := 0, slots := 0, locals := 0 } [.ref (g.2.1 79), .int p1] σ (XQi g (fun r σ' => fX12_count_0 p1 σ = r ∧ σ = σ')) := by
  refine x_met (own := RX12) (cc := cX12_count) (maxL := 4) (ret := (some .int)) (lv := [(0, .ref (g.2.1 79)), (1, .int p1)]) (by decide) rfl rfl (Nat.le_of_ble_eq_true rfl) rfl ?_
  intro p e s m args below meth c ls E h hl
  have hx := E.1
  have hb := E.2.1
  have hown := E.2.2.2.1
  have hts := E.2.2.2.2.1
  obtain ⟨R, hR0⟩ : ∃ R, fX12_count_0 p1 σ = R := ⟨_, rfl⟩
  have hR : fX12_count_0b0 p1 σ = R := hR0
  have hwX12 : ∀ w ∈ wsX120, w ∈ wsX12_count := by decide +kernel
  generalize hPQ : XQi g (fun r σ' => fX12_count_0 p1 σ = r ∧ σ = σ') = PQz
  refine lv_iconst (v := 0) hx hb dX12_count_0 (by decide) ?_
  refine lv_istore_n (lv' := [(2, .int 0), (0, .ref (g.2.1 79)), (1, .int p1)]) hx hb dX12_count_1 rfl hl (by decide) rfl (fun ls hl => ?_)
  refine lv_iload_n hx hb dX12_count_2 rfl (lv_at hl 2 rfl) ?_
  by_cases c_3_0 : p1 = 0
  · refine x_topI (v2 := 0) c_3_0 ?_
    replace hR := it_t hR c_3_0
    refine lv_tableIn (tgt := 40) (off := 37) hx hb dX12_count_3 (by decide) (by decide) (by decide) (by decide) ?_
    refine lv_aload_n hx hb dX12_count_40 rfl (lv_at hl 1 rfl) ?_
    obtain ⟨n1, b1, e1⟩ := hI.1 31 48 rfl
    refine x_getI E h (fi_mo_rows g) rfl hwX12 (by decide) (by decide +kernel) (v := nI n1) e1 dX12_count_41 ?_
    replace hR := bd_to hR e1
    subst hPQ
    exact x_iret E h ⟨hR0.trans hR.symm, rfl⟩ dX12_count_44
  replace hR := it_f hR c_3_0
  by_cases c_3_1 : p1 = 1
  · refine x_topI (v2 := 1) c_3_1 ?_
    replace hR := it_t hR c_3_1
    refine lv_tableIn (tgt := 45) (off := 42) hx hb dX12_count_3 (by decide) (by decide) (by decide) (by decide) ?_
    refine lv_iconst (v := 0) hx hb dX12_count_45 (by decide) ?_
    refine lv_istore_n (lv' := [(3, .int 0), (2, .int 0), (0, .ref (g.2.1 79)), (1, .int p1)]) hx hb dX12_count_46 rfl hl (by decide) rfl (fun ls hl => ?_)
    obtain ⟨n3, b3, e3⟩ := hI.1 31 48 rfl
    have loop47_2 : ∀ (fu : Nat) (i2_3 : Nat) (i2_2 : Int32), i2_3 ≤ n3 → fX12_count_0l47 fu i2_2 (nI i2_3) σ = R → n3 - i2_3 < fu → ∀ (H : Heap) (locs : List Loc) (ls : Array Slot), HW g σ s H locs → lv_has ls 4 [(3, .int (nI i2_3)), (2, .int i2_2), (0, .ref (g.2.1 79)), (1, .int p1)] → W p l e { frames := 0, cells := 0, slots := 0, locals := 0 } s m args below meth c H locs 0 0 (MQ below PQz args s 0 0 (Aw g)) (F0 m 47 ls []) := by
      intro fu2
      induction fu2 with
      | zero => intro i2_3 i2_2 bi2_3 hR2 hm; exact absurd hm (Nat.not_lt_zero _)
      | succ fu2 ih =>
        have ih2 := ih
        clear ih
        intro i2_3 i2_2 bi2_3 hR2 hm2 H locs ls h hl
        replace hR2 : fX12_count_0b47 (fX12_count_0l47 fu2) i2_2 (nI i2_3) σ = R := hR2
        refine lv_iload_n hx hb dX12_count_47 rfl (lv_at hl 0 rfl) ?_
        refine lv_aload_n hx hb dX12_count_48 rfl (lv_at hl 2 rfl) ?_
        refine x_getI E h (fi_mo_rows g) rfl hwX12 (by decide) (by decide +kernel) (v := nI n3) e3 dX12_count_49 ?_
        replace hR2 := bd_to hR2 e3
        refine lv_icmp_ge (tgt := 78) hx hb dX12_count_52 (by decide) (fun c4 => ?_) (fun c4 => ?_)
        · skip
          replace hR2 := it_t hR2 c4
          have b5 : n3 ≤ i2_3 := y_le (a := n3) (b := i2_3) (by omega) (by omega) c4
          refine lv_iload_n hx hb dX12_count_78 rfl (lv_at hl 1 rfl) ?_
          subst hPQ
          exact x_iret E h ⟨hR0.trans hR2.symm, rfl⟩ dX12_count_79
        · skip
          replace hR2 := it_f hR2 c4
          have b6 : i2_3 < n3 := y_nle (a := n3) (b := i2_3) (by omega) (by omega) c4
          refine lv_iload_n hx hb dX12_count_55 rfl (lv_at hl 1 rfl) ?_
          refine lv_aload_n hx hb dX12_count_56 rfl (lv_at hl 2 rfl) ?_
          refine x_getR E h (fr_mo_isDeaf g) rfl hwX12 (by decide) (by decide +kernel) dX12_count_57 ?_
          refine lv_iload_n hx hb dX12_count_60 rfl (lv_at hl 0 rfl) ?_
          refine x_ldZ E h (ia_mo_isDeaf g) (i := nI i2_3) (vp_in_nI (by omega) (by decide)) (v := σ.2.2 69 i2_3) (congrArg (σ.2.2 69) (nI_clamp (n := i2_3) (by omega))) dX12_count_61 ?_
          replace hR2 := bd_to hR2 (congrArg (σ.2.2 69) (nI_clamp (n := i2_3) (by omega)))
          have j70_9 : ∀ (y9_s0 : Int32), fX12_count_0b70 (fX12_count_0l47 fu2) (nI i2_3) y9_s0 i2_2 σ = R → ∀ (H : Heap) (locs : List Loc) (ls : Array Slot), HW g σ s H locs → lv_has ls 4 [(3, .int (nI i2_3)), (2, .int i2_2), (0, .ref (g.2.1 79)), (1, .int p1)] → W p l e { frames := 0, cells := 0, slots := 0, locals := 0 } s m args below meth c H locs 0 0 (MQ below PQz args s 0 0 (Aw g)) (F0 m 70 ls [.int y9_s0, .int i2_2]) := by
            intro y9_s0 hR9 H locs ls h hl
            refine lv_iadd hx hb dX12_count_70 ?_
            refine lv_topi (fun x10 e10 => ?_)
            replace hR9 := bd_to hR9 e10.symm
            refine lv_istore_n (lv' := [(2, .int x10), (3, .int (nI i2_3)), (0, .ref (g.2.1 79)), (1, .int p1)]) hx hb dX12_count_71 rfl hl (by decide) rfl (fun ls hl => ?_)
            replace hR9 := bd_to hR9 (nI_add i2_3 1)
            refine lv_iinc (v := (nI (i2_3 + 1))) (lv' := [(3, .int (nI (i2_3 + 1))), (2, .int x10), (0, .ref (g.2.1 79)), (1, .int p1)]) hx hb dX12_count_72 hl (k := 1) rfl (nI_add i2_3 1) (by decide) rfl (fun ls hl => ?_)
            refine lv_goto (tgt := 47) hx hb dX12_count_75 (by decide) ?_
            exact ih2 (i2_3 + 1) x10 (by omega) hR9 (by omega) _ _ _ h (lv_sub hl [0, 1, 2, 3] rfl)
          refine lv_if_eq (tgt := 69) hx hb dX12_count_62 (by decide) (fun c7 => ?_) (fun c7 => ?_)
          · skip
            replace hR2 := it_t hR2 c7
            refine lv_iconst (v := 0) hx hb dX12_count_69 (by decide) ?_
            exact j70_9 0 hR2 _ _ _ h (lv_sub hl [0, 1, 2, 3] rfl)
          · skip
            replace hR2 := it_f hR2 c7
            refine lv_iconst (v := 1) hx hb dX12_count_65 (by decide) ?_
            refine lv_goto (tgt := 70) hx hb dX12_count_66 (by decide) ?_
            exact j70_9 1 hR2 _ _ _ h (lv_sub hl [0, 1, 2, 3] rfl)
    exact loop47_2 4096 0 0 (Nat.zero_le _) hR (by omega) _ _ _ h (lv_sub hl [0, 1, 2, 3] rfl)
  replace hR := it_f hR c_3_1
  by_cases c_3_2 : p1 = 2
  · refine x_topI (v2 := 2) c_3_2 ?_
    replace hR := it_t hR c_3_2
    refine lv_tableIn (tgt := 80) (off := 77) hx hb dX12_count_3 (by decide) (by decide) (by decide) (by decide) ?_
    refine lv_iconst (v := 0) hx hb dX12_count_80 (by decide) ?_
    refine lv_istore_n (lv' := [(3, .int 0), (2, .int 0), (0, .ref (g.2.1 79)), (1, .int p1)]) hx hb dX12_count_81 rfl hl (by decide) rfl (fun ls hl => ?_)
    obtain ⟨n13, b13, e13⟩ := hI.1 31 48 rfl
    have loop82_12 : ∀ (fu : Nat) (i12_3 : Nat) (i12_2 : Int32), i12_3 ≤ n13 → fX12_count_0l82 fu i12_2 (nI i12_3) σ = R → n13 - i12_3 < fu → ∀ (H : Heap) (locs : List Loc) (ls : Array Slot), HW g σ s H locs → lv_has ls 4 [(3, .int (nI i12_3)), (2, .int i12_2), (0, .ref (g.2.1 79)), (1, .int p1)] → W p l e { frames := 0, cells := 0, slots := 0, locals := 0 } s m args below meth c H locs 0 0 (MQ below PQz args s 0 0 (Aw g)) (F0 m 82 ls []) := by
      intro fu12
      induction fu12 with
      | zero => intro i12_3 i12_2 bi12_3 hR12 hm; exact absurd hm (Nat.not_lt_zero _)
      | succ fu12 ih =>
        have ih12 := ih
        clear ih
        intro i12_3 i12_2 bi12_3 hR12 hm12 H locs ls h hl
        replace hR12 : fX12_count_0b82 (fX12_count_0l82 fu12) i12_2 (nI i12_3) σ = R := hR12
        refine lv_iload_n hx hb dX12_count_82 rfl (lv_at hl 0 rfl) ?_
        refine lv_aload_n hx hb dX12_count_83 rfl (lv_at hl 2 rfl) ?_
        refine x_getI E h (fi_mo_rows g) rfl hwX12 (by decide) (by decide +kernel) (v := nI n13) e13 dX12_count_84 ?_
        replace hR12 := bd_to hR12 e13
        refine lv_icmp_ge (tgt := 113) hx hb dX12_count_87 (by decide) (fun c14 => ?_) (fun c14 => ?_)
        · skip
          replace hR12 := it_t hR12 c14
          have b15 : n13 ≤ i12_3 := y_le (a := n13) (b := i12_3) (by omega) (by omega) c14
          refine lv_iload_n hx hb dX12_count_113 rfl (lv_at hl 1 rfl) ?_
          subst hPQ
          exact x_iret E h ⟨hR0.trans hR12.symm, rfl⟩ dX12_count_114
        · skip
          replace hR12 := it_f hR12 c14
          have b16 : i12_3 < n13 := y_nle (a := n13) (b := i12_3) (by omega) (by omega) c14
          refine lv_iload_n hx hb dX12_count_90 rfl (lv_at hl 1 rfl) ?_
          refine lv_aload_n hx hb dX12_count_91 rfl (lv_at hl 2 rfl) ?_
          refine x_getR E h (fr_mo_isOut g) rfl hwX12 (by decide) (by decide +kernel) dX12_count_92 ?_
          refine lv_iload_n hx hb dX12_count_95 rfl (lv_at hl 0 rfl) ?_
          refine x_ldZ E h (ia_mo_isOut g) (i := nI i12_3) (vp_in_nI (by omega) (by decide)) (v := σ.2.2 70 i12_3) (congrArg (σ.2.2 70) (nI_clamp (n := i12_3) (by omega))) dX12_count_96 ?_
          replace hR12 := bd_to hR12 (congrArg (σ.2.2 70) (nI_clamp (n := i12_3) (by omega)))
          have j105_19 : ∀ (y19_s0 : Int32), fX12_count_0b105 (fX12_count_0l82 fu12) (nI i12_3) y19_s0 i12_2 σ = R → ∀ (H : Heap) (locs : List Loc) (ls : Array Slot), HW g σ s H locs → lv_has ls 4 [(3, .int (nI i12_3)), (2, .int i12_2), (0, .ref (g.2.1 79)), (1, .int p1)] → W p l e { frames := 0, cells := 0, slots := 0, locals := 0 } s m args below meth c H locs 0 0 (MQ below PQz args s 0 0 (Aw g)) (F0 m 105 ls [.int y19_s0, .int i12_2]) := by
            intro y19_s0 hR19 H locs ls h hl
            refine lv_iadd hx hb dX12_count_105 ?_
            refine lv_topi (fun x20 e20 => ?_)
            replace hR19 := bd_to hR19 e20.symm
            refine lv_istore_n (lv' := [(2, .int x20), (3, .int (nI i12_3)), (0, .ref (g.2.1 79)), (1, .int p1)]) hx hb dX12_count_106 rfl hl (by decide) rfl (fun ls hl => ?_)
            replace hR19 := bd_to hR19 (nI_add i12_3 1)
            refine lv_iinc (v := (nI (i12_3 + 1))) (lv' := [(3, .int (nI (i12_3 + 1))), (2, .int x20), (0, .ref (g.2.1 79)), (1, .int p1)]) hx hb dX12_count_107 hl (k := 1) rfl (nI_add i12_3 1) (by decide) rfl (fun ls hl => ?_)
            refine lv_goto (tgt := 82) hx hb dX12_count_110 (by decide) ?_
            exact ih12 (i12_3 + 1) x20 (by omega) hR19 (by omega) _ _ _ h (lv_sub hl [0, 1, 2, 3] rfl)
          refine lv_if_eq (tgt := 104) hx hb dX12_count_97 (by decide) (fun c17 => ?_) (fun c17 => ?_)
          · skip
            replace hR12 := it_t hR12 c17
            refine lv_iconst (v := 0) hx hb dX12_count_104 (by decide) ?_
            exact j105_19 0 hR12 _ _ _ h (lv_sub hl [0, 1, 2, 3] rfl)
          · skip
            replace hR12 := it_f hR12 c17
            refine lv_iconst (v := 1) hx hb dX12_count_100 (by decide) ?_
            refine lv_goto (tgt := 105) hx hb dX12_count_101 (by decide) ?_
            exact j105_19 1 hR12 _ _ _ h (lv_sub hl [0, 1, 2, 3] rfl)
    exact loop82_12 4096 0 0 (Nat.zero_le _) hR (by omega) _ _ _ h (lv_sub hl [0, 1, 2, 3] rfl)
  replace hR := it_f hR c_3_2
  by_cases c_3_3 : p1 = 3
  · refine x_topI (v2 := 3) c_3_3 ?_
    replace hR := it_t hR c_3_3
    refine lv_tableIn (tgt := 115) (off := 112) hx hb dX12_count_3 (by decide) (by decide) (by decide) (by decide) ?_
    refine lv_aload_n hx hb dX12_count_115 rfl (lv_at hl 1 rfl) ?_
    obtain ⟨n22, b22, e22⟩ := hI.1 40 6 rfl
    refine x_getI E h (fi_mo_kept g) rfl hwX12 (by decide) (by decide +kernel) (v := nI n22) e22 dX12_count_116 ?_
    replace hR := bd_to hR e22
    subst hPQ
    exact x_iret E h ⟨hR0.trans hR.symm, rfl⟩ dX12_count_119
  replace hR := it_f hR c_3_3
  by_cases c_3_4 : p1 = 4
  · refine x_topI (v2 := 4) c_3_4 ?_
    replace hR := it_t hR c_3_4
    refine lv_tableIn (tgt := 120) (off := 117) hx hb dX12_count_3 (by decide) (by decide) (by decide) (by decide) ?_
    refine lv_aload_n hx hb dX12_count_120 rfl (lv_at hl 1 rfl) ?_
    obtain ⟨n23, b23, e23⟩ := hI.1 32 12 rfl
    refine x_getI E h (fi_mo_words g) rfl hwX12 (by decide) (by decide +kernel) (v := nI n23) e23 dX12_count_121 ?_
    replace hR := bd_to hR e23
    subst hPQ
    exact x_iret E h ⟨hR0.trans hR.symm, rfl⟩ dX12_count_124
  replace hR := it_f hR c_3_4
  by_cases c_3_5 : p1 = 5
  · refine x_topI (v2 := 5) c_3_5 ?_
    replace hR := it_t hR c_3_5
    refine lv_tableIn (tgt := 125) (off := 122) hx hb dX12_count_3 (by decide) (by decide) (by decide) (by decide) ?_
    refine lv_aload_n hx hb dX12_count_125 rfl (lv_at hl 1 rfl) ?_
    obtain ⟨n24, b24, e24⟩ := hI.1 25 200 rfl
    refine x_getI E h (fi_mo_typed g) rfl hwX12 (by decide) (by decide +kernel) (v := nI n24) e24 dX12_count_126 ?_
    replace hR := bd_to hR e24
    subst hPQ
    exact x_iret E h ⟨hR0.trans hR.symm, rfl⟩ dX12_count_129
  replace hR := it_f hR c_3_5
  refine lv_tableOut (tgt := 130) hx hb dX12_count_3 (x_out5 c_3_0 c_3_1 c_3_2 c_3_3 c_3_4 c_3_5) (by decide) ?_
  refine lv_iconst (v := (-1)) hx hb dX12_count_130 (by decide) ?_
  subst hPQ
  exact x_iret E h ⟨hR0.trans hR.symm, rfl⟩ dX12_count_131
set_option maxHeartbeats 4000000 in
set_option maxRecDepth 100000 in
theorem aX12_trace_0 (l : Launch) (g : CX) (σ : ST) (hI : INV σ)  : XM l g yX12_trace wsX12_trace { frames := 0, cells := 0, slots := 0, locals := 0 } [.ref (g.2.1 79)] σ (XQl g (fun r σ' => fX12_trace_0 σ = r ∧ σ = σ')) := by
  refine x_met (own := RX12) (cc := cX12_trace) (maxL := 1) (ret := (some .long)) (lv := [(0, .ref (g.2.1 79))]) (by decide) rfl rfl (Nat.le_of_ble_eq_true rfl) rfl ?_
  intro p e s m args below meth c ls E h hl
  have hx := E.1
  have hb := E.2.1
  have hown := E.2.2.2.1
  have hts := E.2.2.2.2.1
  obtain ⟨R, hR0⟩ : ∃ R, fX12_trace_0 σ = R := ⟨_, rfl⟩
  have hR : fX12_trace_0b0 σ = R := hR0
  have hwX12 : ∀ w ∈ wsX120, w ∈ wsX12_trace := by decide +kernel
  generalize hPQ : XQl g (fun r σ' => fX12_trace_0 σ = r ∧ σ = σ') = PQz
  refine lv_aload_n hx hb dX12_trace_0 rfl (lv_at hl 0 rfl) ?_
  refine x_getL E h (fl_mo_trace g) rfl hwX12 (by decide) (by decide +kernel) rfl dX12_trace_1 ?_
  replace hR := bd_to hR rfl
  subst hPQ
  exact x_lret E h ⟨hR0.trans hR.symm, rfl⟩ dX12_trace_4
