set_option maxHeartbeats 4000000 in
set_option maxRecDepth 100000 in
theorem aX12_heap_0 (l : Launch) (g : CX) (σ : ST) (hI : INV σ) (p1 : Int32) (p2 : Int32) : XM l g yX12_heap wsX12_heap { frames := 5, cells := 0, slots := 0, locals := 119 } [.ref (g.2.1 79), .int p1, .int p2] σ (XQi g (fun r σ' => fX12_heap_0 p1 p2 σ = (r, σ') ∧ INV σ' ∧ Fr [(35, 39)] [(75, 88)] σ σ')) := by
  refine x_met (own := RX12) (cc := cX12_heap) (maxL := 3) (ret := (some .int)) (lv := [(0, .ref (g.2.1 79)), (1, .int p1), (2, .int p2)]) (by decide) rfl rfl (Nat.le_of_ble_eq_true rfl) rfl ?_
  intro p e s m args below meth c ls E h hl
  have hx := E.1
  have hb := E.2.1
  have hown := E.2.2.2.1
  have hts := E.2.2.2.2.1
  have hF : Fr [(35, 39)] [(75, 88)] σ σ := Fr.refl σ
  obtain ⟨R, hR0⟩ : ∃ R, fX12_heap_0 p1 p2 σ = R := ⟨_, rfl⟩
  have hR : fX12_heap_0b0 p1 p2 σ = R := hR0
  have hwX12 : ∀ w ∈ wsX120, w ∈ wsX12_heap := by decide +kernel
  generalize hPQ : XQi g (fun r σ' => fX12_heap_0 p1 p2 σ = (r, σ') ∧ INV σ' ∧ Fr [(35, 39)] [(75, 88)] σ σ') = PQz
  refine lv_aload_n hx hb dX12_heap_0 rfl (lv_at hl 0 rfl) ?_
  refine x_vv E h (na := 0) (As := []) (aX12_findPieces_0 l g σ hI) (oc_mo g) rfl gX12_heap_X12_findPieces rfl ⟨rfl, rfl⟩ rfl (by decide +kernel) ⟨Nat.le_of_ble_eq_true rfl, Nat.le_of_ble_eq_true rfl⟩ hl.1 rfl (Nat.le_of_ble_eq_true rfl) dX12_heap_1 ⟨Nat.le_of_ble_eq_true rfl, Nat.le_of_ble_eq_true rfl⟩ (fun s1 H locs q1 h => ?_)
  obtain ⟨x1, d1, hI1, f1⟩ := q1
  replace hR := bd_to hR x1
  have hF1 := hF.call f1 (I := [(35, 39)]) (J := [(75, 88)]) rfl rfl
  have a2 : s1.2.2 68 = σ.2.2 68 := (f1.2 68 rfl).trans rfl
  have a3 : s1.2.2 69 = σ.2.2 69 := (f1.2 69 rfl).trans rfl
  have a4 : s1.2.2 70 = σ.2.2 70 := (f1.2 70 rfl).trans rfl
  have a5 : s1.2.2 66 = σ.2.2 66 := (f1.2 66 rfl).trans rfl
  rcases d1 with ⟨m1_0P, m1_0R, u1_0_0, u1_0_1, u1_0_2, u1_0_3, u1_0_4, u1_0_5⟩
  have fp6 : m1_0P = FPn (σ.2.2 68) (σ.2.2 69) (σ.2.2 70) (σ.2.2 66) m1_0R := u1_0_5
  refine lv_aload_n hx hb dX12_heap_4 rfl (lv_at hl 0 rfl) ?_
  refine lv_iload_n hx hb dX12_heap_5 rfl (lv_at hl 1 rfl) ?_
  refine x_vi E h (na := 1) (As := [.int p1]) (aX12_isPiece_0 l g s1 hI1 p1) (oc_mo g) rfl gX12_heap_X12_isPiece rfl ⟨rfl, rfl⟩ rfl (by decide +kernel) ⟨Nat.le_of_ble_eq_true rfl, Nat.le_of_ble_eq_true rfl⟩ hl.1 rfl (Nat.le_of_ble_eq_true rfl) dX12_heap_6 ⟨Nat.le_of_ble_eq_true rfl, Nat.le_of_ble_eq_true rfl⟩ (fun r7 s7 H locs q7 h => ?_)
  obtain ⟨x7, d7, rfl⟩ := q7
  replace hR := bd_to hR x7
  rcases d7 with ⟨rfl, m7_0n, m7_0P, u7_0_0, u7_0_1, u7_0_2, rfl⟩ | rfl
  · skip
    obtain rfl : m1_0P = m7_0P := y_eq (by omega) (by omega) ((u1_0_0).symm.trans u7_0_0)
    replace hR := it_f hR (by decide)
    refine lv_if_eq (tgt := 21) hx hb dX12_heap_9 (by decide) (fun c => absurd c (by decide)) (fun _ => ?_)
    refine lv_iload_n hx hb dX12_heap_12 rfl (lv_at hl 2 rfl) ?_
    refine lv_iconst (v := 0) hx hb dX12_heap_13 (by decide) ?_
    refine lv_iconst (v := 1) hx hb dX12_heap_14 (by decide) ?_
    refine x_si E h (na := 3) (As := [.int p2, .int 0, .int 1]) (aX12_in_0 l g s1 hI1 p2 0 1) gX12_heap_X12_in rfl ⟨rfl, rfl⟩ rfl (by decide +kernel) ⟨Nat.le_of_ble_eq_true rfl, Nat.le_of_ble_eq_true rfl⟩ hl.1 rfl (Nat.le_of_ble_eq_true rfl) dX12_heap_15 ⟨Nat.le_of_ble_eq_true rfl, Nat.le_of_ble_eq_true rfl⟩ (fun r8 s8 H locs q8 h => ?_)
    obtain ⟨x8, d8, rfl⟩ := q8
    replace hR := bd_to hR x8
    rcases d8 with ⟨rfl, u8_0_0, u8_0_1⟩ | ⟨rfl, u8_1_0⟩
    · skip
      obtain ⟨n9, b9, rfl⟩ := y_rnlt (N := 1) (y_lo1 u8_0_0 (by decide)) u8_0_1 (by omega)
      have b10 : 0 ≤ n9 := y_nlt (a := n9) (b := 0) (by omega) (by omega) u8_0_0
      have b11 : n9 ≤ 1 := y_nlt (a := 1) (b := n9) (by omega) (by omega) u8_0_1
      replace hR := it_f hR (by decide)
      refine lv_if_ne (tgt := 23) hx hb dX12_heap_18 (by decide) (fun _ => ?_) (fun c => absurd c (by decide))
      refine lv_aload_n hx hb dX12_heap_23 rfl (lv_at hl 0 rfl) ?_
      refine x_vi E h (na := 0) (As := []) (aX12_findBest_0 l g s1 hI1) (oc_mo g) rfl gX12_heap_X12_findBest rfl ⟨rfl, rfl⟩ rfl (by decide +kernel) ⟨Nat.le_of_ble_eq_true rfl, Nat.le_of_ble_eq_true rfl⟩ hl.1 rfl (Nat.le_of_ble_eq_true rfl) dX12_heap_24 ⟨Nat.le_of_ble_eq_true rfl, Nat.le_of_ble_eq_true rfl⟩ (fun r12 s12 H locs q12 h => ?_)
      obtain ⟨x12, d12, hI12, f12⟩ := q12
      replace hR := bp_to hR x12
      have hF12 := hF1.call f12 (I := [(35, 39)]) (J := [(75, 88)]) rfl rfl
      have e13 : s12.1 31 = nI m1_0R := ((f12.1 31 rfl)).trans u1_0_1
      have a14 : s12.2.2 68 = σ.2.2 68 := (f12.2 68 rfl).trans a2
      have a15 : s12.2.2 69 = σ.2.2 69 := (f12.2 69 rfl).trans a3
      have a16 : s12.2.2 70 = σ.2.2 70 := (f12.2 70 rfl).trans a4
      have a17 : s12.2.2 66 = σ.2.2 66 := (f12.2 66 rfl).trans a5
      rcases d12 with ⟨rfl, m12_0P, m12_0R, u12_0_0, u12_0_1, u12_0_2, u12_0_3, u12_0_4, u12_0_5⟩ | rfl
      · skip
        obtain rfl : m1_0R = m12_0R := y_eq (by omega) (by omega) ((e13).symm.trans u12_0_1)
        have fp19 : m12_0P = FPn (σ.2.2 68) (σ.2.2 69) (σ.2.2 70) (σ.2.2 66) m1_0R := by have h9 := u12_0_5; rw [a2, a3, a4, a5] at h9; exact h9
        replace hR := it_f hR (by decide)
        refine lv_if_ne (tgt := 33) hx hb dX12_heap_27 (by decide) (fun _ => ?_) (fun c => absurd c (by decide))
        refine lv_aload_n hx hb dX12_heap_33 rfl (lv_at hl 0 rfl) ?_
        refine x_vv E h (na := 0) (As := []) (aX12_join_0 l g s12 hI12 m12_0P u12_0_0 (by omega)) (oc_mo g) rfl gX12_heap_X12_join rfl ⟨rfl, rfl⟩ rfl (by decide +kernel) ⟨Nat.le_of_ble_eq_true rfl, Nat.le_of_ble_eq_true rfl⟩ hl.1 rfl (Nat.le_of_ble_eq_true rfl) dX12_heap_34 ⟨Nat.le_of_ble_eq_true rfl, Nat.le_of_ble_eq_true rfl⟩ (fun s20 H locs q20 h => ?_)
        obtain ⟨x20, hI20, f20⟩ := q20
        replace hR := bd_to hR x20
        have hF20 := hF12.call f20 (I := [(35, 39)]) (J := [(75, 88)]) rfl rfl
        have e21 : s20.1 31 = nI m1_0R := ((f20.1 31 rfl)).trans e13
        have e22 : s20.1 35 = nI m12_0P := ((f20.1 35 rfl)).trans u12_0_0
        have a23 : s20.2.2 68 = σ.2.2 68 := (f20.2 68 rfl).trans a14
        have a24 : s20.2.2 69 = σ.2.2 69 := (f20.2 69 rfl).trans a15
        have a25 : s20.2.2 70 = σ.2.2 70 := (f20.2 70 rfl).trans a16
        have a26 : s20.2.2 66 = σ.2.2 66 := (f20.2 66 rfl).trans a17
        have a27 := AP.eq u12_0_4 (f20.2 77 rfl)
        refine lv_iload_n hx hb dX12_heap_37 rfl (lv_at hl 2 rfl) ?_
        refine lv_if_ne (tgt := 50) hx hb dX12_heap_38 (by decide) (fun c28 => ?_) (fun c28 => ?_)
        · skip
          replace hR := it_f hR c28
          have b29 : ¬ n9 = 0 := y_ne (a := n9) (b := 0) (by omega) (by omega) c28
          refine lv_aload_n hx hb dX12_heap_50 rfl (lv_at hl 0 rfl) ?_
          refine x_getR E h (fr_mo_joined g) rfl hwX12 (by decide) (by decide +kernel) dX12_heap_51 ?_
          refine lv_iload_n hx hb dX12_heap_54 rfl (lv_at hl 1 rfl) ?_
          obtain ⟨n30, b30, e30⟩ := hI20.2 87 8 rfl m7_0n
          refine x_ldI E h (ia_mo_joined g) (i := nI m7_0n) (vp_in_nI (by omega) (by decide)) (v := nI n30) ((congrArg (s20.2.2 87) (nI_clamp (n := m7_0n) (by omega))).trans e30) dX12_heap_55 ?_
          replace hR := bd_to hR ((congrArg (s20.2.2 87) (nI_clamp (n := m7_0n) (by omega))).trans e30)
          subst hPQ
          exact x_iret E h ⟨hR0.trans hR.symm, hI20, hF20⟩ dX12_heap_56
        · skip
          replace hR := it_t hR c28
          have b31 : n9 = 0 := y_eq (a := n9) (b := 0) (by omega) (by omega) c28
          refine lv_aload_n hx hb dX12_heap_41 rfl (lv_at hl 0 rfl) ?_
          refine x_getR E h (fr_mo_best g) rfl hwX12 (by decide) (by decide +kernel) dX12_heap_42 ?_
          refine lv_iload_n hx hb dX12_heap_45 rfl (lv_at hl 1 rfl) ?_
          obtain ⟨n32, b32, e32⟩ := hI20.2 86 8 rfl m7_0n
          refine x_ldI E h (ia_mo_best g) (i := nI m7_0n) (vp_in_nI (by omega) (by decide)) (v := nI n32) ((congrArg (s20.2.2 86) (nI_clamp (n := m7_0n) (by omega))).trans e32) dX12_heap_46 ?_
          replace hR := bd_to hR ((congrArg (s20.2.2 86) (nI_clamp (n := m7_0n) (by omega))).trans e32)
          refine lv_goto (tgt := 56) hx hb dX12_heap_47 (by decide) ?_
          subst hPQ
          exact x_iret E h ⟨hR0.trans hR.symm, hI20, hF20⟩ dX12_heap_56
      · skip
        replace hR := it_t hR (by decide)
        refine lv_if_ne (tgt := 33) hx hb dX12_heap_27 (by decide) (fun c => absurd (by decide) c) (fun _ => ?_)
        refine lv_bipush (v := (-2)) hx hb dX12_heap_30 (by decide) ?_
        subst hPQ
        exact x_iret E h ⟨hR0.trans hR.symm, hI12, hF12⟩ dX12_heap_32
    · skip
      replace hR := it_t hR (by decide)
      refine lv_if_ne (tgt := 23) hx hb dX12_heap_18 (by decide) (fun c => absurd (by decide) c) (fun _ => ?_)
      refine lv_iconst (v := (-1)) hx hb dX12_heap_21 (by decide) ?_
      subst hPQ
      exact x_iret E h ⟨hR0.trans hR.symm, hI1, hF1⟩ dX12_heap_22
  · skip
    replace hR := it_t hR (by decide)
    refine lv_if_eq (tgt := 21) hx hb dX12_heap_9 (by decide) (fun _ => ?_) (fun c => absurd (by decide) c)
    refine lv_iconst (v := (-1)) hx hb dX12_heap_21 (by decide) ?_
    subst hPQ
    exact x_iret E h ⟨hR0.trans hR.symm, hI1, hF1⟩ dX12_heap_22
set_option maxHeartbeats 4000000 in
set_option maxRecDepth 100000 in
theorem aX12_worthOf_1 (l : Launch) (g : CX) (σ : ST) (hI : INV σ) (F35 : Nat) (eF35 : σ.1 35 = nI F35) (hh0 : F35 ≤ 9) : XM l g yX12_worthOf wsX12_worthOf { frames := 0, cells := 0, slots := 0, locals := 0 } [.ref (g.2.1 79), .ref (g.2.1 101)] σ (XQi g (fun r σ' => fX12_worthOf_1 σ = r ∧ σ = σ')) := by
  refine x_met (own := RX12) (cc := cX12_worthOf) (maxL := 5) (ret := (some .int)) (lv := [(0, .ref (g.2.1 79)), (1, .ref (g.2.1 101))]) (by decide) rfl rfl (Nat.le_of_ble_eq_true rfl) rfl ?_
  intro p e s m args below meth c ls E h hl
  have hx := E.1
  have hb := E.2.1
  have hown := E.2.2.2.1
  have hts := E.2.2.2.2.1
  obtain ⟨R, hR0⟩ : ∃ R, fX12_worthOf_1 σ = R := ⟨_, rfl⟩
  have hR : fX12_worthOf_1b0 σ = R := hR0
  have hwX12 : ∀ w ∈ wsX120, w ∈ wsX12_worthOf := by decide +kernel
  generalize hPQ : XQi g (fun r σ' => fX12_worthOf_1 σ = r ∧ σ = σ') = PQz
  refine lv_iconst (v := 0) hx hb dX12_worthOf_0 (by decide) ?_
  refine lv_istore_n (lv' := [(2, .int 0), (0, .ref (g.2.1 79)), (1, .ref (g.2.1 101))]) hx hb dX12_worthOf_1 rfl hl (by decide) rfl (fun ls hl => ?_)
  refine lv_iconst (v := 0) hx hb dX12_worthOf_2 (by decide) ?_
  refine lv_istore_n (lv' := [(3, .int 0), (2, .int 0), (0, .ref (g.2.1 79)), (1, .ref (g.2.1 101))]) hx hb dX12_worthOf_3 rfl hl (by decide) rfl (fun ls hl => ?_)
  have loop4_1 : ∀ (fu : Nat) (i1_3 : Nat) (i1_2 : Int32), i1_3 ≤ F35 → fX12_worthOf_1l4 fu i1_2 (nI i1_3) σ = R → F35 - i1_3 < fu → ∀ (H : Heap) (locs : List Loc) (ls : Array Slot), HW g σ s H locs → lv_has ls 5 [(3, .int (nI i1_3)), (2, .int i1_2), (0, .ref (g.2.1 79)), (1, .ref (g.2.1 101))] → W p l e { frames := 0, cells := 0, slots := 0, locals := 0 } s m args below meth c H locs 0 0 (MQ below PQz args s 0 0 (Aw g)) (F0 m 4 ls []) := by
    intro fu1
    induction fu1 with
    | zero => intro i1_3 i1_2 bi1_3 hR1 hm; exact absurd hm (Nat.not_lt_zero _)
    | succ fu1 ih =>
      have ih1 := ih
      clear ih
      intro i1_3 i1_2 bi1_3 hR1 hm1 H locs ls h hl
      replace hR1 : fX12_worthOf_1b4 (fX12_worthOf_1l4 fu1) i1_2 (nI i1_3) σ = R := hR1
      refine lv_iload_n hx hb dX12_worthOf_4 rfl (lv_at hl 0 rfl) ?_
      refine lv_aload_n hx hb dX12_worthOf_5 rfl (lv_at hl 2 rfl) ?_
      refine x_getI E h (fi_mo_pieces g) rfl hwX12 (by decide) (by decide +kernel) (v := nI F35) eF35 dX12_worthOf_6 ?_
      replace hR1 := bd_to hR1 eF35
      refine lv_icmp_ge (tgt := 62) hx hb dX12_worthOf_9 (by decide) (fun c2 => ?_) (fun c2 => ?_)
      · skip
        replace hR1 := it_t hR1 c2
        have b3 : F35 ≤ i1_3 := y_le (a := F35) (b := i1_3) (by omega) (by omega) c2
        refine lv_iload_n hx hb dX12_worthOf_62 rfl (lv_at hl 1 rfl) ?_
        subst hPQ
        exact x_iret E h ⟨hR0.trans hR1.symm, rfl⟩ dX12_worthOf_63
      · skip
        replace hR1 := it_f hR1 c2
        have b4 : i1_3 < F35 := y_nle (a := F35) (b := i1_3) (by omega) (by omega) c2
        refine lv_iconst (v := 0) hx hb dX12_worthOf_12 (by decide) ?_
        refine lv_istore (lv' := [(4, .int 0), (3, .int (nI i1_3)), (2, .int i1_2), (0, .ref (g.2.1 79)), (1, .ref (g.2.1 101))]) hx hb dX12_worthOf_13 hl (by decide) rfl (fun ls hl => ?_)
        have loop15_5 : ∀ (fu : Nat) (i5_4 : Nat) (i5_2 : Int32), i5_4 ≤ i1_3 → fX12_worthOf_1l15 (fX12_worthOf_1l4 fu1) fu i5_2 (nI i1_3) (nI i5_4) σ = R → i1_3 - i5_4 < fu → ∀ (H : Heap) (locs : List Loc) (ls : Array Slot), HW g σ s H locs → lv_has ls 5 [(4, .int (nI i5_4)), (3, .int (nI i1_3)), (2, .int i5_2), (0, .ref (g.2.1 79)), (1, .ref (g.2.1 101))] → W p l e { frames := 0, cells := 0, slots := 0, locals := 0 } s m args below meth c H locs 0 0 (MQ below PQz args s 0 0 (Aw g)) (F0 m 15 ls []) := by
          intro fu5
          induction fu5 with
          | zero => intro i5_4 i5_2 bi5_4 hR5 hm; exact absurd hm (Nat.not_lt_zero _)
          | succ fu5 ih =>
            have ih5 := ih
            clear ih
            intro i5_4 i5_2 bi5_4 hR5 hm5 H locs ls h hl
            replace hR5 : fX12_worthOf_1b15 (fX12_worthOf_1l4 fu1) (fX12_worthOf_1l15 (fX12_worthOf_1l4 fu1) fu5) i5_2 (nI i1_3) (nI i5_4) σ = R := hR5
            refine lv_iload hx hb dX12_worthOf_15 (lv_at hl 0 rfl) ?_
            refine lv_iload_n hx hb dX12_worthOf_17 rfl (lv_at hl 1 rfl) ?_
            refine lv_icmp_ge (tgt := 56) hx hb dX12_worthOf_18 (by decide) (fun c6 => ?_) (fun c6 => ?_)
            · skip
              replace hR5 := it_t hR5 c6
              have b7 : i1_3 ≤ i5_4 := y_le (a := i1_3) (b := i5_4) (by omega) (by omega) c6
              replace hR5 := bd_to hR5 (nI_add i1_3 1)
              refine lv_iinc (v := (nI (i1_3 + 1))) (lv' := [(3, .int (nI (i1_3 + 1))), (4, .int (nI i5_4)), (2, .int i5_2), (0, .ref (g.2.1 79)), (1, .ref (g.2.1 101))]) hx hb dX12_worthOf_56 hl (k := 1) rfl (nI_add i1_3 1) (by decide) rfl (fun ls hl => ?_)
              refine lv_goto (tgt := 4) hx hb dX12_worthOf_59 (by decide) ?_
              exact ih1 (i1_3 + 1) i5_2 (by omega) hR5 (by omega) _ _ _ h (lv_sub hl [0, 2, 3, 4] rfl)
            · skip
              replace hR5 := it_f hR5 c6
              have b8 : i5_4 < i1_3 := y_nle (a := i1_3) (b := i5_4) (by omega) (by omega) c6
              refine lv_iload_n hx hb dX12_worthOf_21 rfl (lv_at hl 2 rfl) ?_
              refine lv_aload_n hx hb dX12_worthOf_22 rfl (lv_at hl 4 rfl) ?_
              refine lv_iload_n hx hb dX12_worthOf_23 rfl (lv_at hl 1 rfl) ?_
              obtain ⟨n9, b9, e9⟩ := hI.2 87 8 rfl i1_3
              refine x_ldI E h (ia_mo_joined g) (i := nI i1_3) (vp_in_nI (by omega) (by decide)) (v := nI n9) ((congrArg (σ.2.2 87) (nI_clamp (n := i1_3) (by omega))).trans e9) dX12_worthOf_24 ?_
              replace hR5 := bd_to hR5 ((congrArg (σ.2.2 87) (nI_clamp (n := i1_3) (by omega))).trans e9)
              refine lv_aload_n hx hb dX12_worthOf_25 rfl (lv_at hl 4 rfl) ?_
              refine lv_iload hx hb dX12_worthOf_26 (lv_at hl 0 rfl) ?_
              obtain ⟨n10, b10, e10⟩ := hI.2 87 8 rfl i5_4
              refine x_ldI E h (ia_mo_joined g) (i := nI i5_4) (vp_in_nI (by omega) (by decide)) (v := nI n10) ((congrArg (σ.2.2 87) (nI_clamp (n := i5_4) (by omega))).trans e10) dX12_worthOf_28 ?_
              replace hR5 := bd_to hR5 ((congrArg (σ.2.2 87) (nI_clamp (n := i5_4) (by omega))).trans e10)
              have j48_13 : ∀ (y13_s0 : Int32), fX12_worthOf_1b48 (fX12_worthOf_1l4 fu1) (fX12_worthOf_1l15 (fX12_worthOf_1l4 fu1) fu5) (nI i1_3) (nI i5_4) y13_s0 i5_2 σ = R → ∀ (H : Heap) (locs : List Loc) (ls : Array Slot), HW g σ s H locs → lv_has ls 5 [(4, .int (nI i5_4)), (3, .int (nI i1_3)), (2, .int i5_2), (0, .ref (g.2.1 79)), (1, .ref (g.2.1 101))] → W p l e { frames := 0, cells := 0, slots := 0, locals := 0 } s m args below meth c H locs 0 0 (MQ below PQz args s 0 0 (Aw g)) (F0 m 48 ls [.int y13_s0, .int i5_2]) := by
                intro y13_s0 hR13 H locs ls h hl
                refine lv_iadd hx hb dX12_worthOf_48 ?_
                refine lv_topi (fun x14 e14 => ?_)
                replace hR13 := bd_to hR13 e14.symm
                refine lv_istore_n (lv' := [(2, .int x14), (4, .int (nI i5_4)), (3, .int (nI i1_3)), (0, .ref (g.2.1 79)), (1, .ref (g.2.1 101))]) hx hb dX12_worthOf_49 rfl hl (by decide) rfl (fun ls hl => ?_)
                replace hR13 := bd_to hR13 (nI_add i5_4 1)
                refine lv_iinc (v := (nI (i5_4 + 1))) (lv' := [(4, .int (nI (i5_4 + 1))), (2, .int x14), (3, .int (nI i1_3)), (0, .ref (g.2.1 79)), (1, .ref (g.2.1 101))]) hx hb dX12_worthOf_50 hl (k := 1) rfl (nI_add i5_4 1) (by decide) rfl (fun ls hl => ?_)
                refine lv_goto (tgt := 15) hx hb dX12_worthOf_53 (by decide) ?_
                exact ih5 (i5_4 + 1) x14 (by omega) hR13 (by omega) _ _ _ h (lv_sub hl [0, 2, 1, 3, 4] rfl)
              refine lv_icmp_ne (tgt := 47) hx hb dX12_worthOf_29 (by decide) (fun c11 => ?_) (fun c11 => ?_)
              · skip
                replace hR5 := it_f hR5 c11
                have b12 : ¬ n9 = n10 := y_ne (a := n9) (b := n10) (by omega) (by omega) c11
                refine lv_iconst (v := 0) hx hb dX12_worthOf_47 (by decide) ?_
                exact j48_13 0 hR5 _ _ _ h (lv_sub hl [0, 1, 2, 3, 4] rfl)
              · skip
                replace hR5 := it_t hR5 c11
                have b15 : n9 = n10 := y_eq (a := n9) (b := n10) (by omega) (by omega) c11
                refine lv_aload_n hx hb dX12_worthOf_32 rfl (lv_at hl 3 rfl) ?_
                refine x_getR E h (fr_mo_gain g) rfl hwX12 (by decide) (by decide +kernel) dX12_worthOf_33 ?_
                refine lv_bipush (v := 9) hx hb dX12_worthOf_36 (by decide) ?_
                refine lv_iload_n hx hb dX12_worthOf_38 rfl (lv_at hl 1 rfl) ?_
                refine lv_imul hx hb dX12_worthOf_39 ?_
                refine x_topI (v2 := nI (9 * i1_3)) (pk_mul 9 i1_3) ?_
                replace hR5 := bd_to hR5 (pk_mul 9 i1_3)
                refine lv_iload hx hb dX12_worthOf_40 (lv_at hl 0 rfl) ?_
                refine lv_iadd hx hb dX12_worthOf_42 ?_
                refine x_topI (v2 := nI ((9 * i1_3) + i5_4)) (nI_add (9 * i1_3) i5_4) ?_
                replace hR5 := bd_to hR5 (nI_add (9 * i1_3) i5_4)
                refine x_ldI E h (ia_mo_gain g) (i := nI ((9 * i1_3) + i5_4)) (vp_in_nI (by omega) (by decide)) (v := σ.2.2 88 ((9 * i1_3) + i5_4)) (congrArg (σ.2.2 88) (nI_clamp (n := (9 * i1_3) + i5_4) (by omega))) dX12_worthOf_43 ?_
                replace hR5 := bd_to hR5 (congrArg (σ.2.2 88) (nI_clamp (n := (9 * i1_3) + i5_4) (by omega)))
                refine lv_goto (tgt := 48) hx hb dX12_worthOf_44 (by decide) ?_
                exact j48_13 (σ.2.2 88 ((9 * i1_3) + i5_4)) hR5 _ _ _ h (lv_sub hl [0, 1, 2, 3, 4] rfl)
        exact loop15_5 4096 0 i1_2 (Nat.zero_le _) hR1 (by omega) _ _ _ h (lv_sub hl [0, 1, 2, 3, 4] rfl)
  exact loop4_1 4096 0 0 (Nat.zero_le _) hR (by omega) _ _ _ h (lv_sub hl [0, 1, 2, 3] rfl)
set_option maxHeartbeats 4000000 in
set_option maxRecDepth 100000 in
theorem aX12_worth_0 (l : Launch) (g : CX) (σ : ST) (hI : INV σ) (p1 : Int32) : XM l g yX12_worth wsX12_worth { frames := 5, cells := 0, slots := 0, locals := 119 } [.ref (g.2.1 79), .int p1] σ (XQi g (fun r σ' => fX12_worth_0 p1 σ = (r, σ') ∧ INV σ' ∧ Fr [(35, 39)] [(75, 88)] σ σ')) := by
  refine x_met (own := RX12) (cc := cX12_worth) (maxL := 2) (ret := (some .int)) (lv := [(0, .ref (g.2.1 79)), (1, .int p1)]) (by decide) rfl rfl (Nat.le_of_ble_eq_true rfl) rfl ?_
  intro p e s m args below meth c ls E h hl
  have hx := E.1
  have hb := E.2.1
  have hown := E.2.2.2.1
  have hts := E.2.2.2.2.1
  have hF : Fr [(35, 39)] [(75, 88)] σ σ := Fr.refl σ
  obtain ⟨R, hR0⟩ : ∃ R, fX12_worth_0 p1 σ = R := ⟨_, rfl⟩
  have hR : fX12_worth_0b0 p1 σ = R := hR0
  have hwX12 : ∀ w ∈ wsX120, w ∈ wsX12_worth := by decide +kernel
  generalize hPQ : XQi g (fun r σ' => fX12_worth_0 p1 σ = (r, σ') ∧ INV σ' ∧ Fr [(35, 39)] [(75, 88)] σ σ') = PQz
  refine lv_iload_n hx hb dX12_worth_0 rfl (lv_at hl 1 rfl) ?_
  refine lv_iconst (v := 0) hx hb dX12_worth_1 (by decide) ?_
  refine lv_iconst (v := 1) hx hb dX12_worth_2 (by decide) ?_
  refine x_si E h (na := 3) (As := [.int p1, .int 0, .int 1]) (aX12_in_0 l g σ hI p1 0 1) gX12_worth_X12_in rfl ⟨rfl, rfl⟩ rfl (by decide +kernel) ⟨Nat.le_of_ble_eq_true rfl, Nat.le_of_ble_eq_true rfl⟩ hl.1 rfl (Nat.le_of_ble_eq_true rfl) dX12_worth_3 ⟨Nat.le_of_ble_eq_true rfl, Nat.le_of_ble_eq_true rfl⟩ (fun r1 s1 H locs q1 h => ?_)
  obtain ⟨x1, d1, rfl⟩ := q1
  replace hR := bd_to hR x1
  rcases d1 with ⟨rfl, u1_0_0, u1_0_1⟩ | ⟨rfl, u1_1_0⟩
  · skip
    obtain ⟨n2, b2, rfl⟩ := y_rnlt (N := 1) (y_lo1 u1_0_0 (by decide)) u1_0_1 (by omega)
    have b3 : 0 ≤ n2 := y_nlt (a := n2) (b := 0) (by omega) (by omega) u1_0_0
    have b4 : n2 ≤ 1 := y_nlt (a := 1) (b := n2) (by omega) (by omega) u1_0_1
    replace hR := it_f hR (by decide)
    refine lv_if_eq (tgt := 16) hx hb dX12_worth_6 (by decide) (fun c => absurd c (by decide)) (fun _ => ?_)
    refine lv_aload_n hx hb dX12_worth_9 rfl (lv_at hl 0 rfl) ?_
    refine x_vi E h (na := 0) (As := []) (aX12_findBest_0 l g σ hI) (oc_mo g) rfl gX12_worth_X12_findBest rfl ⟨rfl, rfl⟩ rfl (by decide +kernel) ⟨Nat.le_of_ble_eq_true rfl, Nat.le_of_ble_eq_true rfl⟩ hl.1 rfl (Nat.le_of_ble_eq_true rfl) dX12_worth_10 ⟨Nat.le_of_ble_eq_true rfl, Nat.le_of_ble_eq_true rfl⟩ (fun r5 s5 H locs q5 h => ?_)
    obtain ⟨x5, d5, hI5, f5⟩ := q5
    replace hR := bp_to hR x5
    have hF5 := hF.call f5 (I := [(35, 39)]) (J := [(75, 88)]) rfl rfl
    rcases d5 with ⟨rfl, m5_0P, m5_0R, u5_0_0, u5_0_1, u5_0_2, u5_0_3, u5_0_4, u5_0_5⟩ | rfl
    · skip
      replace hR := it_f hR (by decide)
      refine lv_if_ne (tgt := 19) hx hb dX12_worth_13 (by decide) (fun _ => ?_) (fun c => absurd c (by decide))
      refine lv_aload_n hx hb dX12_worth_19 rfl (lv_at hl 0 rfl) ?_
      refine x_vv E h (na := 0) (As := []) (aX12_join_0 l g s5 hI5 m5_0P u5_0_0 (by omega)) (oc_mo g) rfl gX12_worth_X12_join rfl ⟨rfl, rfl⟩ rfl (by decide +kernel) ⟨Nat.le_of_ble_eq_true rfl, Nat.le_of_ble_eq_true rfl⟩ hl.1 rfl (Nat.le_of_ble_eq_true rfl) dX12_worth_20 ⟨Nat.le_of_ble_eq_true rfl, Nat.le_of_ble_eq_true rfl⟩ (fun s7 H locs q7 h => ?_)
      obtain ⟨x7, hI7, f7⟩ := q7
      replace hR := bd_to hR x7
      have hF7 := hF5.call f7 (I := [(35, 39)]) (J := [(75, 88)]) rfl rfl
      have e8 : s7.1 35 = nI m5_0P := ((f7.1 35 rfl)).trans u5_0_0
      have e9 : s7.1 31 = nI m5_0R := ((f7.1 31 rfl)).trans u5_0_1
      have a10 := AP.eq u5_0_4 (f7.2 77 rfl)
      refine lv_iload_n hx hb dX12_worth_23 rfl (lv_at hl 1 rfl) ?_
      refine lv_if_ne (tgt := 34) hx hb dX12_worth_24 (by decide) (fun c11 => ?_) (fun c11 => ?_)
      · skip
        replace hR := it_f hR c11
        have b12 : ¬ n2 = 0 := y_ne (a := n2) (b := 0) (by omega) (by omega) c11
        refine lv_aload_n hx hb dX12_worth_34 rfl (lv_at hl 0 rfl) ?_
        refine lv_aload_n hx hb dX12_worth_35 rfl (lv_at hl 0 rfl) ?_
        refine x_getR E h (fr_mo_joined g) rfl hwX12 (by decide) (by decide +kernel) dX12_worth_36 ?_
        refine x_vi E h (na := 1) (As := [.ref (g.2.1 101)]) (aX12_worthOf_1 l g s7 hI7 m5_0P e8 (by omega)) (oc_mo g) rfl gX12_worth_X12_worthOf rfl ⟨rfl, rfl⟩ rfl (by decide +kernel) ⟨Nat.le_of_ble_eq_true rfl, Nat.le_of_ble_eq_true rfl⟩ hl.1 rfl (Nat.le_of_ble_eq_true rfl) dX12_worth_39 ⟨Nat.le_of_ble_eq_true rfl, Nat.le_of_ble_eq_true rfl⟩ (fun r13 s13 H locs q13 h => ?_)
        obtain ⟨x13, rfl⟩ := q13
        replace hR := bd_to hR x13
        subst hPQ
        exact x_iret E h ⟨hR0.trans hR.symm, hI7, hF7⟩ dX12_worth_42
      · skip
        replace hR := it_t hR c11
        have b14 : n2 = 0 := y_eq (a := n2) (b := 0) (by omega) (by omega) c11
        refine lv_aload_n hx hb dX12_worth_27 rfl (lv_at hl 0 rfl) ?_
        obtain ⟨x15, e15⟩ : ∃ x, s7.1 39 = x := ⟨_, rfl⟩
        refine x_getI E h (fi_mo_bestWorth g) rfl hwX12 (by decide) (by decide +kernel) (v := x15) e15 dX12_worth_28 ?_
        replace hR := bd_to hR e15
        refine lv_goto (tgt := 42) hx hb dX12_worth_31 (by decide) ?_
        subst hPQ
        exact x_iret E h ⟨hR0.trans hR.symm, hI7, hF7⟩ dX12_worth_42
    · skip
      replace hR := it_t hR (by decide)
      refine lv_if_ne (tgt := 19) hx hb dX12_worth_13 (by decide) (fun c => absurd (by decide) c) (fun _ => ?_)
      refine lv_ldc (v := (-1000000)) hx hb hown (hts (.constant RX12 215 (-1000000)) (by decide +kernel)) dX12_worth_16 ?_
      subst hPQ
      exact x_iret E h ⟨hR0.trans hR.symm, hI5, hF5⟩ dX12_worth_18
  · skip
    replace hR := it_t hR (by decide)
    refine lv_if_eq (tgt := 16) hx hb dX12_worth_6 (by decide) (fun _ => ?_) (fun c => absurd (by decide) c)
    refine lv_ldc (v := (-1000000)) hx hb hown (hts (.constant RX12 215 (-1000000)) (by decide +kernel)) dX12_worth_16 ?_
    subst hPQ
    exact x_iret E h ⟨hR0.trans hR.symm, hI, hF⟩ dX12_worth_18
set_option maxHeartbeats 4000000 in
set_option maxRecDepth 100000 in
theorem aX12_heapsIn_1 (l : Launch) (g : CX) (σ : ST) (hI : INV σ) (p1 : Nat) (hh0 : p1 ≤ 9) : XM l g yX12_heapsIn wsX12_heapsIn { frames := 0, cells := 0, slots := 0, locals := 0 } [.ref (g.2.1 101), .int (nI p1)] σ (XQi g (fun r σ' => fX12_heapsIn_1 (nI p1) σ = r ∧ ((∃ n : Nat, n ≤ 9 ∧ r = nI n)) ∧ σ = σ')) := by
  refine x_met (own := RX12) (cc := cX12_heapsIn) (maxL := 4) (ret := (some .int)) (lv := [(0, .ref (g.2.1 101)), (1, .int (nI p1))]) (by decide) rfl rfl (Nat.le_of_ble_eq_true rfl) rfl ?_
  intro p e s m args below meth c ls E h hl
  have hx := E.1
  have hb := E.2.1
  have hown := E.2.2.2.1
  have hts := E.2.2.2.2.1
  obtain ⟨R, hR0⟩ : ∃ R, fX12_heapsIn_1 (nI p1) σ = R := ⟨_, rfl⟩
  have hR : fX12_heapsIn_1b0 (nI p1) σ = R := hR0
  generalize hPQ : XQi g (fun r σ' => fX12_heapsIn_1 (nI p1) σ = r ∧ ((∃ n : Nat, n ≤ 9 ∧ r = nI n)) ∧ σ = σ') = PQz
  refine lv_iconst (v := 0) hx hb dX12_heapsIn_0 (by decide) ?_
  refine lv_istore_n (lv' := [(2, .int 0), (0, .ref (g.2.1 101)), (1, .int (nI p1))]) hx hb dX12_heapsIn_1 rfl hl (by decide) rfl (fun ls hl => ?_)
  refine lv_iconst (v := 0) hx hb dX12_heapsIn_2 (by decide) ?_
  refine lv_istore_n (lv' := [(3, .int 0), (2, .int 0), (0, .ref (g.2.1 101)), (1, .int (nI p1))]) hx hb dX12_heapsIn_3 rfl hl (by decide) rfl (fun ls hl => ?_)
  have loop4_1 : ∀ (fu : Nat) (i1_3 : Nat) (i1_2 : Nat), i1_3 ≤ p1 → i1_2 ≤ 9 → fX12_heapsIn_1l4 fu (nI p1) (nI i1_2) (nI i1_3) σ = R → p1 - i1_3 < fu → ∀ (H : Heap) (locs : List Loc) (ls : Array Slot), HW g σ s H locs → lv_has ls 4 [(3, .int (nI i1_3)), (2, .int (nI i1_2)), (0, .ref (g.2.1 101)), (1, .int (nI p1))] → W p l e { frames := 0, cells := 0, slots := 0, locals := 0 } s m args below meth c H locs 0 0 (MQ below PQz args s 0 0 (Aw g)) (F0 m 4 ls []) := by
    intro fu1
    induction fu1 with
    | zero => intro i1_3 i1_2 bi1_3 bi1_2 hR1 hm; exact absurd hm (Nat.not_lt_zero _)
    | succ fu1 ih =>
      have ih1 := ih
      clear ih
      intro i1_3 i1_2 bi1_3 bi1_2 hR1 hm1 H locs ls h hl
      replace hR1 : fX12_heapsIn_1b4 (fX12_heapsIn_1l4 fu1) (nI p1) (nI i1_2) (nI i1_3) σ = R := hR1
      refine lv_iload_n hx hb dX12_heapsIn_4 rfl (lv_at hl 0 rfl) ?_
      refine lv_iload_n hx hb dX12_heapsIn_5 rfl (lv_at hl 3 rfl) ?_
      refine lv_icmp_ge (tgt := 32) hx hb dX12_heapsIn_6 (by decide) (fun c2 => ?_) (fun c2 => ?_)
      · skip
        replace hR1 := it_t hR1 c2
        have b3 : p1 ≤ i1_3 := y_le (a := p1) (b := i1_3) (by omega) (by omega) c2
        refine lv_iload_n hx hb dX12_heapsIn_32 rfl (lv_at hl 1 rfl) ?_
        subst hPQ
        exact x_iret E h ⟨hR0.trans hR1.symm, (⟨i1_2, (by omega), rfl⟩), rfl⟩ dX12_heapsIn_33
      · skip
        replace hR1 := it_f hR1 c2
        have b4 : i1_3 < p1 := y_nle (a := p1) (b := i1_3) (by omega) (by omega) c2
        refine lv_aload_n hx hb dX12_heapsIn_9 rfl (lv_at hl 2 rfl) ?_
        refine lv_iload_n hx hb dX12_heapsIn_10 rfl (lv_at hl 0 rfl) ?_
        obtain ⟨n5, b5, e5⟩ := hI.2 87 8 rfl i1_3
        refine x_ldI E h (ia_mo_joined g) (i := nI i1_3) (vp_in_nI (by omega) (by decide)) (v := nI n5) ((congrArg (σ.2.2 87) (nI_clamp (n := i1_3) (by omega))).trans e5) dX12_heapsIn_11 ?_
        replace hR1 := bd_to hR1 ((congrArg (σ.2.2 87) (nI_clamp (n := i1_3) (by omega))).trans e5)
        refine lv_iload_n hx hb dX12_heapsIn_12 rfl (lv_at hl 1 rfl) ?_
        refine lv_icmp_lt (tgt := 24) hx hb dX12_heapsIn_13 (by decide) (fun c6 => ?_) (fun c6 => ?_)
        · skip
          replace hR1 := it_t hR1 c6
          have b7 : n5 < i1_2 := y_lt (a := n5) (b := i1_2) (by omega) (by omega) c6
          refine lv_iload_n hx hb dX12_heapsIn_24 rfl (lv_at hl 1 rfl) ?_
          replace hR1 : fX12_heapsIn_1b25 (fX12_heapsIn_1l4 fu1) (nI p1) (nI i1_3) (nI i1_2) σ = R := hR1
          refine lv_istore_n (lv' := [(2, .int (nI i1_2)), (3, .int (nI i1_3)), (0, .ref (g.2.1 101)), (1, .int (nI p1))]) hx hb dX12_heapsIn_25 rfl hl (by decide) rfl (fun ls hl => ?_)
          replace hR1 := bd_to hR1 (nI_add i1_3 1)
          refine lv_iinc (v := (nI (i1_3 + 1))) (lv' := [(3, .int (nI (i1_3 + 1))), (2, .int (nI i1_2)), (0, .ref (g.2.1 101)), (1, .int (nI p1))]) hx hb dX12_heapsIn_26 hl (k := 1) rfl (nI_add i1_3 1) (by decide) rfl (fun ls hl => ?_)
          refine lv_goto (tgt := 4) hx hb dX12_heapsIn_29 (by decide) ?_
          exact ih1 (i1_3 + 1) i1_2 (by omega) (by omega) hR1 (by omega) _ _ _ h (lv_sub hl [0, 1, 2, 3] rfl)
        · skip
          replace hR1 := it_f hR1 c6
          have b8 : i1_2 ≤ n5 := y_nlt (a := n5) (b := i1_2) (by omega) (by omega) c6
          refine lv_aload_n hx hb dX12_heapsIn_16 rfl (lv_at hl 2 rfl) ?_
          refine lv_iload_n hx hb dX12_heapsIn_17 rfl (lv_at hl 0 rfl) ?_
          refine x_ldI E h (ia_mo_joined g) (i := nI i1_3) (vp_in_nI (by omega) (by decide)) (v := nI n5) ((congrArg (σ.2.2 87) (nI_clamp (n := i1_3) (by omega))).trans e5) dX12_heapsIn_18 ?_
          replace hR1 := bd_to hR1 ((congrArg (σ.2.2 87) (nI_clamp (n := i1_3) (by omega))).trans e5)
          refine lv_iconst (v := 1) hx hb dX12_heapsIn_19 (by decide) ?_
          refine lv_iadd hx hb dX12_heapsIn_20 ?_
          refine x_topI (v2 := nI (n5 + 1)) (nI_add n5 1) ?_
          replace hR1 := bd_to hR1 (nI_add n5 1)
          refine lv_goto (tgt := 25) hx hb dX12_heapsIn_21 (by decide) ?_
          refine lv_istore_n (lv' := [(2, .int (nI (n5 + 1))), (3, .int (nI i1_3)), (0, .ref (g.2.1 101)), (1, .int (nI p1))]) hx hb dX12_heapsIn_25 rfl hl (by decide) rfl (fun ls hl => ?_)
          replace hR1 := bd_to hR1 (nI_add i1_3 1)
          refine lv_iinc (v := (nI (i1_3 + 1))) (lv' := [(3, .int (nI (i1_3 + 1))), (2, .int (nI (n5 + 1))), (0, .ref (g.2.1 101)), (1, .int (nI p1))]) hx hb dX12_heapsIn_26 hl (k := 1) rfl (nI_add i1_3 1) (by decide) rfl (fun ls hl => ?_)
          refine lv_goto (tgt := 4) hx hb dX12_heapsIn_29 (by decide) ?_
          exact ih1 (i1_3 + 1) (n5 + 1) (by omega) (by omega) hR1 (by omega) _ _ _ h (lv_sub hl [0, 1, 2, 3] rfl)
  exact loop4_1 4096 0 0 (Nat.zero_le _) (Nat.zero_le _) hR (by omega) _ _ _ h (lv_sub hl [0, 1, 2, 3] rfl)
set_option maxHeartbeats 4000000 in
set_option maxRecDepth 100000 in
theorem aX12_heapsIn_2 (l : Launch) (g : CX) (σ : ST) (hI : INV σ) (p1 : Nat) (hh0 : p1 ≤ 9) : XM l g yX12_heapsIn wsX12_heapsIn { frames := 0, cells := 0, slots := 0, locals := 0 } [.ref (g.2.1 100), .int (nI p1)] σ (XQi g (fun r σ' => fX12_heapsIn_2 (nI p1) σ = r ∧ ((∃ n : Nat, n ≤ 9 ∧ r = nI n)) ∧ σ = σ')) := by
  refine x_met (own := RX12) (cc := cX12_heapsIn) (maxL := 4) (ret := (some .int)) (lv := [(0, .ref (g.2.1 100)), (1, .int (nI p1))]) (by decide) rfl rfl (Nat.le_of_ble_eq_true rfl) rfl ?_
  intro p e s m args below meth c ls E h hl
  have hx := E.1
  have hb := E.2.1
  have hown := E.2.2.2.1
  have hts := E.2.2.2.2.1
  obtain ⟨R, hR0⟩ : ∃ R, fX12_heapsIn_2 (nI p1) σ = R := ⟨_, rfl⟩
  have hR : fX12_heapsIn_2b0 (nI p1) σ = R := hR0
  generalize hPQ : XQi g (fun r σ' => fX12_heapsIn_2 (nI p1) σ = r ∧ ((∃ n : Nat, n ≤ 9 ∧ r = nI n)) ∧ σ = σ') = PQz
  refine lv_iconst (v := 0) hx hb dX12_heapsIn_0 (by decide) ?_
  refine lv_istore_n (lv' := [(2, .int 0), (0, .ref (g.2.1 100)), (1, .int (nI p1))]) hx hb dX12_heapsIn_1 rfl hl (by decide) rfl (fun ls hl => ?_)
  refine lv_iconst (v := 0) hx hb dX12_heapsIn_2 (by decide) ?_
  refine lv_istore_n (lv' := [(3, .int 0), (2, .int 0), (0, .ref (g.2.1 100)), (1, .int (nI p1))]) hx hb dX12_heapsIn_3 rfl hl (by decide) rfl (fun ls hl => ?_)
  have loop4_1 : ∀ (fu : Nat) (i1_3 : Nat) (i1_2 : Nat), i1_3 ≤ p1 → i1_2 ≤ 9 → fX12_heapsIn_2l4 fu (nI p1) (nI i1_2) (nI i1_3) σ = R → p1 - i1_3 < fu → ∀ (H : Heap) (locs : List Loc) (ls : Array Slot), HW g σ s H locs → lv_has ls 4 [(3, .int (nI i1_3)), (2, .int (nI i1_2)), (0, .ref (g.2.1 100)), (1, .int (nI p1))] → W p l e { frames := 0, cells := 0, slots := 0, locals := 0 } s m args below meth c H locs 0 0 (MQ below PQz args s 0 0 (Aw g)) (F0 m 4 ls []) := by
    intro fu1
    induction fu1 with
    | zero => intro i1_3 i1_2 bi1_3 bi1_2 hR1 hm; exact absurd hm (Nat.not_lt_zero _)
    | succ fu1 ih =>
      have ih1 := ih
      clear ih
      intro i1_3 i1_2 bi1_3 bi1_2 hR1 hm1 H locs ls h hl
      replace hR1 : fX12_heapsIn_2b4 (fX12_heapsIn_2l4 fu1) (nI p1) (nI i1_2) (nI i1_3) σ = R := hR1
      refine lv_iload_n hx hb dX12_heapsIn_4 rfl (lv_at hl 0 rfl) ?_
      refine lv_iload_n hx hb dX12_heapsIn_5 rfl (lv_at hl 3 rfl) ?_
      refine lv_icmp_ge (tgt := 32) hx hb dX12_heapsIn_6 (by decide) (fun c2 => ?_) (fun c2 => ?_)
      · skip
        replace hR1 := it_t hR1 c2
        have b3 : p1 ≤ i1_3 := y_le (a := p1) (b := i1_3) (by omega) (by omega) c2
        refine lv_iload_n hx hb dX12_heapsIn_32 rfl (lv_at hl 1 rfl) ?_
        subst hPQ
        exact x_iret E h ⟨hR0.trans hR1.symm, (⟨i1_2, (by omega), rfl⟩), rfl⟩ dX12_heapsIn_33
      · skip
        replace hR1 := it_f hR1 c2
        have b4 : i1_3 < p1 := y_nle (a := p1) (b := i1_3) (by omega) (by omega) c2
        refine lv_aload_n hx hb dX12_heapsIn_9 rfl (lv_at hl 2 rfl) ?_
        refine lv_iload_n hx hb dX12_heapsIn_10 rfl (lv_at hl 0 rfl) ?_
        obtain ⟨n5, b5, e5⟩ := hI.2 86 8 rfl i1_3
        refine x_ldI E h (ia_mo_best g) (i := nI i1_3) (vp_in_nI (by omega) (by decide)) (v := nI n5) ((congrArg (σ.2.2 86) (nI_clamp (n := i1_3) (by omega))).trans e5) dX12_heapsIn_11 ?_
        replace hR1 := bd_to hR1 ((congrArg (σ.2.2 86) (nI_clamp (n := i1_3) (by omega))).trans e5)
        refine lv_iload_n hx hb dX12_heapsIn_12 rfl (lv_at hl 1 rfl) ?_
        refine lv_icmp_lt (tgt := 24) hx hb dX12_heapsIn_13 (by decide) (fun c6 => ?_) (fun c6 => ?_)
        · skip
          replace hR1 := it_t hR1 c6
          have b7 : n5 < i1_2 := y_lt (a := n5) (b := i1_2) (by omega) (by omega) c6
          refine lv_iload_n hx hb dX12_heapsIn_24 rfl (lv_at hl 1 rfl) ?_
          replace hR1 : fX12_heapsIn_2b25 (fX12_heapsIn_2l4 fu1) (nI p1) (nI i1_3) (nI i1_2) σ = R := hR1
          refine lv_istore_n (lv' := [(2, .int (nI i1_2)), (3, .int (nI i1_3)), (0, .ref (g.2.1 100)), (1, .int (nI p1))]) hx hb dX12_heapsIn_25 rfl hl (by decide) rfl (fun ls hl => ?_)
          replace hR1 := bd_to hR1 (nI_add i1_3 1)
          refine lv_iinc (v := (nI (i1_3 + 1))) (lv' := [(3, .int (nI (i1_3 + 1))), (2, .int (nI i1_2)), (0, .ref (g.2.1 100)), (1, .int (nI p1))]) hx hb dX12_heapsIn_26 hl (k := 1) rfl (nI_add i1_3 1) (by decide) rfl (fun ls hl => ?_)
          refine lv_goto (tgt := 4) hx hb dX12_heapsIn_29 (by decide) ?_
          exact ih1 (i1_3 + 1) i1_2 (by omega) (by omega) hR1 (by omega) _ _ _ h (lv_sub hl [0, 1, 2, 3] rfl)
        · skip
          replace hR1 := it_f hR1 c6
          have b8 : i1_2 ≤ n5 := y_nlt (a := n5) (b := i1_2) (by omega) (by omega) c6
          refine lv_aload_n hx hb dX12_heapsIn_16 rfl (lv_at hl 2 rfl) ?_
          refine lv_iload_n hx hb dX12_heapsIn_17 rfl (lv_at hl 0 rfl) ?_
          refine x_ldI E h (ia_mo_best g) (i := nI i1_3) (vp_in_nI (by omega) (by decide)) (v := nI n5) ((congrArg (σ.2.2 86) (nI_clamp (n := i1_3) (by omega))).trans e5) dX12_heapsIn_18 ?_
          replace hR1 := bd_to hR1 ((congrArg (σ.2.2 86) (nI_clamp (n := i1_3) (by omega))).trans e5)
          refine lv_iconst (v := 1) hx hb dX12_heapsIn_19 (by decide) ?_
          refine lv_iadd hx hb dX12_heapsIn_20 ?_
          refine x_topI (v2 := nI (n5 + 1)) (nI_add n5 1) ?_
          replace hR1 := bd_to hR1 (nI_add n5 1)
          refine lv_goto (tgt := 25) hx hb dX12_heapsIn_21 (by decide) ?_
          refine lv_istore_n (lv' := [(2, .int (nI (n5 + 1))), (3, .int (nI i1_3)), (0, .ref (g.2.1 100)), (1, .int (nI p1))]) hx hb dX12_heapsIn_25 rfl hl (by decide) rfl (fun ls hl => ?_)
          replace hR1 := bd_to hR1 (nI_add i1_3 1)
          refine lv_iinc (v := (nI (i1_3 + 1))) (lv' := [(3, .int (nI (i1_3 + 1))), (2, .int (nI (n5 + 1))), (0, .ref (g.2.1 100)), (1, .int (nI p1))]) hx hb dX12_heapsIn_26 hl (k := 1) rfl (nI_add i1_3 1) (by decide) rfl (fun ls hl => ?_)
          refine lv_goto (tgt := 4) hx hb dX12_heapsIn_29 (by decide) ?_
          exact ih1 (i1_3 + 1) (n5 + 1) (by omega) (by omega) hR1 (by omega) _ _ _ h (lv_sub hl [0, 1, 2, 3] rfl)
  exact loop4_1 4096 0 0 (Nat.zero_le _) (Nat.zero_le _) hR (by omega) _ _ _ h (lv_sub hl [0, 1, 2, 3] rfl)
set_option maxHeartbeats 4000000 in
set_option maxRecDepth 100000 in
theorem aX12_near_0 (l : Launch) (g : CX) (σ : ST) (hI : INV σ) (p1 : Int32) : XM l g yX12_near wsX12_near { frames := 5, cells := 0, slots := 0, locals := 119 } [.ref (g.2.1 79), .int p1] σ (XQi g (fun r σ' => fX12_near_0 p1 σ = (r, σ') ∧ INV σ' ∧ Fr [(35, 39)] [(75, 88)] σ σ')) := by
  refine x_met (own := RX12) (cc := cX12_near) (maxL := 7) (ret := (some .int)) (lv := [(0, .ref (g.2.1 79)), (1, .int p1)]) (by decide) rfl rfl (Nat.le_of_ble_eq_true rfl) rfl ?_
  intro p e s m args below meth c ls E h hl
  have hx := E.1
  have hb := E.2.1
  have hown := E.2.2.2.1
  have hts := E.2.2.2.2.1
  have hF : Fr [(35, 39)] [(75, 88)] σ σ := Fr.refl σ
  obtain ⟨R, hR0⟩ : ∃ R, fX12_near_0 p1 σ = R := ⟨_, rfl⟩
  have hR : fX12_near_0b0 p1 σ = R := hR0
  have hwX12 : ∀ w ∈ wsX120, w ∈ wsX12_near := by decide +kernel
  generalize hPQ : XQi g (fun r σ' => fX12_near_0 p1 σ = (r, σ') ∧ INV σ' ∧ Fr [(35, 39)] [(75, 88)] σ σ') = PQz
  refine lv_iload_n hx hb dX12_near_0 rfl (lv_at hl 1 rfl) ?_
  refine lv_iconst (v := 0) hx hb dX12_near_1 (by decide) ?_
  refine lv_iconst (v := 4) hx hb dX12_near_2 (by decide) ?_
  refine x_si E h (na := 3) (As := [.int p1, .int 0, .int 4]) (aX12_in_0 l g σ hI p1 0 4) gX12_near_X12_in rfl ⟨rfl, rfl⟩ rfl (by decide +kernel) ⟨Nat.le_of_ble_eq_true rfl, Nat.le_of_ble_eq_true rfl⟩ hl.1 rfl (Nat.le_of_ble_eq_true rfl) dX12_near_3 ⟨Nat.le_of_ble_eq_true rfl, Nat.le_of_ble_eq_true rfl⟩ (fun r1 s1 H locs q1 h => ?_)
  obtain ⟨x1, d1, rfl⟩ := q1
  replace hR := bd_to hR x1
  rcases d1 with ⟨rfl, u1_0_0, u1_0_1⟩ | ⟨rfl, u1_1_0⟩
  · skip
    obtain ⟨n2, b2, rfl⟩ := y_rnlt (N := 4) (y_lo1 u1_0_0 (by decide)) u1_0_1 (by omega)
    have b3 : 0 ≤ n2 := y_nlt (a := n2) (b := 0) (by omega) (by omega) u1_0_0
    have b4 : n2 ≤ 4 := y_nlt (a := 4) (b := n2) (by omega) (by omega) u1_0_1
    replace hR := it_f hR (by decide)
    refine lv_if_ne (tgt := 11) hx hb dX12_near_6 (by decide) (fun _ => ?_) (fun c => absurd c (by decide))
    refine lv_aload_n hx hb dX12_near_11 rfl (lv_at hl 0 rfl) ?_
    refine x_vi E h (na := 0) (As := []) (aX12_findBest_0 l g σ hI) (oc_mo g) rfl gX12_near_X12_findBest rfl ⟨rfl, rfl⟩ rfl (by decide +kernel) ⟨Nat.le_of_ble_eq_true rfl, Nat.le_of_ble_eq_true rfl⟩ hl.1 rfl (Nat.le_of_ble_eq_true rfl) dX12_near_12 ⟨Nat.le_of_ble_eq_true rfl, Nat.le_of_ble_eq_true rfl⟩ (fun r5 s5 H locs q5 h => ?_)
    obtain ⟨x5, d5, hI5, f5⟩ := q5
    replace hR := bp_to hR x5
    have hF5 := hF.call f5 (I := [(35, 39)]) (J := [(75, 88)]) rfl rfl
    rcases d5 with ⟨rfl, m5_0P, m5_0R, u5_0_0, u5_0_1, u5_0_2, u5_0_3, u5_0_4, u5_0_5⟩ | rfl
    · skip
      replace hR := it_f hR (by decide)
      refine lv_if_ne (tgt := 21) hx hb dX12_near_15 (by decide) (fun _ => ?_) (fun c => absurd c (by decide))
      refine lv_iload_n hx hb dX12_near_21 rfl (lv_at hl 1 rfl) ?_
      refine lv_iconst (v := 2) hx hb dX12_near_22 (by decide) ?_
      refine lv_icmp_le (tgt := 61) hx hb dX12_near_23 (by decide) (fun c7 => ?_) (fun c7 => ?_)
      · skip
        replace hR := it_t hR c7
        have b8 : n2 ≤ 2 := y_le (a := n2) (b := 2) (by omega) (by omega) c7
        refine lv_iconst (v := 0) hx hb dX12_near_61 (by decide) ?_
        refine lv_istore_n (lv' := [(2, .int 0), (0, .ref (g.2.1 79)), (1, .int (nI n2))]) hx hb dX12_near_62 rfl hl (by decide) rfl (fun ls hl => ?_)
        refine lv_bipush (v := 10) hx hb dX12_near_63 (by decide) ?_
        refine lv_istore_n (lv' := [(3, .int 10), (2, .int 0), (0, .ref (g.2.1 79)), (1, .int (nI n2))]) hx hb dX12_near_65 rfl hl (by decide) rfl (fun ls hl => ?_)
        refine lv_iconst (v := (-1)) hx hb dX12_near_66 (by decide) ?_
        refine lv_istore (lv' := [(4, .int (-1)), (3, .int 10), (2, .int 0), (0, .ref (g.2.1 79)), (1, .int (nI n2))]) hx hb dX12_near_67 hl (by decide) rfl (fun ls hl => ?_)
        refine lv_aload_n hx hb dX12_near_69 rfl (lv_at hl 3 rfl) ?_
        refine x_vv E h (na := 0) (As := []) (aX12_begin_0 l g s5 hI5) (oc_mo g) rfl gX12_near_X12_begin rfl ⟨rfl, rfl⟩ rfl (by decide +kernel) ⟨Nat.le_of_ble_eq_true rfl, Nat.le_of_ble_eq_true rfl⟩ hl.1 rfl (Nat.le_of_ble_eq_true rfl) dX12_near_70 ⟨Nat.le_of_ble_eq_true rfl, Nat.le_of_ble_eq_true rfl⟩ (fun s9 H locs q9 h => ?_)
        obtain ⟨x9, d9, hI9, f9⟩ := q9
        replace hR := bd_to hR x9
        have hF9 := hF5.call f9 (I := [(35, 39)]) (J := [(75, 88)]) rfl rfl
        have e10 : s9.1 35 = nI m5_0P := ((f9.1 35 rfl)).trans u5_0_0
        have e11 : s9.1 31 = nI m5_0R := ((f9.1 31 rfl)).trans u5_0_1
        have a12 := AP.eq u5_0_4 (f9.2 77 rfl)
        have u9_0_0 := d9
        refine lv_iconst (v := 1) hx hb dX12_near_73 (by decide) ?_
        refine lv_istore (lv' := [(5, .int 1), (4, .int (-1)), (3, .int 10), (2, .int 0), (0, .ref (g.2.1 79)), (1, .int (nI n2))]) hx hb dX12_near_74 hl (by decide) rfl (fun ls hl => ?_)
        have loop76_13 : ∀ (fu : Nat) (t13 : ST) (i13_5 : Int32) (i13_4 : Int32) (i13_3 : Int32) (i13_2 : Int32), INV t13 → Fr [(35, 39)] [(75, 88)] σ t13 → t13.1 35 = nI m5_0P → t13.1 31 = nI m5_0R → AP (t13.2.2 85) 0 10 HQ → fX12_near_0l76 fu (nI n2) i13_2 i13_3 i13_4 i13_5 t13 = R → 1000000000 - hv (t13.2.2 85) m5_0P + 1 < fu → ∀ (H : Heap) (locs : List Loc) (ls : Array Slot), HW g t13 s H locs → lv_has ls 7 [(5, .int i13_5), (4, .int i13_4), (3, .int i13_3), (2, .int i13_2), (0, .ref (g.2.1 79)), (1, .int (nI n2))] → W p l e { frames := 5, cells := 0, slots := 0, locals := 119 } s m args below meth c H locs 0 0 (MQ below PQz args s 0 0 (Aw g)) (F0 m 76 ls []) := by
          intro fu13
          induction fu13 with
          | zero => intro t13 i13_5 i13_4 i13_3 i13_2 hI_13 hF_13 e14 e15 hp_13 hR13 hm; exact absurd hm (Nat.not_lt_zero _)
          | succ fu13 ih =>
            have ih13 := ih
            clear ih
            intro t13 i13_5 i13_4 i13_3 i13_2 hI_13 hF_13 e14 e15 hp_13 hR13 hm13 H locs ls h hl
            replace hR13 : fX12_near_0b76 (fX12_near_0l76 fu13) (nI n2) i13_2 i13_3 i13_4 i13_5 t13 = R := hR13
            refine lv_iload hx hb dX12_near_76 (lv_at hl 0 rfl) ?_
            refine lv_if_eq (tgt := 157) hx hb dX12_near_78 (by decide) (fun c16 => ?_) (fun c16 => ?_)
            · skip
              replace hR13 := it_t hR13 c16
              subst c16
              refine lv_iload_n hx hb dX12_near_157 rfl (lv_at hl 5 rfl) ?_
              refine lv_if_ne (tgt := 165) hx hb dX12_near_158 (by decide) (fun c18 => ?_) (fun c18 => ?_)
              · skip
                replace hR13 := it_f hR13 c18
                have b19 : ¬ n2 = 0 := y_ne (a := n2) (b := 0) (by omega) (by omega) c18
                refine lv_iload_n hx hb dX12_near_165 rfl (lv_at hl 5 rfl) ?_
                refine lv_iconst (v := 1) hx hb dX12_near_166 (by decide) ?_
                refine lv_icmp_ne (tgt := 174) hx hb dX12_near_167 (by decide) (fun c20 => ?_) (fun c20 => ?_)
                · skip
                  replace hR13 := it_f hR13 c20
                  have b21 : ¬ n2 = 1 := y_ne (a := n2) (b := 1) (by omega) (by omega) c20
                  refine lv_iload hx hb dX12_near_174 (lv_at hl 1 rfl) ?_
                  replace hR13 : fX12_near_0b176 i13_4 t13 = R := hR13
                  subst hPQ
                  exact x_iret E h ⟨hR0.trans hR13.symm, hI_13, hF_13⟩ dX12_near_176
                · skip
                  replace hR13 := it_t hR13 c20
                  have b22 : n2 = 1 := y_eq (a := n2) (b := 1) (by omega) (by omega) c20
                  refine lv_iload_n hx hb dX12_near_170 rfl (lv_at hl 2 rfl) ?_
                  refine lv_goto (tgt := 176) hx hb dX12_near_171 (by decide) ?_
                  replace hR13 : fX12_near_0b176 i13_3 t13 = R := hR13
                  subst hPQ
                  exact x_iret E h ⟨hR0.trans hR13.symm, hI_13, hF_13⟩ dX12_near_176
              · skip
                replace hR13 := it_t hR13 c18
                have b23 : n2 = 0 := y_eq (a := n2) (b := 0) (by omega) (by omega) c18
                refine lv_iload_n hx hb dX12_near_161 rfl (lv_at hl 3 rfl) ?_
                refine lv_goto (tgt := 176) hx hb dX12_near_162 (by decide) ?_
                replace hR13 : fX12_near_0b176 i13_2 t13 = R := hR13
                subst hPQ
                exact x_iret E h ⟨hR0.trans hR13.symm, hI_13, hF_13⟩ dX12_near_176
            · skip
              replace hR13 := it_f hR13 c16
              refine lv_aload_n hx hb dX12_near_81 rfl (lv_at hl 4 rfl) ?_
              refine lv_aload_n hx hb dX12_near_82 rfl (lv_at hl 4 rfl) ?_
              refine x_getR E h (fr_mo_heap g) rfl hwX12 (by decide) (by decide +kernel) dX12_near_83 ?_
              refine x_vi E h (na := 1) (As := [.ref (g.2.1 99)]) (aX12_worthOf_0 l g t13 hI_13 m5_0P e14 (by omega)) (oc_mo g) rfl gX12_near_X12_worthOf rfl ⟨rfl, rfl⟩ rfl (by decide +kernel) ⟨Nat.le_of_ble_eq_true rfl, Nat.le_of_ble_eq_true rfl⟩ hl.1 rfl (Nat.le_of_ble_eq_true rfl) dX12_near_86 ⟨Nat.le_of_ble_eq_true rfl, Nat.le_of_ble_eq_true rfl⟩ (fun r25 s25 H locs q25 h => ?_)
              obtain ⟨x25, rfl⟩ := q25
              replace hR13 := bd_to hR13 x25
              refine lv_aload_n hx hb dX12_near_89 rfl (lv_at hl 4 rfl) ?_
              obtain ⟨x26, e26⟩ : ∃ x, t13.1 39 = x := ⟨_, rfl⟩
              refine x_getI E h (fi_mo_bestWorth g) rfl hwX12 (by decide) (by decide +kernel) (v := x26) e26 dX12_near_90 ?_
              replace hR13 := bd_to hR13 e26
              refine lv_aload_n hx hb dX12_near_93 rfl (lv_at hl 4 rfl) ?_
              refine x_getR E h (fr_mo_rule g) rfl hwX12 (by decide) (by decide +kernel) dX12_near_94 ?_
              refine lv_iconst (v := 3) hx hb dX12_near_97 (by decide) ?_
              refine x_ldI E h (ia_mo_rule g) (i := nI 3) (vp_in_nI (by omega) (by decide)) (v := t13.2.2 66 3) (congrArg (t13.2.2 66) (nI_clamp (n := 3) (by omega))) dX12_near_98 ?_
              replace hR13 := bd_to hR13 (congrArg (t13.2.2 66) (nI_clamp (n := 3) (by omega)))
              refine lv_isub hx hb dX12_near_99 ?_
              refine lv_topi (fun x27 e27 => ?_)
              replace hR13 := bd_to hR13 e27.symm
              have j148_30 : ∀ (y30_l4 : Int32) (y30_l3 : Int32) (y30_l2 : Int32), fX12_near_0b148 (fX12_near_0l76 fu13) (nI n2) y30_l2 y30_l3 y30_l4 t13 = R → ∀ (H : Heap) (locs : List Loc) (ls : Array Slot), HW g t13 s H locs → lv_has ls 7 [(5, .int i13_5), (4, .int y30_l4), (3, .int y30_l3), (2, .int y30_l2), (0, .ref (g.2.1 79)), (1, .int (nI n2))] → W p l e { frames := 5, cells := 0, slots := 0, locals := 119 } s m args below meth c H locs 0 0 (MQ below PQz args s 0 0 (Aw g)) (F0 m 148 ls []) := by
                intro y30_l4 y30_l3 y30_l2 hR30 H locs ls h hl
                refine lv_aload_n hx hb dX12_near_148 rfl (lv_at hl 4 rfl) ?_
                refine x_vi E h (na := 0) (As := []) (aX12_goOn_0 l g t13 hI_13 m5_0P e14 (by omega) hp_13) (oc_mo g) rfl gX12_near_X12_goOn rfl ⟨rfl, rfl⟩ rfl (by decide +kernel) ⟨Nat.le_of_ble_eq_true rfl, Nat.le_of_ble_eq_true rfl⟩ hl.1 rfl (Nat.le_of_ble_eq_true rfl) dX12_near_149 ⟨Nat.le_of_ble_eq_true rfl, Nat.le_of_ble_eq_true rfl⟩ (fun r31 s31 H locs q31 h => ?_)
                obtain ⟨x31, d31, hI31, f31⟩ := q31
                replace hR30 := bp_to hR30 x31
                have hF31 := hF_13.call f31 (I := [(35, 39)]) (J := [(75, 88)]) rfl rfl
                have e32 : s31.1 35 = nI m5_0P := ((f31.1 35 rfl)).trans e14
                have e33 : s31.1 31 = nI m5_0R := ((f31.1 31 rfl)).trans e15
                have e34 : s31.1 39 = x26 := ((f31.1 39 rfl)).trans e26
                rcases d31 with ⟨rfl, u31_0_0⟩ | rfl
                · skip
                  have u36 : hv (t13.2.2 85) m5_0P < hv (s31.2.2 85) m5_0P := by have h9 := u31_0_0.2; exact h9
                  refine lv_istore (lv' := [(5, .int 1), (4, .int y30_l4), (3, .int y30_l3), (2, .int y30_l2), (0, .ref (g.2.1 79)), (1, .int (nI n2))]) hx hb dX12_near_152 hl (by decide) rfl (fun ls hl => ?_)
                  refine lv_goto (tgt := 76) hx hb dX12_near_154 (by decide) ?_
                  exact ih13 s31 1 y30_l4 y30_l3 y30_l2 hI31 hF31 e32 e33 u31_0_0.1 hR30 (by have h1 := u36; have h2 := hv_bd u31_0_0.1 (P := m5_0P) (by omega); have h3 := hm13; omega) _ _ _ h (lv_sub hl [0, 1, 2, 3, 4, 5] rfl)
                · skip
                  refine lv_istore (lv' := [(5, .int 0), (4, .int y30_l4), (3, .int y30_l3), (2, .int y30_l2), (0, .ref (g.2.1 79)), (1, .int (nI n2))]) hx hb dX12_near_152 hl (by decide) rfl (fun ls hl => ?_)
                  refine lv_goto (tgt := 76) hx hb dX12_near_154 (by decide) ?_
                  obtain ⟨fu37, rfl⟩ : ∃ z, fu13 = z + 1 := ⟨fu13 - 1, by omega⟩
                  replace hR30 : fX12_near_0b76 (fX12_near_0l76 fu37) (nI n2) y30_l2 y30_l3 y30_l4 0 s31 = R := hR30
                  refine lv_iload hx hb dX12_near_76 (lv_at hl 0 rfl) ?_
                  replace hR30 := it_t hR30 (by decide)
                  refine lv_if_eq (tgt := 157) hx hb dX12_near_78 (by decide) (fun _ => ?_) (fun c => absurd (by decide) c)
                  refine lv_iload_n hx hb dX12_near_157 rfl (lv_at hl 5 rfl) ?_
                  refine lv_if_ne (tgt := 165) hx hb dX12_near_158 (by decide) (fun c38 => ?_) (fun c38 => ?_)
                  · skip
                    replace hR30 := it_f hR30 c38
                    have b39 : ¬ n2 = 0 := y_ne (a := n2) (b := 0) (by omega) (by omega) c38
                    refine lv_iload_n hx hb dX12_near_165 rfl (lv_at hl 5 rfl) ?_
                    refine lv_iconst (v := 1) hx hb dX12_near_166 (by decide) ?_
                    refine lv_icmp_ne (tgt := 174) hx hb dX12_near_167 (by decide) (fun c40 => ?_) (fun c40 => ?_)
                    · skip
                      replace hR30 := it_f hR30 c40
                      have b41 : ¬ n2 = 1 := y_ne (a := n2) (b := 1) (by omega) (by omega) c40
                      refine lv_iload hx hb dX12_near_174 (lv_at hl 1 rfl) ?_
                      replace hR30 : fX12_near_0b176 y30_l4 s31 = R := hR30
                      subst hPQ
                      exact x_iret E h ⟨hR0.trans hR30.symm, hI31, hF31⟩ dX12_near_176
                    · skip
                      replace hR30 := it_t hR30 c40
                      have b42 : n2 = 1 := y_eq (a := n2) (b := 1) (by omega) (by omega) c40
                      refine lv_iload_n hx hb dX12_near_170 rfl (lv_at hl 2 rfl) ?_
                      refine lv_goto (tgt := 176) hx hb dX12_near_171 (by decide) ?_
                      replace hR30 : fX12_near_0b176 y30_l3 s31 = R := hR30
                      subst hPQ
                      exact x_iret E h ⟨hR0.trans hR30.symm, hI31, hF31⟩ dX12_near_176
                  · skip
                    replace hR30 := it_t hR30 c38
                    have b43 : n2 = 0 := y_eq (a := n2) (b := 0) (by omega) (by omega) c38
                    refine lv_iload_n hx hb dX12_near_161 rfl (lv_at hl 3 rfl) ?_
                    refine lv_goto (tgt := 176) hx hb dX12_near_162 (by decide) ?_
                    replace hR30 : fX12_near_0b176 y30_l2 s31 = R := hR30
                    subst hPQ
                    exact x_iret E h ⟨hR0.trans hR30.symm, hI31, hF31⟩ dX12_near_176
              refine lv_icmp_lt (tgt := 148) hx hb dX12_near_100 (by decide) (fun c28 => ?_) (fun c28 => ?_)
              · skip
                replace hR13 := it_t hR13 c28
                exact j148_30 i13_4 i13_3 i13_2 hR13 _ _ _ h (lv_sub hl [0, 1, 2, 3, 4, 5] rfl)
              · skip
                replace hR13 := it_f hR13 c28
                refine lv_aload_n hx hb dX12_near_103 rfl (lv_at hl 4 rfl) ?_
                refine x_getR E h (fr_mo_heap g) rfl hwX12 (by decide) (by decide +kernel) dX12_near_104 ?_
                refine lv_aload_n hx hb dX12_near_107 rfl (lv_at hl 4 rfl) ?_
                refine x_getI E h (fi_mo_pieces g) rfl hwX12 (by decide) (by decide +kernel) (v := nI m5_0P) e14 dX12_near_108 ?_
                replace hR13 := bd_to hR13 e14
                refine x_si E h (na := 2) (As := [.ref (g.2.1 99), .int (nI m5_0P)]) (aX12_heapsIn_0 l g t13 hI_13 m5_0P (by omega) hp_13) gX12_near_X12_heapsIn rfl ⟨rfl, rfl⟩ rfl (by decide +kernel) ⟨Nat.le_of_ble_eq_true rfl, Nat.le_of_ble_eq_true rfl⟩ hl.1 rfl (Nat.le_of_ble_eq_true rfl) dX12_near_111 ⟨Nat.le_of_ble_eq_true rfl, Nat.le_of_ble_eq_true rfl⟩ (fun r45 s45 H locs q45 h => ?_)
                obtain ⟨x45, d45, rfl⟩ := q45
                replace hR13 := bd_to hR13 x45
                rcases d45 with ⟨m45_0n, u45_0_0, rfl⟩
                refine lv_istore (lv' := [(6, .int (nI m45_0n)), (5, .int i13_5), (4, .int i13_4), (3, .int i13_3), (2, .int i13_2), (0, .ref (g.2.1 79)), (1, .int (nI n2))]) hx hb dX12_near_114 hl (by decide) rfl (fun ls hl => ?_)
                obtain ⟨z46, e46⟩ : ∃ y : Int32, y = i13_2 + 1 := ⟨_, rfl⟩
                replace hR13 := bd_to hR13 e46.symm
                refine lv_iinc (v := z46) (lv' := [(2, .int z46), (6, .int (nI m45_0n)), (5, .int i13_5), (4, .int i13_4), (3, .int i13_3), (0, .ref (g.2.1 79)), (1, .int (nI n2))]) hx hb dX12_near_116 hl (k := 4) rfl e46.symm (by decide) rfl (fun ls hl => ?_)
                refine lv_iload hx hb dX12_near_119 (lv_at hl 1 rfl) ?_
                refine lv_iload_n hx hb dX12_near_121 rfl (lv_at hl 4 rfl) ?_
                have j131_49 : ∀ (y49_s0 : Int32), fX12_near_0b131 (fX12_near_0l76 fu13) (nI n2) z46 i13_4 (nI m45_0n) y49_s0 t13 = R → ∀ (H : Heap) (locs : List Loc) (ls : Array Slot), HW g t13 s H locs → lv_has ls 7 [(2, .int z46), (6, .int (nI m45_0n)), (5, .int i13_5), (4, .int i13_4), (3, .int i13_3), (0, .ref (g.2.1 79)), (1, .int (nI n2))] → W p l e { frames := 5, cells := 0, slots := 0, locals := 119 } s m args below meth c H locs 0 0 (MQ below PQz args s 0 0 (Aw g)) (F0 m 131 ls [.int y49_s0]) := by
                  intro y49_s0 hR49 H locs ls h hl
                  refine lv_istore_n (lv' := [(3, .int y49_s0), (2, .int z46), (6, .int (nI m45_0n)), (5, .int i13_5), (4, .int i13_4), (0, .ref (g.2.1 79)), (1, .int (nI n2))]) hx hb dX12_near_131 rfl hl (by decide) rfl (fun ls hl => ?_)
                  refine lv_iload hx hb dX12_near_132 (lv_at hl 2 rfl) ?_
                  refine lv_iload hx hb dX12_near_134 (lv_at hl 4 rfl) ?_
                  have j146_52 : ∀ (y52_s0 : Int32), fX12_near_0b146 (fX12_near_0l76 fu13) (nI n2) z46 y49_s0 y52_s0 t13 = R → ∀ (H : Heap) (locs : List Loc) (ls : Array Slot), HW g t13 s H locs → lv_has ls 7 [(3, .int y49_s0), (2, .int z46), (6, .int (nI m45_0n)), (5, .int i13_5), (4, .int i13_4), (0, .ref (g.2.1 79)), (1, .int (nI n2))] → W p l e { frames := 5, cells := 0, slots := 0, locals := 119 } s m args below meth c H locs 0 0 (MQ below PQz args s 0 0 (Aw g)) (F0 m 146 ls [.int y52_s0]) := by
                    intro y52_s0 hR52 H locs ls h hl
                    refine lv_istore (lv' := [(4, .int y52_s0), (3, .int y49_s0), (2, .int z46), (6, .int (nI m45_0n)), (5, .int i13_5), (0, .ref (g.2.1 79)), (1, .int (nI n2))]) hx hb dX12_near_146 hl (by decide) rfl (fun ls hl => ?_)
                    exact j148_30 y52_s0 y49_s0 z46 hR52 _ _ _ h (lv_sub hl [4, 0, 1, 2, 5, 6] rfl)
                  refine lv_icmp_le (tgt := 144) hx hb dX12_near_136 (by decide) (fun c50 => ?_) (fun c50 => ?_)
                  · skip
                    replace hR49 := it_t hR49 c50
                    refine lv_iload hx hb dX12_near_144 (lv_at hl 4 rfl) ?_
                    exact j146_52 i13_4 hR49 _ _ _ h (lv_sub hl [0, 1, 2, 3, 4, 5, 6] rfl)
                  · skip
                    replace hR49 := it_f hR49 c50
                    refine lv_iload hx hb dX12_near_139 (lv_at hl 2 rfl) ?_
                    refine lv_goto (tgt := 146) hx hb dX12_near_141 (by decide) ?_
                    exact j146_52 (nI m45_0n) hR49 _ _ _ h (lv_sub hl [0, 1, 2, 3, 4, 5, 6] rfl)
                refine lv_icmp_ge (tgt := 130) hx hb dX12_near_122 (by decide) (fun c47 => ?_) (fun c47 => ?_)
                · skip
                  replace hR13 := it_t hR13 c47
                  refine lv_iload_n hx hb dX12_near_130 rfl (lv_at hl 4 rfl) ?_
                  exact j131_49 i13_3 hR13 _ _ _ h (lv_sub hl [0, 1, 2, 3, 4, 5, 6] rfl)
                · skip
                  replace hR13 := it_f hR13 c47
                  refine lv_iload hx hb dX12_near_125 (lv_at hl 1 rfl) ?_
                  refine lv_goto (tgt := 131) hx hb dX12_near_127 (by decide) ?_
                  exact j131_49 (nI m45_0n) hR13 _ _ _ h (lv_sub hl [0, 1, 2, 3, 4, 5, 6] rfl)
        exact loop76_13 1000000002 s9 1 (-1) 10 0 hI9 hF9 e10 e11 u9_0_0 hR (by omega) _ _ _ h (lv_sub hl [0, 1, 2, 3, 4, 5] rfl)
      · skip
        replace hR := it_f hR c7
        have b55 : 2 < n2 := y_nle (a := n2) (b := 2) (by omega) (by omega) c7
        refine lv_aload_n hx hb dX12_near_26 rfl (lv_at hl 0 rfl) ?_
        refine x_vv E h (na := 0) (As := []) (aX12_join_0 l g s5 hI5 m5_0P u5_0_0 (by omega)) (oc_mo g) rfl gX12_near_X12_join rfl ⟨rfl, rfl⟩ rfl (by decide +kernel) ⟨Nat.le_of_ble_eq_true rfl, Nat.le_of_ble_eq_true rfl⟩ hl.1 rfl (Nat.le_of_ble_eq_true rfl) dX12_near_27 ⟨Nat.le_of_ble_eq_true rfl, Nat.le_of_ble_eq_true rfl⟩ (fun s56 H locs q56 h => ?_)
        obtain ⟨x56, hI56, f56⟩ := q56
        replace hR := bd_to hR x56
        have hF56 := hF5.call f56 (I := [(35, 39)]) (J := [(75, 88)]) rfl rfl
        have e57 : s56.1 35 = nI m5_0P := ((f56.1 35 rfl)).trans u5_0_0
        have e58 : s56.1 31 = nI m5_0R := ((f56.1 31 rfl)).trans u5_0_1
        have a59 := AP.eq u5_0_4 (f56.2 77 rfl)
        refine lv_iload_n hx hb dX12_near_30 rfl (lv_at hl 1 rfl) ?_
        refine lv_iconst (v := 3) hx hb dX12_near_31 (by decide) ?_
        refine lv_icmp_ne (tgt := 49) hx hb dX12_near_32 (by decide) (fun c60 => ?_) (fun c60 => ?_)
        · skip
          replace hR := it_f hR c60
          have b61 : ¬ n2 = 3 := y_ne (a := n2) (b := 3) (by omega) (by omega) c60
          refine lv_aload_n hx hb dX12_near_49 rfl (lv_at hl 0 rfl) ?_
          refine x_getR E h (fr_mo_joined g) rfl hwX12 (by decide) (by decide +kernel) dX12_near_50 ?_
          refine lv_aload_n hx hb dX12_near_53 rfl (lv_at hl 0 rfl) ?_
          refine x_getI E h (fi_mo_pieces g) rfl hwX12 (by decide) (by decide +kernel) (v := nI m5_0P) e57 dX12_near_54 ?_
          replace hR := bd_to hR e57
          refine x_si E h (na := 2) (As := [.ref (g.2.1 101), .int (nI m5_0P)]) (aX12_heapsIn_1 l g s56 hI56 m5_0P (by omega)) gX12_near_X12_heapsIn rfl ⟨rfl, rfl⟩ rfl (by decide +kernel) ⟨Nat.le_of_ble_eq_true rfl, Nat.le_of_ble_eq_true rfl⟩ hl.1 rfl (Nat.le_of_ble_eq_true rfl) dX12_near_57 ⟨Nat.le_of_ble_eq_true rfl, Nat.le_of_ble_eq_true rfl⟩ (fun r62 s62 H locs q62 h => ?_)
          obtain ⟨x62, d62, rfl⟩ := q62
          replace hR := bd_to hR x62
          rcases d62 with ⟨m62_0n, u62_0_0, rfl⟩
          subst hPQ
          exact x_iret E h ⟨hR0.trans hR.symm, hI56, hF56⟩ dX12_near_60
        · skip
          replace hR := it_t hR c60
          have b63 : n2 = 3 := y_eq (a := n2) (b := 3) (by omega) (by omega) c60
          refine lv_aload_n hx hb dX12_near_35 rfl (lv_at hl 0 rfl) ?_
          refine x_getR E h (fr_mo_best g) rfl hwX12 (by decide) (by decide +kernel) dX12_near_36 ?_
          refine lv_aload_n hx hb dX12_near_39 rfl (lv_at hl 0 rfl) ?_
          refine x_getI E h (fi_mo_pieces g) rfl hwX12 (by decide) (by decide +kernel) (v := nI m5_0P) e57 dX12_near_40 ?_
          replace hR := bd_to hR e57
          refine x_si E h (na := 2) (As := [.ref (g.2.1 100), .int (nI m5_0P)]) (aX12_heapsIn_2 l g s56 hI56 m5_0P (by omega)) gX12_near_X12_heapsIn rfl ⟨rfl, rfl⟩ rfl (by decide +kernel) ⟨Nat.le_of_ble_eq_true rfl, Nat.le_of_ble_eq_true rfl⟩ hl.1 rfl (Nat.le_of_ble_eq_true rfl) dX12_near_43 ⟨Nat.le_of_ble_eq_true rfl, Nat.le_of_ble_eq_true rfl⟩ (fun r64 s64 H locs q64 h => ?_)
          obtain ⟨x64, d64, rfl⟩ := q64
          replace hR := bd_to hR x64
          rcases d64 with ⟨m64_0n, u64_0_0, rfl⟩
          refine lv_goto (tgt := 60) hx hb dX12_near_46 (by decide) ?_
          subst hPQ
          exact x_iret E h ⟨hR0.trans hR.symm, hI56, hF56⟩ dX12_near_60
    · skip
      replace hR := it_t hR (by decide)
      refine lv_if_ne (tgt := 21) hx hb dX12_near_15 (by decide) (fun c => absurd (by decide) c) (fun _ => ?_)
      refine lv_bipush (v := (-2)) hx hb dX12_near_18 (by decide) ?_
      subst hPQ
      exact x_iret E h ⟨hR0.trans hR.symm, hI5, hF5⟩ dX12_near_20
  · skip
    replace hR := it_t hR (by decide)
    refine lv_if_ne (tgt := 11) hx hb dX12_near_6 (by decide) (fun c => absurd (by decide) c) (fun _ => ?_)
    refine lv_iconst (v := (-1)) hx hb dX12_near_9 (by decide) ?_
    subst hPQ
    exact x_iret E h ⟨hR0.trans hR.symm, hI, hF⟩ dX12_near_10
set_option maxHeartbeats 4000000 in
set_option maxRecDepth 100000 in
theorem aX12_sure_0 (l : Launch) (g : CX) (σ : ST) (hI : INV σ) (p1 : Int32) (p2 : Int32) : XM l g yX12_sure wsX12_sure { frames := 5, cells := 0, slots := 0, locals := 119 } [.ref (g.2.1 79), .int p1, .int p2] σ (XQi g (fun r σ' => fX12_sure_0 p1 p2 σ = (r, σ') ∧ INV σ' ∧ Fr [(35, 39)] [(75, 86), (88, 88)] σ σ')) := by
  refine x_met (own := RX12) (cc := cX12_sure) (maxL := 6) (ret := (some .int)) (lv := [(0, .ref (g.2.1 79)), (1, .int p1), (2, .int p2)]) (by decide) rfl rfl (Nat.le_of_ble_eq_true rfl) rfl ?_
  intro p e s m args below meth c ls E h hl
  have hx := E.1
  have hb := E.2.1
  have hown := E.2.2.2.1
  have hts := E.2.2.2.2.1
  have hF : Fr [(35, 39)] [(75, 86), (88, 88)] σ σ := Fr.refl σ
  obtain ⟨R, hR0⟩ : ∃ R, fX12_sure_0 p1 p2 σ = R := ⟨_, rfl⟩
  have hR : fX12_sure_0b0 p1 p2 σ = R := hR0
  have hwX12 : ∀ w ∈ wsX120, w ∈ wsX12_sure := by decide +kernel
  generalize hPQ : XQi g (fun r σ' => fX12_sure_0 p1 p2 σ = (r, σ') ∧ INV σ' ∧ Fr [(35, 39)] [(75, 86), (88, 88)] σ σ') = PQz
  refine lv_aload_n hx hb dX12_sure_0 rfl (lv_at hl 0 rfl) ?_
  refine x_vv E h (na := 0) (As := []) (aX12_findPieces_0 l g σ hI) (oc_mo g) rfl gX12_sure_X12_findPieces rfl ⟨rfl, rfl⟩ rfl (by decide +kernel) ⟨Nat.le_of_ble_eq_true rfl, Nat.le_of_ble_eq_true rfl⟩ hl.1 rfl (Nat.le_of_ble_eq_true rfl) dX12_sure_1 ⟨Nat.le_of_ble_eq_true rfl, Nat.le_of_ble_eq_true rfl⟩ (fun s1 H locs q1 h => ?_)
  obtain ⟨x1, d1, hI1, f1⟩ := q1
  replace hR := bd_to hR x1
  have hF1 := hF.call f1 (I := [(35, 39)]) (J := [(75, 86), (88, 88)]) rfl rfl
  have a2 : s1.2.2 68 = σ.2.2 68 := (f1.2 68 rfl).trans rfl
  have a3 : s1.2.2 69 = σ.2.2 69 := (f1.2 69 rfl).trans rfl
  have a4 : s1.2.2 70 = σ.2.2 70 := (f1.2 70 rfl).trans rfl
  have a5 : s1.2.2 66 = σ.2.2 66 := (f1.2 66 rfl).trans rfl
  rcases d1 with ⟨m1_0P, m1_0R, u1_0_0, u1_0_1, u1_0_2, u1_0_3, u1_0_4, u1_0_5⟩
  have fp6 : m1_0P = FPn (σ.2.2 68) (σ.2.2 69) (σ.2.2 70) (σ.2.2 66) m1_0R := u1_0_5
  refine lv_aload_n hx hb dX12_sure_4 rfl (lv_at hl 0 rfl) ?_
  refine lv_iload_n hx hb dX12_sure_5 rfl (lv_at hl 1 rfl) ?_
  refine x_vi E h (na := 1) (As := [.int p1]) (aX12_isPiece_0 l g s1 hI1 p1) (oc_mo g) rfl gX12_sure_X12_isPiece rfl ⟨rfl, rfl⟩ rfl (by decide +kernel) ⟨Nat.le_of_ble_eq_true rfl, Nat.le_of_ble_eq_true rfl⟩ hl.1 rfl (Nat.le_of_ble_eq_true rfl) dX12_sure_6 ⟨Nat.le_of_ble_eq_true rfl, Nat.le_of_ble_eq_true rfl⟩ (fun r7 s7 H locs q7 h => ?_)
  obtain ⟨x7, d7, rfl⟩ := q7
  replace hR := bd_to hR x7
  rcases d7 with ⟨rfl, m7_0n, m7_0P, u7_0_0, u7_0_1, u7_0_2, rfl⟩ | rfl
  · skip
    obtain rfl : m1_0P = m7_0P := y_eq (by omega) (by omega) ((u1_0_0).symm.trans u7_0_0)
    replace hR := it_f hR (by decide)
    refine lv_if_eq (tgt := 25) hx hb dX12_sure_9 (by decide) (fun c => absurd c (by decide)) (fun _ => ?_)
    refine lv_aload_n hx hb dX12_sure_12 rfl (lv_at hl 0 rfl) ?_
    refine lv_iload_n hx hb dX12_sure_13 rfl (lv_at hl 2 rfl) ?_
    refine x_vi E h (na := 1) (As := [.int p2]) (aX12_isPiece_0 l g s1 hI1 p2) (oc_mo g) rfl gX12_sure_X12_isPiece rfl ⟨rfl, rfl⟩ rfl (by decide +kernel) ⟨Nat.le_of_ble_eq_true rfl, Nat.le_of_ble_eq_true rfl⟩ hl.1 rfl (Nat.le_of_ble_eq_true rfl) dX12_sure_14 ⟨Nat.le_of_ble_eq_true rfl, Nat.le_of_ble_eq_true rfl⟩ (fun r8 s8 H locs q8 h => ?_)
    obtain ⟨x8, d8, rfl⟩ := q8
    replace hR := bd_to hR x8
    rcases d8 with ⟨rfl, m8_0n, m8_0P, u8_0_0, u8_0_1, u8_0_2, rfl⟩ | rfl
    · skip
      obtain rfl : m1_0P = m8_0P := y_eq (by omega) (by omega) ((u1_0_0).symm.trans u8_0_0)
      replace hR := it_f hR (by decide)
      refine lv_if_eq (tgt := 25) hx hb dX12_sure_17 (by decide) (fun c => absurd c (by decide)) (fun _ => ?_)
      refine lv_iload_n hx hb dX12_sure_20 rfl (lv_at hl 1 rfl) ?_
      refine lv_iload_n hx hb dX12_sure_21 rfl (lv_at hl 2 rfl) ?_
      refine lv_icmp_ne (tgt := 27) hx hb dX12_sure_22 (by decide) (fun c9 => ?_) (fun c9 => ?_)
      · skip
        replace hR := it_f hR c9
        have b10 : ¬ m7_0n = m8_0n := y_ne (a := m7_0n) (b := m8_0n) (by omega) (by omega) c9
        refine lv_aload_n hx hb dX12_sure_27 rfl (lv_at hl 0 rfl) ?_
        refine x_vi E h (na := 0) (As := []) (aX12_findBest_0 l g s1 hI1) (oc_mo g) rfl gX12_sure_X12_findBest rfl ⟨rfl, rfl⟩ rfl (by decide +kernel) ⟨Nat.le_of_ble_eq_true rfl, Nat.le_of_ble_eq_true rfl⟩ hl.1 rfl (Nat.le_of_ble_eq_true rfl) dX12_sure_28 ⟨Nat.le_of_ble_eq_true rfl, Nat.le_of_ble_eq_true rfl⟩ (fun r11 s11 H locs q11 h => ?_)
        obtain ⟨x11, d11, hI11, f11⟩ := q11
        replace hR := bp_to hR x11
        have hF11 := hF1.call f11 (I := [(35, 39)]) (J := [(75, 86), (88, 88)]) rfl rfl
        have e12 : s11.1 31 = nI m1_0R := ((f11.1 31 rfl)).trans u1_0_1
        have a13 : s11.2.2 68 = σ.2.2 68 := (f11.2 68 rfl).trans a2
        have a14 : s11.2.2 69 = σ.2.2 69 := (f11.2 69 rfl).trans a3
        have a15 : s11.2.2 70 = σ.2.2 70 := (f11.2 70 rfl).trans a4
        have a16 : s11.2.2 66 = σ.2.2 66 := (f11.2 66 rfl).trans a5
        rcases d11 with ⟨rfl, m11_0P, m11_0R, u11_0_0, u11_0_1, u11_0_2, u11_0_3, u11_0_4, u11_0_5⟩ | rfl
        · skip
          obtain rfl : m1_0R = m11_0R := y_eq (by omega) (by omega) ((e12).symm.trans u11_0_1)
          have fp18 : m11_0P = FPn (σ.2.2 68) (σ.2.2 69) (σ.2.2 70) (σ.2.2 66) m1_0R := by have h9 := u11_0_5; rw [a2, a3, a4, a5] at h9; exact h9
          replace hR := it_f hR (by decide)
          refine lv_if_ne (tgt := 37) hx hb dX12_sure_31 (by decide) (fun _ => ?_) (fun c => absurd c (by decide))
          refine lv_iconst (v := 0) hx hb dX12_sure_37 (by decide) ?_
          refine lv_istore_n (lv' := [(3, .int 0), (0, .ref (g.2.1 79)), (1, .int (nI m7_0n)), (2, .int (nI m8_0n))]) hx hb dX12_sure_38 rfl hl (by decide) rfl (fun ls hl => ?_)
          refine lv_iconst (v := 0) hx hb dX12_sure_39 (by decide) ?_
          refine lv_istore (lv' := [(4, .int 0), (3, .int 0), (0, .ref (g.2.1 79)), (1, .int (nI m7_0n)), (2, .int (nI m8_0n))]) hx hb dX12_sure_40 hl (by decide) rfl (fun ls hl => ?_)
          refine lv_aload_n hx hb dX12_sure_42 rfl (lv_at hl 2 rfl) ?_
          refine x_vv E h (na := 0) (As := []) (aX12_begin_0 l g s11 hI11) (oc_mo g) rfl gX12_sure_X12_begin rfl ⟨rfl, rfl⟩ rfl (by decide +kernel) ⟨Nat.le_of_ble_eq_true rfl, Nat.le_of_ble_eq_true rfl⟩ hl.1 rfl (Nat.le_of_ble_eq_true rfl) dX12_sure_43 ⟨Nat.le_of_ble_eq_true rfl, Nat.le_of_ble_eq_true rfl⟩ (fun s19 H locs q19 h => ?_)
          obtain ⟨x19, d19, hI19, f19⟩ := q19
          replace hR := bd_to hR x19
          have hF19 := hF11.call f19 (I := [(35, 39)]) (J := [(75, 86), (88, 88)]) rfl rfl
          have e20 : s19.1 31 = nI m1_0R := ((f19.1 31 rfl)).trans e12
          have e21 : s19.1 35 = nI m11_0P := ((f19.1 35 rfl)).trans u11_0_0
          have a22 : s19.2.2 68 = σ.2.2 68 := (f19.2 68 rfl).trans a13
          have a23 : s19.2.2 69 = σ.2.2 69 := (f19.2 69 rfl).trans a14
          have a24 : s19.2.2 70 = σ.2.2 70 := (f19.2 70 rfl).trans a15
          have a25 : s19.2.2 66 = σ.2.2 66 := (f19.2 66 rfl).trans a16
          have a26 := AP.eq u11_0_4 (f19.2 77 rfl)
          have u19_0_0 := d19
          refine lv_iconst (v := 1) hx hb dX12_sure_46 (by decide) ?_
          refine lv_istore (lv' := [(5, .int 1), (4, .int 0), (3, .int 0), (0, .ref (g.2.1 79)), (1, .int (nI m7_0n)), (2, .int (nI m8_0n))]) hx hb dX12_sure_47 hl (by decide) rfl (fun ls hl => ?_)
          have loop49_27 : ∀ (fu : Nat) (t27 : ST) (i27_5 : Int32) (i27_4 : Int32) (i27_3 : Int32), INV t27 → Fr [(35, 39)] [(75, 86), (88, 88)] σ t27 → t27.1 31 = nI m1_0R → t27.1 35 = nI m11_0P → AP (t27.2.2 85) 0 10 HQ → fX12_sure_0l49 fu (nI m7_0n) (nI m8_0n) i27_3 i27_4 i27_5 t27 = R → 1000000000 - hv (t27.2.2 85) m11_0P + 1 < fu → ∀ (H : Heap) (locs : List Loc) (ls : Array Slot), HW g t27 s H locs → lv_has ls 6 [(5, .int i27_5), (4, .int i27_4), (3, .int i27_3), (0, .ref (g.2.1 79)), (1, .int (nI m7_0n)), (2, .int (nI m8_0n))] → W p l e { frames := 5, cells := 0, slots := 0, locals := 119 } s m args below meth c H locs 0 0 (MQ below PQz args s 0 0 (Aw g)) (F0 m 49 ls []) := by
            intro fu27
            induction fu27 with
            | zero => intro t27 i27_5 i27_4 i27_3 hI_27 hF_27 e28 e29 hp_27 hR27 hm; exact absurd hm (Nat.not_lt_zero _)
            | succ fu27 ih =>
              have ih27 := ih
              clear ih
              intro t27 i27_5 i27_4 i27_3 hI_27 hF_27 e28 e29 hp_27 hR27 hm27 H locs ls h hl
              replace hR27 : fX12_sure_0b49 (fX12_sure_0l49 fu27) (nI m7_0n) (nI m8_0n) i27_3 i27_4 i27_5 t27 = R := hR27
              refine lv_iload hx hb dX12_sure_49 (lv_at hl 0 rfl) ?_
              refine lv_if_eq (tgt := 137) hx hb dX12_sure_51 (by decide) (fun c30 => ?_) (fun c30 => ?_)
              · skip
                replace hR27 := it_t hR27 c30
                subst c30
                refine lv_iload hx hb dX12_sure_137 (lv_at hl 1 rfl) ?_
                refine lv_if_ne (tgt := 146) hx hb dX12_sure_139 (by decide) (fun c32 => ?_) (fun c32 => ?_)
                · skip
                  replace hR27 := it_f hR27 c32
                  refine lv_iload_n hx hb dX12_sure_146 rfl (lv_at hl 2 rfl) ?_
                  refine lv_if_ne (tgt := 154) hx hb dX12_sure_147 (by decide) (fun c34 => ?_) (fun c34 => ?_)
                  · skip
                    replace hR27 := it_f hR27 c34
                    refine lv_iconst (v := 2) hx hb dX12_sure_154 (by decide) ?_
                    replace hR27 : fX12_sure_0b155 2 t27 = R := hR27
                    subst hPQ
                    exact x_iret E h ⟨hR0.trans hR27.symm, hI_27, hF_27⟩ dX12_sure_155
                  · skip
                    replace hR27 := it_t hR27 c34
                    subst c34
                    refine lv_iconst (v := 0) hx hb dX12_sure_150 (by decide) ?_
                    refine lv_goto (tgt := 155) hx hb dX12_sure_151 (by decide) ?_
                    replace hR27 : fX12_sure_0b155 0 t27 = R := hR27
                    subst hPQ
                    exact x_iret E h ⟨hR0.trans hR27.symm, hI_27, hF_27⟩ dX12_sure_155
                · skip
                  replace hR27 := it_t hR27 c32
                  subst c32
                  refine lv_iconst (v := 1) hx hb dX12_sure_142 (by decide) ?_
                  refine lv_goto (tgt := 155) hx hb dX12_sure_143 (by decide) ?_
                  replace hR27 : fX12_sure_0b155 1 t27 = R := hR27
                  subst hPQ
                  exact x_iret E h ⟨hR0.trans hR27.symm, hI_27, hF_27⟩ dX12_sure_155
              · skip
                replace hR27 := it_f hR27 c30
                refine lv_aload_n hx hb dX12_sure_54 rfl (lv_at hl 3 rfl) ?_
                refine lv_aload_n hx hb dX12_sure_55 rfl (lv_at hl 3 rfl) ?_
                refine x_getR E h (fr_mo_heap g) rfl hwX12 (by decide) (by decide +kernel) dX12_sure_56 ?_
                refine x_vi E h (na := 1) (As := [.ref (g.2.1 99)]) (aX12_worthOf_0 l g t27 hI_27 m11_0P e29 (by omega)) (oc_mo g) rfl gX12_sure_X12_worthOf rfl ⟨rfl, rfl⟩ rfl (by decide +kernel) ⟨Nat.le_of_ble_eq_true rfl, Nat.le_of_ble_eq_true rfl⟩ hl.1 rfl (Nat.le_of_ble_eq_true rfl) dX12_sure_59 ⟨Nat.le_of_ble_eq_true rfl, Nat.le_of_ble_eq_true rfl⟩ (fun r39 s39 H locs q39 h => ?_)
                obtain ⟨x39, rfl⟩ := q39
                replace hR27 := bd_to hR27 x39
                refine lv_aload_n hx hb dX12_sure_62 rfl (lv_at hl 3 rfl) ?_
                obtain ⟨x40, e40⟩ : ∃ x, t27.1 39 = x := ⟨_, rfl⟩
                refine x_getI E h (fi_mo_bestWorth g) rfl hwX12 (by decide) (by decide +kernel) (v := x40) e40 dX12_sure_63 ?_
                replace hR27 := bd_to hR27 e40
                refine lv_aload_n hx hb dX12_sure_66 rfl (lv_at hl 3 rfl) ?_
                refine x_getR E h (fr_mo_rule g) rfl hwX12 (by decide) (by decide +kernel) dX12_sure_67 ?_
                refine lv_iconst (v := 3) hx hb dX12_sure_70 (by decide) ?_
                refine x_ldI E h (ia_mo_rule g) (i := nI 3) (vp_in_nI (by omega) (by decide)) (v := t27.2.2 66 3) (congrArg (t27.2.2 66) (nI_clamp (n := 3) (by omega))) dX12_sure_71 ?_
                replace hR27 := bd_to hR27 (congrArg (t27.2.2 66) (nI_clamp (n := 3) (by omega)))
                refine lv_isub hx hb dX12_sure_72 ?_
                refine lv_topi (fun x41 e41 => ?_)
                replace hR27 := bd_to hR27 e41.symm
                have j128_44 : ∀ (y44_l4 : Int32) (y44_l3 : Int32), fX12_sure_0b128 (fX12_sure_0l49 fu27) (nI m7_0n) (nI m8_0n) y44_l3 y44_l4 t27 = R → ∀ (H : Heap) (locs : List Loc) (ls : Array Slot), HW g t27 s H locs → lv_has ls 6 [(5, .int i27_5), (4, .int y44_l4), (3, .int y44_l3), (0, .ref (g.2.1 79)), (1, .int (nI m7_0n)), (2, .int (nI m8_0n))] → W p l e { frames := 5, cells := 0, slots := 0, locals := 119 } s m args below meth c H locs 0 0 (MQ below PQz args s 0 0 (Aw g)) (F0 m 128 ls []) := by
                  intro y44_l4 y44_l3 hR44 H locs ls h hl
                  refine lv_aload_n hx hb dX12_sure_128 rfl (lv_at hl 3 rfl) ?_
                  refine x_vi E h (na := 0) (As := []) (aX12_goOn_0 l g t27 hI_27 m11_0P e29 (by omega) hp_27) (oc_mo g) rfl gX12_sure_X12_goOn rfl ⟨rfl, rfl⟩ rfl (by decide +kernel) ⟨Nat.le_of_ble_eq_true rfl, Nat.le_of_ble_eq_true rfl⟩ hl.1 rfl (Nat.le_of_ble_eq_true rfl) dX12_sure_129 ⟨Nat.le_of_ble_eq_true rfl, Nat.le_of_ble_eq_true rfl⟩ (fun r45 s45 H locs q45 h => ?_)
                  obtain ⟨x45, d45, hI45, f45⟩ := q45
                  replace hR44 := bp_to hR44 x45
                  have hF45 := hF_27.call f45 (I := [(35, 39)]) (J := [(75, 86), (88, 88)]) rfl rfl
                  have e46 : s45.1 31 = nI m1_0R := ((f45.1 31 rfl)).trans e28
                  have e47 : s45.1 35 = nI m11_0P := ((f45.1 35 rfl)).trans e29
                  have e48 : s45.1 39 = x40 := ((f45.1 39 rfl)).trans e40
                  rcases d45 with ⟨rfl, u45_0_0⟩ | rfl
                  · skip
                    have u50 : hv (t27.2.2 85) m11_0P < hv (s45.2.2 85) m11_0P := by have h9 := u45_0_0.2; exact h9
                    refine lv_istore (lv' := [(5, .int 1), (4, .int y44_l4), (3, .int y44_l3), (0, .ref (g.2.1 79)), (1, .int (nI m7_0n)), (2, .int (nI m8_0n))]) hx hb dX12_sure_132 hl (by decide) rfl (fun ls hl => ?_)
                    refine lv_goto (tgt := 49) hx hb dX12_sure_134 (by decide) ?_
                    exact ih27 s45 1 y44_l4 y44_l3 hI45 hF45 e46 e47 u45_0_0.1 hR44 (by have h1 := u50; have h2 := hv_bd u45_0_0.1 (P := m11_0P) (by omega); have h3 := hm27; omega) _ _ _ h (lv_sub hl [0, 1, 2, 3, 4, 5] rfl)
                  · skip
                    refine lv_istore (lv' := [(5, .int 0), (4, .int y44_l4), (3, .int y44_l3), (0, .ref (g.2.1 79)), (1, .int (nI m7_0n)), (2, .int (nI m8_0n))]) hx hb dX12_sure_132 hl (by decide) rfl (fun ls hl => ?_)
                    refine lv_goto (tgt := 49) hx hb dX12_sure_134 (by decide) ?_
                    obtain ⟨fu51, rfl⟩ : ∃ z, fu27 = z + 1 := ⟨fu27 - 1, by omega⟩
                    replace hR44 : fX12_sure_0b49 (fX12_sure_0l49 fu51) (nI m7_0n) (nI m8_0n) y44_l3 y44_l4 0 s45 = R := hR44
                    refine lv_iload hx hb dX12_sure_49 (lv_at hl 0 rfl) ?_
                    replace hR44 := it_t hR44 (by decide)
                    refine lv_if_eq (tgt := 137) hx hb dX12_sure_51 (by decide) (fun _ => ?_) (fun c => absurd (by decide) c)
                    refine lv_iload hx hb dX12_sure_137 (lv_at hl 1 rfl) ?_
                    refine lv_if_ne (tgt := 146) hx hb dX12_sure_139 (by decide) (fun c52 => ?_) (fun c52 => ?_)
                    · skip
                      replace hR44 := it_f hR44 c52
                      refine lv_iload_n hx hb dX12_sure_146 rfl (lv_at hl 2 rfl) ?_
                      refine lv_if_ne (tgt := 154) hx hb dX12_sure_147 (by decide) (fun c54 => ?_) (fun c54 => ?_)
                      · skip
                        replace hR44 := it_f hR44 c54
                        refine lv_iconst (v := 2) hx hb dX12_sure_154 (by decide) ?_
                        replace hR44 : fX12_sure_0b155 2 s45 = R := hR44
                        subst hPQ
                        exact x_iret E h ⟨hR0.trans hR44.symm, hI45, hF45⟩ dX12_sure_155
                      · skip
                        replace hR44 := it_t hR44 c54
                        subst c54
                        refine lv_iconst (v := 0) hx hb dX12_sure_150 (by decide) ?_
                        refine lv_goto (tgt := 155) hx hb dX12_sure_151 (by decide) ?_
                        replace hR44 : fX12_sure_0b155 0 s45 = R := hR44
                        subst hPQ
                        exact x_iret E h ⟨hR0.trans hR44.symm, hI45, hF45⟩ dX12_sure_155
                    · skip
                      replace hR44 := it_t hR44 c52
                      subst c52
                      refine lv_iconst (v := 1) hx hb dX12_sure_142 (by decide) ?_
                      refine lv_goto (tgt := 155) hx hb dX12_sure_143 (by decide) ?_
                      replace hR44 : fX12_sure_0b155 1 s45 = R := hR44
                      subst hPQ
                      exact x_iret E h ⟨hR0.trans hR44.symm, hI45, hF45⟩ dX12_sure_155
                refine lv_icmp_lt (tgt := 128) hx hb dX12_sure_73 (by decide) (fun c42 => ?_) (fun c42 => ?_)
                · skip
                  replace hR27 := it_t hR27 c42
                  exact j128_44 i27_4 i27_3 hR27 _ _ _ h (lv_sub hl [0, 1, 2, 3, 4, 5] rfl)
                · skip
                  replace hR27 := it_f hR27 c42
                  refine lv_iload_n hx hb dX12_sure_76 rfl (lv_at hl 2 rfl) ?_
                  have j100_61 : ∀ (y61_s0 : Int32), fX12_sure_0b100 (fX12_sure_0l49 fu27) (nI m7_0n) (nI m8_0n) i27_4 y61_s0 t27 = R → ∀ (H : Heap) (locs : List Loc) (ls : Array Slot), HW g t27 s H locs → lv_has ls 6 [(5, .int i27_5), (4, .int i27_4), (3, .int i27_3), (0, .ref (g.2.1 79)), (1, .int (nI m7_0n)), (2, .int (nI m8_0n))] → W p l e { frames := 5, cells := 0, slots := 0, locals := 119 } s m args below meth c H locs 0 0 (MQ below PQz args s 0 0 (Aw g)) (F0 m 100 ls [.int y61_s0]) := by
                    intro y61_s0 hR61 H locs ls h hl
                    refine lv_istore_n (lv' := [(3, .int y61_s0), (5, .int i27_5), (4, .int i27_4), (0, .ref (g.2.1 79)), (1, .int (nI m7_0n)), (2, .int (nI m8_0n))]) hx hb dX12_sure_100 rfl hl (by decide) rfl (fun ls hl => ?_)
                    refine lv_iload hx hb dX12_sure_101 (lv_at hl 2 rfl) ?_
                    have j126_64 : ∀ (y64_s0 : Int32), fX12_sure_0b126 (fX12_sure_0l49 fu27) (nI m7_0n) (nI m8_0n) y61_s0 y64_s0 t27 = R → ∀ (H : Heap) (locs : List Loc) (ls : Array Slot), HW g t27 s H locs → lv_has ls 6 [(3, .int y61_s0), (5, .int i27_5), (4, .int i27_4), (0, .ref (g.2.1 79)), (1, .int (nI m7_0n)), (2, .int (nI m8_0n))] → W p l e { frames := 5, cells := 0, slots := 0, locals := 119 } s m args below meth c H locs 0 0 (MQ below PQz args s 0 0 (Aw g)) (F0 m 126 ls [.int y64_s0]) := by
                      intro y64_s0 hR64 H locs ls h hl
                      refine lv_istore (lv' := [(4, .int y64_s0), (3, .int y61_s0), (5, .int i27_5), (0, .ref (g.2.1 79)), (1, .int (nI m7_0n)), (2, .int (nI m8_0n))]) hx hb dX12_sure_126 hl (by decide) rfl (fun ls hl => ?_)
                      exact j128_44 y64_s0 y61_s0 hR64 _ _ _ h (lv_sub hl [2, 0, 1, 3, 4, 5] rfl)
                    refine lv_if_ne (tgt := 121) hx hb dX12_sure_103 (by decide) (fun c62 => ?_) (fun c62 => ?_)
                    · skip
                      replace hR61 := it_f hR61 c62
                      refine lv_iconst (v := 1) hx hb dX12_sure_121 (by decide) ?_
                      refine lv_goto (tgt := 126) hx hb dX12_sure_122 (by decide) ?_
                      exact j126_64 1 hR61 _ _ _ h (lv_sub hl [0, 1, 2, 3, 4, 5] rfl)
                    · skip
                      replace hR61 := it_t hR61 c62
                      subst c62
                      refine lv_aload_n hx hb dX12_sure_106 rfl (lv_at hl 3 rfl) ?_
                      refine x_getR E h (fr_mo_heap g) rfl hwX12 (by decide) (by decide +kernel) dX12_sure_107 ?_
                      refine lv_iload_n hx hb dX12_sure_110 rfl (lv_at hl 4 rfl) ?_
                      obtain ⟨n66, b66, e66⟩ := hI_27.2 85 8 rfl m7_0n
                      have b67 := HQ.le (hp_27 m7_0n (Nat.zero_le _) (by omega)) e66 (by omega)
                      refine x_ldI E h (ia_mo_heap g) (i := nI m7_0n) (vp_in_nI (by omega) (by decide)) (v := nI n66) ((congrArg (t27.2.2 85) (nI_clamp (n := m7_0n) (by omega))).trans e66) dX12_sure_111 ?_
                      replace hR61 := bd_to hR61 ((congrArg (t27.2.2 85) (nI_clamp (n := m7_0n) (by omega))).trans e66)
                      refine lv_aload_n hx hb dX12_sure_112 rfl (lv_at hl 3 rfl) ?_
                      refine x_getR E h (fr_mo_heap g) rfl hwX12 (by decide) (by decide +kernel) dX12_sure_113 ?_
                      refine lv_iload_n hx hb dX12_sure_116 rfl (lv_at hl 5 rfl) ?_
                      obtain ⟨n68, b68, e68⟩ := hI_27.2 85 8 rfl m8_0n
                      have b69 := HQ.le (hp_27 m8_0n (Nat.zero_le _) (by omega)) e68 (by omega)
                      refine x_ldI E h (ia_mo_heap g) (i := nI m8_0n) (vp_in_nI (by omega) (by decide)) (v := nI n68) ((congrArg (t27.2.2 85) (nI_clamp (n := m8_0n) (by omega))).trans e68) dX12_sure_117 ?_
                      replace hR61 := bd_to hR61 ((congrArg (t27.2.2 85) (nI_clamp (n := m8_0n) (by omega))).trans e68)
                      refine lv_icmp_eq (tgt := 125) hx hb dX12_sure_118 (by decide) (fun c70 => ?_) (fun c70 => ?_)
                      · skip
                        replace hR61 := it_t hR61 c70
                        have b71 : n66 = n68 := y_eq (a := n66) (b := n68) (by omega) (by omega) c70
                        refine lv_iconst (v := 0) hx hb dX12_sure_125 (by decide) ?_
                        exact j126_64 0 hR61 _ _ _ h (lv_sub hl [0, 1, 2, 3, 4, 5] rfl)
                      · skip
                        replace hR61 := it_f hR61 c70
                        have b72 : ¬ n66 = n68 := y_ne (a := n66) (b := n68) (by omega) (by omega) c70
                        refine lv_iconst (v := 1) hx hb dX12_sure_121 (by decide) ?_
                        refine lv_goto (tgt := 126) hx hb dX12_sure_122 (by decide) ?_
                        exact j126_64 1 hR61 _ _ _ h (lv_sub hl [0, 1, 2, 3, 4, 5] rfl)
                  refine lv_if_ne (tgt := 95) hx hb dX12_sure_77 (by decide) (fun c59 => ?_) (fun c59 => ?_)
                  · skip
                    replace hR27 := it_f hR27 c59
                    refine lv_iconst (v := 1) hx hb dX12_sure_95 (by decide) ?_
                    refine lv_goto (tgt := 100) hx hb dX12_sure_96 (by decide) ?_
                    exact j100_61 1 hR27 _ _ _ h (lv_sub hl [0, 1, 2, 3, 4, 5] rfl)
                  · skip
                    replace hR27 := it_t hR27 c59
                    subst c59
                    refine lv_aload_n hx hb dX12_sure_80 rfl (lv_at hl 3 rfl) ?_
                    refine x_getR E h (fr_mo_heap g) rfl hwX12 (by decide) (by decide +kernel) dX12_sure_81 ?_
                    refine lv_iload_n hx hb dX12_sure_84 rfl (lv_at hl 4 rfl) ?_
                    obtain ⟨n74, b74, e74⟩ := hI_27.2 85 8 rfl m7_0n
                    have b75 := HQ.le (hp_27 m7_0n (Nat.zero_le _) (by omega)) e74 (by omega)
                    refine x_ldI E h (ia_mo_heap g) (i := nI m7_0n) (vp_in_nI (by omega) (by decide)) (v := nI n74) ((congrArg (t27.2.2 85) (nI_clamp (n := m7_0n) (by omega))).trans e74) dX12_sure_85 ?_
                    replace hR27 := bd_to hR27 ((congrArg (t27.2.2 85) (nI_clamp (n := m7_0n) (by omega))).trans e74)
                    refine lv_aload_n hx hb dX12_sure_86 rfl (lv_at hl 3 rfl) ?_
                    refine x_getR E h (fr_mo_heap g) rfl hwX12 (by decide) (by decide +kernel) dX12_sure_87 ?_
                    refine lv_iload_n hx hb dX12_sure_90 rfl (lv_at hl 5 rfl) ?_
                    obtain ⟨n76, b76, e76⟩ := hI_27.2 85 8 rfl m8_0n
                    have b77 := HQ.le (hp_27 m8_0n (Nat.zero_le _) (by omega)) e76 (by omega)
                    refine x_ldI E h (ia_mo_heap g) (i := nI m8_0n) (vp_in_nI (by omega) (by decide)) (v := nI n76) ((congrArg (t27.2.2 85) (nI_clamp (n := m8_0n) (by omega))).trans e76) dX12_sure_91 ?_
                    replace hR27 := bd_to hR27 ((congrArg (t27.2.2 85) (nI_clamp (n := m8_0n) (by omega))).trans e76)
                    refine lv_icmp_ne (tgt := 99) hx hb dX12_sure_92 (by decide) (fun c78 => ?_) (fun c78 => ?_)
                    · skip
                      replace hR27 := it_f hR27 c78
                      have b79 : ¬ n74 = n76 := y_ne (a := n74) (b := n76) (by omega) (by omega) c78
                      refine lv_iconst (v := 0) hx hb dX12_sure_99 (by decide) ?_
                      exact j100_61 0 hR27 _ _ _ h (lv_sub hl [0, 1, 2, 3, 4, 5] rfl)
                    · skip
                      replace hR27 := it_t hR27 c78
                      have b80 : n74 = n76 := y_eq (a := n74) (b := n76) (by omega) (by omega) c78
                      refine lv_iconst (v := 1) hx hb dX12_sure_95 (by decide) ?_
                      refine lv_goto (tgt := 100) hx hb dX12_sure_96 (by decide) ?_
                      exact j100_61 1 hR27 _ _ _ h (lv_sub hl [0, 1, 2, 3, 4, 5] rfl)
          exact loop49_27 1000000002 s19 1 0 0 hI19 hF19 e20 e21 u19_0_0 hR (by omega) _ _ _ h (lv_sub hl [0, 1, 2, 3, 4, 5] rfl)
        · skip
          replace hR := it_t hR (by decide)
          refine lv_if_ne (tgt := 37) hx hb dX12_sure_31 (by decide) (fun c => absurd (by decide) c) (fun _ => ?_)
          refine lv_bipush (v := (-2)) hx hb dX12_sure_34 (by decide) ?_
          subst hPQ
          exact x_iret E h ⟨hR0.trans hR.symm, hI11, hF11⟩ dX12_sure_36
      · skip
        replace hR := it_t hR c9
        have b81 : m7_0n = m8_0n := y_eq (a := m7_0n) (b := m8_0n) (by omega) (by omega) c9
        refine lv_iconst (v := (-1)) hx hb dX12_sure_25 (by decide) ?_
        subst hPQ
        exact x_iret E h ⟨hR0.trans hR.symm, hI1, hF1⟩ dX12_sure_26
    · skip
      replace hR := it_t hR (by decide)
      refine lv_if_eq (tgt := 25) hx hb dX12_sure_17 (by decide) (fun _ => ?_) (fun c => absurd (by decide) c)
      refine lv_iconst (v := (-1)) hx hb dX12_sure_25 (by decide) ?_
      subst hPQ
      exact x_iret E h ⟨hR0.trans hR.symm, hI1, hF1⟩ dX12_sure_26
  · skip
    replace hR := it_t hR (by decide)
    refine lv_if_eq (tgt := 25) hx hb dX12_sure_9 (by decide) (fun _ => ?_) (fun c => absurd (by decide) c)
    refine lv_iconst (v := (-1)) hx hb dX12_sure_25 (by decide) ?_
    subst hPQ
    exact x_iret E h ⟨hR0.trans hR.symm, hI1, hF1⟩ dX12_sure_26
set_option maxHeartbeats 4000000 in
set_option maxRecDepth 100000 in
theorem aX12_findHeapMiddles_0 (l : Launch) (g : CX) (σ : ST) (hI : INV σ) (F31 : Nat) (eF31 : σ.1 31 = nI F31) (F35 : Nat) (eF35 : σ.1 35 = nI F35) (hh0 : F35 ≤ 9) (hh1 : F31 ≤ 48) (hPO : AP (σ.2.2 77) 0 F31 (PQ F35)) : XM l g yX12_findHeapMiddles wsX12_findHeapMiddles { frames := 1, cells := 0, slots := 0, locals := 25 } [.ref (g.2.1 79)] σ (XQv g (fun σ' => fX12_findHeapMiddles_0 σ = σ' ∧ INV σ' ∧ Fr [(38, 38)] [(80, 82), (89, 89)] σ σ')) := by
  refine x_met (own := RX12) (cc := cX12_findHeapMiddles) (maxL := 3) (ret := none) (lv := [(0, .ref (g.2.1 79))]) (by decide) rfl rfl (Nat.le_of_ble_eq_true rfl) rfl ?_
  intro p e s m args below meth c ls E h hl
  have hx := E.1
  have hb := E.2.1
  have hown := E.2.2.2.1
  have hts := E.2.2.2.2.1
  have hF : Fr [(38, 38)] [(80, 82), (89, 89)] σ σ := Fr.refl σ
  obtain ⟨R, hR0⟩ : ∃ R, fX12_findHeapMiddles_0 σ = R := ⟨_, rfl⟩
  have hR : fX12_findHeapMiddles_0b0 σ = R := hR0
  have hwX12 : ∀ w ∈ wsX120, w ∈ wsX12_findHeapMiddles := by decide +kernel
  generalize hPQ : XQv g (fun σ' => fX12_findHeapMiddles_0 σ = σ' ∧ INV σ' ∧ Fr [(38, 38)] [(80, 82), (89, 89)] σ σ') = PQz
  refine lv_iconst (v := 0) hx hb dX12_findHeapMiddles_0 (by decide) ?_
  refine lv_istore_n (lv' := [(1, .int 0), (0, .ref (g.2.1 79))]) hx hb dX12_findHeapMiddles_1 rfl hl (by decide) rfl (fun ls hl => ?_)
  have loop2_1 : ∀ (fu : Nat) (t1 : ST) (i1_1 : Nat), INV t1 → Fr [(38, 38)] [(80, 82), (89, 89)] σ t1 → t1.1 31 = nI F31 → t1.1 35 = nI F35 → i1_1 ≤ 9 → AP (t1.2.2 77) 0 F31 (PQ F35) → fX12_findHeapMiddles_0l2 fu (nI i1_1) t1 = R → 9 - i1_1 < fu → ∀ (H : Heap) (locs : List Loc) (ls : Array Slot), HW g t1 s H locs → lv_has ls 3 [(1, .int (nI i1_1)), (0, .ref (g.2.1 79))] → W p l e { frames := 1, cells := 0, slots := 0, locals := 25 } s m args below meth c H locs 0 0 (MQ below PQz args s 0 0 (Aw g)) (F0 m 2 ls []) := by
    intro fu1
    induction fu1 with
    | zero => intro t1 i1_1 hI_1 hF_1 e2 e3 bi1_1 po_1 hR1 hm; exact absurd hm (Nat.not_lt_zero _)
    | succ fu1 ih =>
      have ih1 := ih
      clear ih
      intro t1 i1_1 hI_1 hF_1 e2 e3 bi1_1 po_1 hR1 hm1 H locs ls h hl
      replace hR1 : fX12_findHeapMiddles_0b2 (fX12_findHeapMiddles_0l2 fu1) (nI i1_1) t1 = R := hR1
      refine lv_iload_n hx hb dX12_findHeapMiddles_2 rfl (lv_at hl 0 rfl) ?_
      refine lv_aload_n hx hb dX12_findHeapMiddles_3 rfl (lv_at hl 1 rfl) ?_
      refine x_getR E h (fr_mo_best g) rfl hwX12 (by decide) (by decide +kernel) dX12_findHeapMiddles_4 ?_
      refine lv_aload_n hx hb dX12_findHeapMiddles_7 rfl (lv_at hl 1 rfl) ?_
      refine x_getI E h (fi_mo_pieces g) rfl hwX12 (by decide) (by decide +kernel) (v := nI F35) e3 dX12_findHeapMiddles_8 ?_
      replace hR1 := bd_to hR1 e3
      refine x_si E h (na := 2) (As := [.ref (g.2.1 100), .int (nI F35)]) (aX12_heapsIn_2 l g t1 hI_1 F35 (by omega)) gX12_findHeapMiddles_X12_heapsIn rfl ⟨rfl, rfl⟩ rfl (by decide +kernel) ⟨Nat.le_of_ble_eq_true rfl, Nat.le_of_ble_eq_true rfl⟩ hl.1 rfl (Nat.le_of_ble_eq_true rfl) dX12_findHeapMiddles_11 ⟨Nat.le_of_ble_eq_true rfl, Nat.le_of_ble_eq_true rfl⟩ (fun r4 s4 H locs q4 h => ?_)
      obtain ⟨x4, d4, rfl⟩ := q4
      replace hR1 := bd_to hR1 x4
      rcases d4 with ⟨m4_0n, u4_0_0, rfl⟩
      refine lv_icmp_ge (tgt := 109) hx hb dX12_findHeapMiddles_14 (by decide) (fun c5 => ?_) (fun c5 => ?_)
      · skip
        replace hR1 := it_t hR1 c5
        have b6 : m4_0n ≤ i1_1 := y_le (a := m4_0n) (b := i1_1) (by omega) (by omega) c5
        subst hPQ
        exact x_vret E h ⟨hR0.trans hR1.symm, hI_1, hF_1⟩ dX12_findHeapMiddles_109
      · skip
        replace hR1 := it_f hR1 c5
        have b7 : i1_1 < m4_0n := y_nle (a := m4_0n) (b := i1_1) (by omega) (by omega) c5
        refine lv_iconst (v := 0) hx hb dX12_findHeapMiddles_17 (by decide) ?_
        refine lv_istore_n (lv' := [(2, .int 0), (1, .int (nI i1_1)), (0, .ref (g.2.1 79))]) hx hb dX12_findHeapMiddles_18 rfl hl (by decide) rfl (fun ls hl => ?_)
        have loop19_8 : ∀ (fu : Nat) (t8 : ST) (i8_2 : Nat), INV t8 → Fr [(38, 38)] [(80, 82), (89, 89)] σ t8 → t8.1 31 = nI F31 → t8.1 35 = nI F35 → i8_2 ≤ F31 → AP (t8.2.2 77) 0 F31 (PQ F35) → fX12_findHeapMiddles_0l19 (fX12_findHeapMiddles_0l2 fu1) fu (nI i1_1) (nI i8_2) t8 = R → F31 - i8_2 < fu → ∀ (H : Heap) (locs : List Loc) (ls : Array Slot), HW g t8 s H locs → lv_has ls 3 [(2, .int (nI i8_2)), (1, .int (nI i1_1)), (0, .ref (g.2.1 79))] → W p l e { frames := 1, cells := 0, slots := 0, locals := 25 } s m args below meth c H locs 0 0 (MQ below PQz args s 0 0 (Aw g)) (F0 m 19 ls []) := by
          intro fu8
          induction fu8 with
          | zero => intro t8 i8_2 hI_8 hF_8 e9 e10 bi8_2 po_8 hR8 hm; exact absurd hm (Nat.not_lt_zero _)
          | succ fu8 ih =>
            have ih8 := ih
            clear ih
            intro t8 i8_2 hI_8 hF_8 e9 e10 bi8_2 po_8 hR8 hm8 H locs ls h hl
            replace hR8 : fX12_findHeapMiddles_0b19 (fX12_findHeapMiddles_0l2 fu1) (fX12_findHeapMiddles_0l19 (fX12_findHeapMiddles_0l2 fu1) fu8) (nI i1_1) (nI i8_2) t8 = R := hR8
            refine lv_iload_n hx hb dX12_findHeapMiddles_19 rfl (lv_at hl 0 rfl) ?_
            refine lv_aload_n hx hb dX12_findHeapMiddles_20 rfl (lv_at hl 2 rfl) ?_
            refine x_getI E h (fi_mo_rows g) rfl hwX12 (by decide) (by decide +kernel) (v := nI F31) e9 dX12_findHeapMiddles_21 ?_
            replace hR8 := bd_to hR8 e9
            refine lv_icmp_ge (tgt := 70) hx hb dX12_findHeapMiddles_24 (by decide) (fun c11 => ?_) (fun c11 => ?_)
            · skip
              replace hR8 := it_t hR8 c11
              have b12 : F31 ≤ i8_2 := y_le (a := F31) (b := i8_2) (by omega) (by omega) c11
              refine lv_aload_n hx hb dX12_findHeapMiddles_70 rfl (lv_at hl 2 rfl) ?_
              refine x_vv E h (na := 0) (As := []) (aX12_findMiddle_0 l g t8 hI_8 F31 e9 (by omega)) (oc_mo g) rfl gX12_findHeapMiddles_X12_findMiddle rfl ⟨rfl, rfl⟩ rfl (by decide +kernel) ⟨Nat.le_of_ble_eq_true rfl, Nat.le_of_ble_eq_true rfl⟩ hl.1 rfl (Nat.le_of_ble_eq_true rfl) dX12_findHeapMiddles_71 ⟨Nat.le_of_ble_eq_true rfl, Nat.le_of_ble_eq_true rfl⟩ (fun s13 H locs q13 h => ?_)
              obtain ⟨x13, d13, hI13, f13⟩ := q13
              replace hR8 := bd_to hR8 x13
              have hF13 := hF_8.call f13 (I := [(38, 38)]) (J := [(80, 82), (89, 89)]) rfl rfl
              have e14 : s13.1 31 = nI F31 := ((f13.1 31 rfl)).trans e9
              have e15 : s13.1 35 = nI F35 := ((f13.1 35 rfl)).trans e10
              have a16 := AP.eq po_8 (f13.2 77 rfl)
              have u13_0_0 := d13
              refine lv_iconst (v := 0) hx hb dX12_findHeapMiddles_74 (by decide) ?_
              refine lv_istore_n (lv' := [(2, .int 0), (1, .int (nI i1_1)), (0, .ref (g.2.1 79))]) hx hb dX12_findHeapMiddles_75 rfl hl (by decide) rfl (fun ls hl => ?_)
              have loop76_17 : ∀ (fu : Nat) (t17 : ST) (i17_2 : Nat), INV t17 → Fr [(38, 38)] [(80, 82), (89, 89)] σ t17 → t17.1 31 = nI F31 → t17.1 35 = nI F35 → i17_2 ≤ 4 → AP (t17.2.2 77) 0 F31 (PQ F35) → fX12_findHeapMiddles_0l76 (fX12_findHeapMiddles_0l2 fu1) fu (nI i1_1) (nI i17_2) t17 = R → 4 - i17_2 < fu → ∀ (H : Heap) (locs : List Loc) (ls : Array Slot), HW g t17 s H locs → lv_has ls 3 [(2, .int (nI i17_2)), (1, .int (nI i1_1)), (0, .ref (g.2.1 79))] → W p l e { frames := 1, cells := 0, slots := 0, locals := 25 } s m args below meth c H locs 0 0 (MQ below PQz args s 0 0 (Aw g)) (F0 m 76 ls []) := by
                intro fu17
                induction fu17 with
                | zero => intro t17 i17_2 hI_17 hF_17 e18 e19 bi17_2 po_17 hR17 hm; exact absurd hm (Nat.not_lt_zero _)
                | succ fu17 ih =>
                  have ih17 := ih
                  clear ih
                  intro t17 i17_2 hI_17 hF_17 e18 e19 bi17_2 po_17 hR17 hm17 H locs ls h hl
                  replace hR17 : fX12_findHeapMiddles_0b76 (fX12_findHeapMiddles_0l2 fu1) (fX12_findHeapMiddles_0l76 (fX12_findHeapMiddles_0l2 fu1) fu17) (nI i1_1) (nI i17_2) t17 = R := hR17
                  refine lv_iload_n hx hb dX12_findHeapMiddles_76 rfl (lv_at hl 0 rfl) ?_
                  refine lv_iconst (v := 4) hx hb dX12_findHeapMiddles_77 (by decide) ?_
                  refine lv_icmp_ge (tgt := 103) hx hb dX12_findHeapMiddles_78 (by decide) (fun c20 => ?_) (fun c20 => ?_)
                  · skip
                    replace hR17 := it_t hR17 c20
                    have b21 : 4 ≤ i17_2 := y_le (a := 4) (b := i17_2) (by omega) (by omega) c20
                    replace hR17 := bd_to hR17 (nI_add i1_1 1)
                    refine lv_iinc (v := (nI (i1_1 + 1))) (lv' := [(1, .int (nI (i1_1 + 1))), (2, .int (nI i17_2)), (0, .ref (g.2.1 79))]) hx hb dX12_findHeapMiddles_103 hl (k := 1) rfl (nI_add i1_1 1) (by decide) rfl (fun ls hl => ?_)
                    refine lv_goto (tgt := 2) hx hb dX12_findHeapMiddles_106 (by decide) ?_
                    exact ih1 t17 (i1_1 + 1) hI_17 hF_17 e18 e19 (by omega) po_17 hR17 (by omega) _ _ _ h (lv_sub hl [0, 2] rfl)
                  · skip
                    replace hR17 := it_f hR17 c20
                    have b22 : i17_2 < 4 := y_nle (a := 4) (b := i17_2) (by omega) (by omega) c20
                    refine lv_aload_n hx hb dX12_findHeapMiddles_81 rfl (lv_at hl 2 rfl) ?_
                    refine x_getR E h (fr_mo_heapMiddle g) rfl hwX12 (by decide) (by decide +kernel) dX12_findHeapMiddles_82 ?_
                    refine lv_iconst (v := 4) hx hb dX12_findHeapMiddles_85 (by decide) ?_
                    refine lv_iload_n hx hb dX12_findHeapMiddles_86 rfl (lv_at hl 1 rfl) ?_
                    refine lv_imul hx hb dX12_findHeapMiddles_87 ?_
                    refine x_topI (v2 := nI (4 * i1_1)) (pk_mul 4 i1_1) ?_
                    replace hR17 := bd_to hR17 (pk_mul 4 i1_1)
                    refine lv_iload_n hx hb dX12_findHeapMiddles_88 rfl (lv_at hl 0 rfl) ?_
                    refine lv_iadd hx hb dX12_findHeapMiddles_89 ?_
                    refine x_topI (v2 := nI ((4 * i1_1) + i17_2)) (nI_add (4 * i1_1) i17_2) ?_
                    replace hR17 := bd_to hR17 (nI_add (4 * i1_1) i17_2)
                    refine lv_aload_n hx hb dX12_findHeapMiddles_90 rfl (lv_at hl 2 rfl) ?_
                    refine x_getR E h (fr_mo_mid g) rfl hwX12 (by decide) (by decide +kernel) dX12_findHeapMiddles_91 ?_
                    refine lv_iload_n hx hb dX12_findHeapMiddles_94 rfl (lv_at hl 0 rfl) ?_
                    refine x_ldI E h (ia_mo_mid g) (i := nI i17_2) (vp_in_nI (by omega) (by decide)) (v := t17.2.2 81 i17_2) (congrArg (t17.2.2 81) (nI_clamp (n := i17_2) (by omega))) dX12_findHeapMiddles_95 ?_
                    replace hR17 := bd_to hR17 (congrArg (t17.2.2 81) (nI_clamp (n := i17_2) (by omega)))
                    refine y_stI E h hI_17 hF_17 (ia_mo_heapMiddle g) (i := nI ((4 * i1_1) + i17_2)) (vp_in_nI (by omega) (by decide)) (j := ((4 * i1_1) + i17_2)) (nI_clamp (by omega)) (ba_none rfl) rfl dX12_findHeapMiddles_96 (fun s23 H locs q23 hI23 hF23 h => ?_)
                    replace hR17 := st_to hR17 (nI_clamp (n := (4 * i1_1) + i17_2) (by omega)) q23
                    have e24 : s23.1 31 = nI F31 := (congrArg (fun t : ST => t.1 31) q23).trans e18
                    have e25 : s23.1 35 = nI F35 := (congrArg (fun t : ST => t.1 35) q23).trans e19
                    have a26 := AP.eq po_17 (show s23.2.2 77 = t17.2.2 77 from (congrArg (fun t : ST => t.2.2 77) q23).trans rfl)
                    replace hR17 := bd_to hR17 (nI_add i17_2 1)
                    refine lv_iinc (v := (nI (i17_2 + 1))) (lv' := [(2, .int (nI (i17_2 + 1))), (1, .int (nI i1_1)), (0, .ref (g.2.1 79))]) hx hb dX12_findHeapMiddles_97 hl (k := 0) rfl (nI_add i17_2 1) (by decide) rfl (fun ls hl => ?_)
                    refine lv_goto (tgt := 76) hx hb dX12_findHeapMiddles_100 (by decide) ?_
                    exact ih17 s23 (i17_2 + 1) hI23 hF23 e24 e25 (by omega) a26 hR17 (by omega) _ _ _ h (lv_sub hl [0, 1, 2] rfl)
              exact loop76_17 4096 s13 0 hI13 hF13 e14 e15 (Nat.zero_le _) a16 hR8 (by omega) _ _ _ h (lv_sub hl [0, 1, 2] rfl)
            · skip
              replace hR8 := it_f hR8 c11
              have b27 : i8_2 < F31 := y_nle (a := F31) (b := i8_2) (by omega) (by omega) c11
              refine lv_aload_n hx hb dX12_findHeapMiddles_27 rfl (lv_at hl 2 rfl) ?_
              refine x_getR E h (fr_mo_isAsked g) rfl hwX12 (by decide) (by decide +kernel) dX12_findHeapMiddles_28 ?_
              refine lv_iload_n hx hb dX12_findHeapMiddles_31 rfl (lv_at hl 0 rfl) ?_
              refine lv_aload_n hx hb dX12_findHeapMiddles_32 rfl (lv_at hl 2 rfl) ?_
              refine x_getR E h (fr_mo_pieceOf g) rfl hwX12 (by decide) (by decide +kernel) dX12_findHeapMiddles_33 ?_
              refine lv_iload_n hx hb dX12_findHeapMiddles_36 rfl (lv_at hl 0 rfl) ?_
              refine x_ldI E h (ia_mo_pieceOf g) (i := nI i8_2) (vp_in_nI (by omega) (by decide)) (v := t8.2.2 77 i8_2) (congrArg (t8.2.2 77) (nI_clamp (n := i8_2) (by omega))) dX12_findHeapMiddles_37 ?_
              replace hR8 := bd_to hR8 (congrArg (t8.2.2 77) (nI_clamp (n := i8_2) (by omega)))
              refine lv_bipush (v := (-9)) hx hb dX12_findHeapMiddles_38 (by decide) ?_
              have j63_30 : ∀ (y30_s0 : Int32), fX12_findHeapMiddles_0b63 (fX12_findHeapMiddles_0l2 fu1) (fX12_findHeapMiddles_0l19 (fX12_findHeapMiddles_0l2 fu1) fu8) (nI i1_1) (nI i8_2) y30_s0 (nI i8_2) t8 = R → ∀ (H : Heap) (locs : List Loc) (ls : Array Slot), HW g t8 s H locs → lv_has ls 3 [(2, .int (nI i8_2)), (1, .int (nI i1_1)), (0, .ref (g.2.1 79))] → W p l e { frames := 1, cells := 0, slots := 0, locals := 25 } s m args below meth c H locs 0 0 (MQ below PQz args s 0 0 (Aw g)) (F0 m 63 ls [.int y30_s0, .int (nI i8_2), .ref (g.2.1 94)]) := by
                intro y30_s0 hR30 H locs ls h hl
                refine y_stZ E h hI_8 hF_8 (ia_mo_isAsked g) (i := nI i8_2) (vp_in_nI (by omega) (by decide)) (j := i8_2) (nI_clamp (by omega)) (ba_none rfl) rfl dX12_findHeapMiddles_63 (fun s31 H locs q31 hI31 hF31 h => ?_)
                replace hR30 := st_to hR30 (nI_clamp (n := i8_2) (by omega)) q31
                have e32 : s31.1 31 = nI F31 := (congrArg (fun t : ST => t.1 31) q31).trans e9
                have e33 : s31.1 35 = nI F35 := (congrArg (fun t : ST => t.1 35) q31).trans e10
                have a34 := AP.eq po_8 (show s31.2.2 77 = t8.2.2 77 from (congrArg (fun t : ST => t.2.2 77) q31).trans rfl)
                replace hR30 := bd_to hR30 (nI_add i8_2 1)
                refine lv_iinc (v := (nI (i8_2 + 1))) (lv' := [(2, .int (nI (i8_2 + 1))), (1, .int (nI i1_1)), (0, .ref (g.2.1 79))]) hx hb dX12_findHeapMiddles_64 hl (k := 0) rfl (nI_add i8_2 1) (by decide) rfl (fun ls hl => ?_)
                refine lv_goto (tgt := 19) hx hb dX12_findHeapMiddles_67 (by decide) ?_
                exact ih8 s31 (i8_2 + 1) hI31 hF31 e32 e33 (by omega) a34 hR30 (by omega) _ _ _ h (lv_sub hl [0, 1, 2] rfl)
              refine lv_icmp_eq (tgt := 62) hx hb dX12_findHeapMiddles_40 (by decide) (fun c28 => ?_) (fun c28 => ?_)
              · skip
                replace hR8 := it_t hR8 c28
                refine lv_iconst (v := 0) hx hb dX12_findHeapMiddles_62 (by decide) ?_
                exact j63_30 0 hR8 _ _ _ h (lv_sub hl [0, 1, 2] rfl)
              · skip
                replace hR8 := it_f hR8 c28
                refine lv_aload_n hx hb dX12_findHeapMiddles_43 rfl (lv_at hl 2 rfl) ?_
                refine x_getR E h (fr_mo_best g) rfl hwX12 (by decide) (by decide +kernel) dX12_findHeapMiddles_44 ?_
                refine lv_aload_n hx hb dX12_findHeapMiddles_47 rfl (lv_at hl 2 rfl) ?_
                refine x_getR E h (fr_mo_pieceOf g) rfl hwX12 (by decide) (by decide +kernel) dX12_findHeapMiddles_48 ?_
                refine lv_iload_n hx hb dX12_findHeapMiddles_51 rfl (lv_at hl 0 rfl) ?_
                obtain ⟨n36, b36, e36⟩ := PQ.ne (po_8 i8_2 (Nat.zero_le _) (by omega)) c28
                refine x_ldI E h (ia_mo_pieceOf g) (i := nI i8_2) (vp_in_nI (by omega) (by decide)) (v := nI n36) ((congrArg (t8.2.2 77) (nI_clamp (n := i8_2) (by omega))).trans e36) dX12_findHeapMiddles_52 ?_
                replace hR8 := bd_to hR8 ((congrArg (t8.2.2 77) (nI_clamp (n := i8_2) (by omega))).trans e36)
                obtain ⟨n37, b37, e37⟩ := hI_8.2 86 8 rfl n36
                refine x_ldI E h (ia_mo_best g) (i := nI n36) (vp_in_nI (by omega) (by decide)) (v := nI n37) ((congrArg (t8.2.2 86) (nI_clamp (n := n36) (by omega))).trans e37) dX12_findHeapMiddles_53 ?_
                replace hR8 := bd_to hR8 ((congrArg (t8.2.2 86) (nI_clamp (n := n36) (by omega))).trans e37)
                refine lv_iload_n hx hb dX12_findHeapMiddles_54 rfl (lv_at hl 1 rfl) ?_
                refine lv_icmp_ne (tgt := 62) hx hb dX12_findHeapMiddles_55 (by decide) (fun c38 => ?_) (fun c38 => ?_)
                · skip
                  replace hR8 := it_f hR8 c38
                  have b39 : ¬ n37 = i1_1 := y_ne (a := n37) (b := i1_1) (by omega) (by omega) c38
                  refine lv_iconst (v := 0) hx hb dX12_findHeapMiddles_62 (by decide) ?_
                  exact j63_30 0 hR8 _ _ _ h (lv_sub hl [0, 1, 2] rfl)
                · skip
                  replace hR8 := it_t hR8 c38
                  have b40 : n37 = i1_1 := y_eq (a := n37) (b := i1_1) (by omega) (by omega) c38
                  refine lv_iconst (v := 1) hx hb dX12_findHeapMiddles_58 (by decide) ?_
                  refine lv_goto (tgt := 63) hx hb dX12_findHeapMiddles_59 (by decide) ?_
                  exact j63_30 1 hR8 _ _ _ h (lv_sub hl [0, 1, 2] rfl)
        exact loop19_8 4096 t1 0 hI_1 hF_1 e2 e3 (Nat.zero_le _) po_1 hR1 (by omega) _ _ _ h (lv_sub hl [0, 1, 2] rfl)
  exact loop2_1 4096 σ 0 hI hF eF31 eF35 (Nat.zero_le _) hPO hR (by omega) _ _ _ h (lv_sub hl [0, 1] rfl)
set_option maxHeartbeats 4000000 in
set_option maxRecDepth 100000 in
theorem aX12_wrong_0 (l : Launch) (g : CX) (σ : ST) (hI : INV σ) (p1 : Int32) : XM l g yX12_wrong wsX12_wrong { frames := 5, cells := 0, slots := 0, locals := 119 } [.ref (g.2.1 79), .int p1] σ (XQi g (fun r σ' => fX12_wrong_0 p1 σ = (r, σ') ∧ ((0 = r ∧ ∃ n P R : Nat, σ'.1 35 = nI P ∧ σ'.1 31 = nI R ∧ R ≤ 48 ∧ n < 9 ∧ P ≤ 9 ∧ p1 = nI n ∧ AP (σ'.2.2 77) 0 R (PQ P)) ∨ ((-1) = r) ∨ ((-2) = r)) ∧ INV σ' ∧ Fr [(35, 39)] [(75, 86), (88, 89)] σ σ')) := by
  refine x_met (own := RX12) (cc := cX12_wrong) (maxL := 2) (ret := (some .int)) (lv := [(0, .ref (g.2.1 79)), (1, .int p1)]) (by decide) rfl rfl (Nat.le_of_ble_eq_true rfl) rfl ?_
  intro p e s m args below meth c ls E h hl
  have hx := E.1
  have hb := E.2.1
  have hown := E.2.2.2.1
  have hts := E.2.2.2.2.1
  have hF : Fr [(35, 39)] [(75, 86), (88, 89)] σ σ := Fr.refl σ
  obtain ⟨R, hR0⟩ : ∃ R, fX12_wrong_0 p1 σ = R := ⟨_, rfl⟩
  have hR : fX12_wrong_0b0 p1 σ = R := hR0
  have hwX12 : ∀ w ∈ wsX120, w ∈ wsX12_wrong := by decide +kernel
  generalize hPQ : XQi g (fun r σ' => fX12_wrong_0 p1 σ = (r, σ') ∧ ((0 = r ∧ ∃ n P R : Nat, σ'.1 35 = nI P ∧ σ'.1 31 = nI R ∧ R ≤ 48 ∧ n < 9 ∧ P ≤ 9 ∧ p1 = nI n ∧ AP (σ'.2.2 77) 0 R (PQ P)) ∨ ((-1) = r) ∨ ((-2) = r)) ∧ INV σ' ∧ Fr [(35, 39)] [(75, 86), (88, 89)] σ σ') = PQz
  refine lv_iload_n hx hb dX12_wrong_0 rfl (lv_at hl 1 rfl) ?_
  refine lv_iconst (v := 0) hx hb dX12_wrong_1 (by decide) ?_
  refine lv_bipush (v := 8) hx hb dX12_wrong_2 (by decide) ?_
  refine x_si E h (na := 3) (As := [.int p1, .int 0, .int 8]) (aX12_in_0 l g σ hI p1 0 8) gX12_wrong_X12_in rfl ⟨rfl, rfl⟩ rfl (by decide +kernel) ⟨Nat.le_of_ble_eq_true rfl, Nat.le_of_ble_eq_true rfl⟩ hl.1 rfl (Nat.le_of_ble_eq_true rfl) dX12_wrong_4 ⟨Nat.le_of_ble_eq_true rfl, Nat.le_of_ble_eq_true rfl⟩ (fun r1 s1 H locs q1 h => ?_)
  obtain ⟨x1, d1, rfl⟩ := q1
  replace hR := bd_to hR x1
  rcases d1 with ⟨rfl, u1_0_0, u1_0_1⟩ | ⟨rfl, u1_1_0⟩
  · skip
    obtain ⟨n2, b2, rfl⟩ := y_rnlt (N := 8) (y_lo1 u1_0_0 (by decide)) u1_0_1 (by omega)
    have b3 : 0 ≤ n2 := y_nlt (a := n2) (b := 0) (by omega) (by omega) u1_0_0
    have b4 : n2 ≤ 8 := y_nlt (a := 8) (b := n2) (by omega) (by omega) u1_0_1
    replace hR := it_f hR (by decide)
    refine lv_if_ne (tgt := 12) hx hb dX12_wrong_7 (by decide) (fun _ => ?_) (fun c => absurd c (by decide))
    refine lv_aload_n hx hb dX12_wrong_12 rfl (lv_at hl 0 rfl) ?_
    refine x_vi E h (na := 0) (As := []) (aX12_findBest_0 l g σ hI) (oc_mo g) rfl gX12_wrong_X12_findBest rfl ⟨rfl, rfl⟩ rfl (by decide +kernel) ⟨Nat.le_of_ble_eq_true rfl, Nat.le_of_ble_eq_true rfl⟩ hl.1 rfl (Nat.le_of_ble_eq_true rfl) dX12_wrong_13 ⟨Nat.le_of_ble_eq_true rfl, Nat.le_of_ble_eq_true rfl⟩ (fun r5 s5 H locs q5 h => ?_)
    obtain ⟨x5, d5, hI5, f5⟩ := q5
    replace hR := bp_to hR x5
    have hF5 := hF.call f5 (I := [(35, 39)]) (J := [(75, 86), (88, 89)]) rfl rfl
    rcases d5 with ⟨rfl, m5_0P, m5_0R, u5_0_0, u5_0_1, u5_0_2, u5_0_3, u5_0_4, u5_0_5⟩ | rfl
    · skip
      replace hR := it_f hR (by decide)
      refine lv_if_ne (tgt := 22) hx hb dX12_wrong_16 (by decide) (fun _ => ?_) (fun c => absurd c (by decide))
      refine lv_aload_n hx hb dX12_wrong_22 rfl (lv_at hl 0 rfl) ?_
      refine x_vv E h (na := 0) (As := []) (aX12_findHeapMiddles_0 l g s5 hI5 m5_0R u5_0_1 m5_0P u5_0_0 (by omega) (by omega) u5_0_4) (oc_mo g) rfl gX12_wrong_X12_findHeapMiddles rfl ⟨rfl, rfl⟩ rfl (by decide +kernel) ⟨Nat.le_of_ble_eq_true rfl, Nat.le_of_ble_eq_true rfl⟩ hl.1 rfl (Nat.le_of_ble_eq_true rfl) dX12_wrong_23 ⟨Nat.le_of_ble_eq_true rfl, Nat.le_of_ble_eq_true rfl⟩ (fun s7 H locs q7 h => ?_)
      obtain ⟨x7, hI7, f7⟩ := q7
      replace hR := bd_to hR x7
      have hF7 := hF5.call f7 (I := [(35, 39)]) (J := [(75, 86), (88, 89)]) rfl rfl
      have e8 : s7.1 35 = nI m5_0P := ((f7.1 35 rfl)).trans u5_0_0
      have e9 : s7.1 31 = nI m5_0R := ((f7.1 31 rfl)).trans u5_0_1
      have a10 := AP.eq u5_0_4 (f7.2 77 rfl)
      refine lv_iload_n hx hb dX12_wrong_26 rfl (lv_at hl 1 rfl) ?_
      refine lv_aload_n hx hb dX12_wrong_27 rfl (lv_at hl 0 rfl) ?_
      refine x_getR E h (fr_mo_best g) rfl hwX12 (by decide) (by decide +kernel) dX12_wrong_28 ?_
      refine lv_aload_n hx hb dX12_wrong_31 rfl (lv_at hl 0 rfl) ?_
      refine x_getI E h (fi_mo_pieces g) rfl hwX12 (by decide) (by decide +kernel) (v := nI m5_0P) e8 dX12_wrong_32 ?_
      replace hR := bd_to hR e8
      refine x_si E h (na := 2) (As := [.ref (g.2.1 100), .int (nI m5_0P)]) (aX12_heapsIn_2 l g s7 hI7 m5_0P (by omega)) gX12_wrong_X12_heapsIn rfl ⟨rfl, rfl⟩ rfl (by decide +kernel) ⟨Nat.le_of_ble_eq_true rfl, Nat.le_of_ble_eq_true rfl⟩ hl.1 rfl (Nat.le_of_ble_eq_true rfl) dX12_wrong_35 ⟨Nat.le_of_ble_eq_true rfl, Nat.le_of_ble_eq_true rfl⟩ (fun r11 s11 H locs q11 h => ?_)
      obtain ⟨x11, d11, rfl⟩ := q11
      replace hR := bd_to hR x11
      rcases d11 with ⟨m11_0n, u11_0_0, rfl⟩
      refine lv_icmp_ge (tgt := 45) hx hb dX12_wrong_38 (by decide) (fun c12 => ?_) (fun c12 => ?_)
      · skip
        replace hR := it_t hR c12
        have b13 : m11_0n ≤ n2 := y_le (a := m11_0n) (b := n2) (by omega) (by omega) c12
        refine lv_iconst (v := (-1)) hx hb dX12_wrong_45 (by decide) ?_
        replace hR : fX12_wrong_0b46 (-1) s7 = R := hR
        subst hPQ
        exact x_iret E h ⟨hR0.trans hR.symm, (Or.inr (Or.inl rfl)), hI7, hF7⟩ dX12_wrong_46
      · skip
        replace hR := it_f hR c12
        have b14 : n2 < m11_0n := y_nle (a := m11_0n) (b := n2) (by omega) (by omega) c12
        refine lv_iconst (v := 0) hx hb dX12_wrong_41 (by decide) ?_
        refine lv_goto (tgt := 46) hx hb dX12_wrong_42 (by decide) ?_
        replace hR : fX12_wrong_0b46 0 s7 = R := hR
        subst hPQ
        exact x_iret E h ⟨hR0.trans hR.symm, (Or.inl ⟨rfl, n2, m5_0P, m5_0R, e8, e9, (by omega), (by omega), (by omega), rfl, (AP.sub a10 (by omega))⟩), hI7, hF7⟩ dX12_wrong_46
    · skip
      replace hR := it_t hR (by decide)
      refine lv_if_ne (tgt := 22) hx hb dX12_wrong_16 (by decide) (fun c => absurd (by decide) c) (fun _ => ?_)
      refine lv_bipush (v := (-2)) hx hb dX12_wrong_19 (by decide) ?_
      subst hPQ
      exact x_iret E h ⟨hR0.trans hR.symm, (Or.inr (Or.inr (rfl))), hI5, hF5⟩ dX12_wrong_21
  · skip
    replace hR := it_t hR (by decide)
    refine lv_if_ne (tgt := 12) hx hb dX12_wrong_7 (by decide) (fun c => absurd (by decide) c) (fun _ => ?_)
    refine lv_iconst (v := (-1)) hx hb dX12_wrong_10 (by decide) ?_
    subst hPQ
    exact x_iret E h ⟨hR0.trans hR.symm, (Or.inr (Or.inl rfl)), hI, hF⟩ dX12_wrong_11
set_option maxHeartbeats 4000000 in
set_option maxRecDepth 100000 in
theorem aX12_middle_0 (l : Launch) (g : CX) (σ : ST) (hI : INV σ) (p1 : Int32) (p2 : Int32) : XM l g yX12_middle wsX12_middle { frames := 6, cells := 0, slots := 0, locals := 140 } [.ref (g.2.1 79), .int p1, .int p2] σ (XQi g (fun r σ' => fX12_middle_0 p1 p2 σ = (r, σ') ∧ INV σ' ∧ Fr [(35, 39)] [(75, 86), (88, 89)] σ σ')) := by
  refine x_met (own := RX12) (cc := cX12_middle) (maxL := 4) (ret := (some .int)) (lv := [(0, .ref (g.2.1 79)), (1, .int p1), (2, .int p2)]) (by decide) rfl rfl (Nat.le_of_ble_eq_true rfl) rfl ?_
  intro p e s m args below meth c ls E h hl
  have hx := E.1
  have hb := E.2.1
  have hown := E.2.2.2.1
  have hts := E.2.2.2.2.1
  have hF : Fr [(35, 39)] [(75, 86), (88, 89)] σ σ := Fr.refl σ
  obtain ⟨R, hR0⟩ : ∃ R, fX12_middle_0 p1 p2 σ = R := ⟨_, rfl⟩
  have hR : fX12_middle_0b0 p1 p2 σ = R := hR0
  have hwX12 : ∀ w ∈ wsX120, w ∈ wsX12_middle := by decide +kernel
  generalize hPQ : XQi g (fun r σ' => fX12_middle_0 p1 p2 σ = (r, σ') ∧ INV σ' ∧ Fr [(35, 39)] [(75, 86), (88, 89)] σ σ') = PQz
  refine lv_iload_n hx hb dX12_middle_0 rfl (lv_at hl 2 rfl) ?_
  refine lv_iconst (v := 0) hx hb dX12_middle_1 (by decide) ?_
  refine lv_iconst (v := 3) hx hb dX12_middle_2 (by decide) ?_
  refine x_si E h (na := 3) (As := [.int p2, .int 0, .int 3]) (aX12_in_0 l g σ hI p2 0 3) gX12_middle_X12_in rfl ⟨rfl, rfl⟩ rfl (by decide +kernel) ⟨Nat.le_of_ble_eq_true rfl, Nat.le_of_ble_eq_true rfl⟩ hl.1 rfl (Nat.le_of_ble_eq_true rfl) dX12_middle_3 ⟨Nat.le_of_ble_eq_true rfl, Nat.le_of_ble_eq_true rfl⟩ (fun r1 s1 H locs q1 h => ?_)
  obtain ⟨x1, d1, rfl⟩ := q1
  replace hR := bd_to hR x1
  rcases d1 with ⟨rfl, u1_0_0, u1_0_1⟩ | ⟨rfl, u1_1_0⟩
  · skip
    obtain ⟨n2, b2, rfl⟩ := y_rnlt (N := 3) (y_lo1 u1_0_0 (by decide)) u1_0_1 (by omega)
    have b3 : 0 ≤ n2 := y_nlt (a := n2) (b := 0) (by omega) (by omega) u1_0_0
    have b4 : n2 ≤ 3 := y_nlt (a := 3) (b := n2) (by omega) (by omega) u1_0_1
    replace hR := it_f hR (by decide)
    refine lv_if_eq (tgt := 17) hx hb dX12_middle_6 (by decide) (fun c => absurd c (by decide)) (fun _ => ?_)
    refine lv_aload_n hx hb dX12_middle_9 rfl (lv_at hl 0 rfl) ?_
    refine lv_iload_n hx hb dX12_middle_10 rfl (lv_at hl 1 rfl) ?_
    refine x_vi E h (na := 1) (As := [.int p1]) (aX12_wrong_0 l g σ hI p1) (oc_mo g) rfl gX12_middle_X12_wrong rfl ⟨rfl, rfl⟩ rfl (by decide +kernel) ⟨Nat.le_of_ble_eq_true rfl, Nat.le_of_ble_eq_true rfl⟩ hl.1 rfl (Nat.le_of_ble_eq_true rfl) dX12_middle_11 ⟨Nat.le_of_ble_eq_true rfl, Nat.le_of_ble_eq_true rfl⟩ (fun r5 s5 H locs q5 h => ?_)
    obtain ⟨x5, d5, hI5, f5⟩ := q5
    replace hR := bp_to hR x5
    have hF5 := hF.call f5 (I := [(35, 39)]) (J := [(75, 86), (88, 89)]) rfl rfl
    rcases d5 with ⟨rfl, m5_0n, m5_0P, m5_0R, u5_0_0, u5_0_1, u5_0_2, u5_0_3, u5_0_4, rfl, u5_0_6⟩ | rfl | rfl
    · skip
      refine lv_goto (tgt := 18) hx hb dX12_middle_14 (by decide) ?_
      refine lv_istore_n (lv' := [(3, .int 0), (0, .ref (g.2.1 79)), (1, .int (nI m5_0n)), (2, .int (nI n2))]) hx hb dX12_middle_18 rfl hl (by decide) rfl (fun ls hl => ?_)
      refine lv_iload_n hx hb dX12_middle_19 rfl (lv_at hl 0 rfl) ?_
      replace hR := it_t hR (by decide)
      refine lv_if_ne (tgt := 36) hx hb dX12_middle_20 (by decide) (fun c => absurd (by decide) c) (fun _ => ?_)
      refine lv_aload_n hx hb dX12_middle_23 rfl (lv_at hl 1 rfl) ?_
      refine x_getR E h (fr_mo_heapMiddle g) rfl hwX12 (by decide) (by decide +kernel) dX12_middle_24 ?_
      refine lv_iconst (v := 4) hx hb dX12_middle_27 (by decide) ?_
      refine lv_iload_n hx hb dX12_middle_28 rfl (lv_at hl 2 rfl) ?_
      refine lv_imul hx hb dX12_middle_29 ?_
      refine x_topI (v2 := nI (4 * m5_0n)) (pk_mul 4 m5_0n) ?_
      replace hR := bd_to hR (pk_mul 4 m5_0n)
      refine lv_iload_n hx hb dX12_middle_30 rfl (lv_at hl 3 rfl) ?_
      refine lv_iadd hx hb dX12_middle_31 ?_
      refine x_topI (v2 := nI ((4 * m5_0n) + n2)) (nI_add (4 * m5_0n) n2) ?_
      replace hR := bd_to hR (nI_add (4 * m5_0n) n2)
      refine x_ldI E h (ia_mo_heapMiddle g) (i := nI ((4 * m5_0n) + n2)) (vp_in_nI (by omega) (by decide)) (v := s5.2.2 89 ((4 * m5_0n) + n2)) (congrArg (s5.2.2 89) (nI_clamp (n := (4 * m5_0n) + n2) (by omega))) dX12_middle_32 ?_
      replace hR := bd_to hR (congrArg (s5.2.2 89) (nI_clamp (n := (4 * m5_0n) + n2) (by omega)))
      refine lv_goto (tgt := 37) hx hb dX12_middle_33 (by decide) ?_
      subst hPQ
      exact x_iret E h ⟨hR0.trans hR.symm, hI5, hF5⟩ dX12_middle_37
    · skip
      refine lv_goto (tgt := 18) hx hb dX12_middle_14 (by decide) ?_
      replace hR : fX12_middle_0b18 p1 (nI n2) (-1) s5 = R := hR
      refine lv_istore_n (lv' := [(3, .int (-1)), (0, .ref (g.2.1 79)), (1, .int p1), (2, .int (nI n2))]) hx hb dX12_middle_18 rfl hl (by decide) rfl (fun ls hl => ?_)
      refine lv_iload_n hx hb dX12_middle_19 rfl (lv_at hl 0 rfl) ?_
      replace hR := it_f hR (by decide)
      refine lv_if_ne (tgt := 36) hx hb dX12_middle_20 (by decide) (fun _ => ?_) (fun c => absurd c (by decide))
      refine lv_iload_n hx hb dX12_middle_36 rfl (lv_at hl 0 rfl) ?_
      replace hR : fX12_middle_0b37 (-1) s5 = R := hR
      subst hPQ
      exact x_iret E h ⟨hR0.trans hR.symm, hI5, hF5⟩ dX12_middle_37
    · skip
      refine lv_goto (tgt := 18) hx hb dX12_middle_14 (by decide) ?_
      replace hR : fX12_middle_0b18 p1 (nI n2) (-2) s5 = R := hR
      refine lv_istore_n (lv' := [(3, .int (-2)), (0, .ref (g.2.1 79)), (1, .int p1), (2, .int (nI n2))]) hx hb dX12_middle_18 rfl hl (by decide) rfl (fun ls hl => ?_)
      refine lv_iload_n hx hb dX12_middle_19 rfl (lv_at hl 0 rfl) ?_
      replace hR := it_f hR (by decide)
      refine lv_if_ne (tgt := 36) hx hb dX12_middle_20 (by decide) (fun _ => ?_) (fun c => absurd c (by decide))
      refine lv_iload_n hx hb dX12_middle_36 rfl (lv_at hl 0 rfl) ?_
      replace hR : fX12_middle_0b37 (-2) s5 = R := hR
      subst hPQ
      exact x_iret E h ⟨hR0.trans hR.symm, hI5, hF5⟩ dX12_middle_37
  · skip
    replace hR := it_t hR (by decide)
    refine lv_if_eq (tgt := 17) hx hb dX12_middle_6 (by decide) (fun _ => ?_) (fun c => absurd (by decide) c)
    refine lv_iconst (v := (-1)) hx hb dX12_middle_17 (by decide) ?_
    replace hR : fX12_middle_0b18 p1 p2 (-1) σ = R := hR
    refine lv_istore_n (lv' := [(3, .int (-1)), (0, .ref (g.2.1 79)), (1, .int p1), (2, .int p2)]) hx hb dX12_middle_18 rfl hl (by decide) rfl (fun ls hl => ?_)
    refine lv_iload_n hx hb dX12_middle_19 rfl (lv_at hl 0 rfl) ?_
    replace hR := it_f hR (by decide)
    refine lv_if_ne (tgt := 36) hx hb dX12_middle_20 (by decide) (fun _ => ?_) (fun c => absurd c (by decide))
    refine lv_iload_n hx hb dX12_middle_36 rfl (lv_at hl 0 rfl) ?_
    replace hR : fX12_middle_0b37 (-1) σ = R := hR
    subst hPQ
    exact x_iret E h ⟨hR0.trans hR.symm, hI, hF⟩ dX12_middle_37
set_option maxHeartbeats 4000000 in
set_option maxRecDepth 100000 in
theorem aX12_twice_0 (l : Launch) (g : CX) (σ : ST) (hI : INV σ) (p1 : Int32) (p2 : Int32) : XM l g yX12_twice wsX12_twice { frames := 5, cells := 0, slots := 0, locals := 119 } [.ref (g.2.1 79), .int p1, .int p2] σ (XQi g (fun r σ' => fX12_twice_0 p1 p2 σ = (r, σ') ∧ INV σ' ∧ Fr [(35, 39)] [(75, 86), (88, 89)] σ σ')) := by
  refine x_met (own := RX12) (cc := cX12_twice) (maxL := 13) (ret := (some .int)) (lv := [(0, .ref (g.2.1 79)), (1, .int p1), (2, .int p2)]) (by decide) rfl rfl (Nat.le_of_ble_eq_true rfl) rfl ?_
  intro p e s m args below meth c ls E h hl
  have hx := E.1
  have hb := E.2.1
  have hown := E.2.2.2.1
  have hts := E.2.2.2.2.1
  have hF : Fr [(35, 39)] [(75, 86), (88, 89)] σ σ := Fr.refl σ
  obtain ⟨R, hR0⟩ : ∃ R, fX12_twice_0 p1 p2 σ = R := ⟨_, rfl⟩
  have hR : fX12_twice_0b0 p1 p2 σ = R := hR0
  have hwX12 : ∀ w ∈ wsX120, w ∈ wsX12_twice := by decide +kernel
  generalize hPQ : XQi g (fun r σ' => fX12_twice_0 p1 p2 σ = (r, σ') ∧ INV σ' ∧ Fr [(35, 39)] [(75, 86), (88, 89)] σ σ') = PQz
  refine lv_aload_n hx hb dX12_twice_0 rfl (lv_at hl 0 rfl) ?_
  refine x_vv E h (na := 0) (As := []) (aX12_findPieces_0 l g σ hI) (oc_mo g) rfl gX12_twice_X12_findPieces rfl ⟨rfl, rfl⟩ rfl (by decide +kernel) ⟨Nat.le_of_ble_eq_true rfl, Nat.le_of_ble_eq_true rfl⟩ hl.1 rfl (Nat.le_of_ble_eq_true rfl) dX12_twice_1 ⟨Nat.le_of_ble_eq_true rfl, Nat.le_of_ble_eq_true rfl⟩ (fun s1 H locs q1 h => ?_)
  obtain ⟨x1, d1, hI1, f1⟩ := q1
  replace hR := bd_to hR x1
  have hF1 := hF.call f1 (I := [(35, 39)]) (J := [(75, 86), (88, 89)]) rfl rfl
  have a2 : s1.2.2 68 = σ.2.2 68 := (f1.2 68 rfl).trans rfl
  have a3 : s1.2.2 69 = σ.2.2 69 := (f1.2 69 rfl).trans rfl
  have a4 : s1.2.2 70 = σ.2.2 70 := (f1.2 70 rfl).trans rfl
  have a5 : s1.2.2 66 = σ.2.2 66 := (f1.2 66 rfl).trans rfl
  rcases d1 with ⟨m1_0P, m1_0R, u1_0_0, u1_0_1, u1_0_2, u1_0_3, u1_0_4, u1_0_5⟩
  have fp6 : m1_0P = FPn (σ.2.2 68) (σ.2.2 69) (σ.2.2 70) (σ.2.2 66) m1_0R := u1_0_5
  refine lv_aload_n hx hb dX12_twice_4 rfl (lv_at hl 0 rfl) ?_
  refine lv_iload_n hx hb dX12_twice_5 rfl (lv_at hl 1 rfl) ?_
  refine x_vi E h (na := 1) (As := [.int p1]) (aX12_isPiece_0 l g s1 hI1 p1) (oc_mo g) rfl gX12_twice_X12_isPiece rfl ⟨rfl, rfl⟩ rfl (by decide +kernel) ⟨Nat.le_of_ble_eq_true rfl, Nat.le_of_ble_eq_true rfl⟩ hl.1 rfl (Nat.le_of_ble_eq_true rfl) dX12_twice_6 ⟨Nat.le_of_ble_eq_true rfl, Nat.le_of_ble_eq_true rfl⟩ (fun r7 s7 H locs q7 h => ?_)
  obtain ⟨x7, d7, rfl⟩ := q7
  replace hR := bd_to hR x7
  rcases d7 with ⟨rfl, m7_0n, m7_0P, u7_0_0, u7_0_1, u7_0_2, rfl⟩ | rfl
  · skip
    obtain rfl : m1_0P = m7_0P := y_eq (by omega) (by omega) ((u1_0_0).symm.trans u7_0_0)
    replace hR := it_f hR (by decide)
    refine lv_if_eq (tgt := 21) hx hb dX12_twice_9 (by decide) (fun c => absurd c (by decide)) (fun _ => ?_)
    refine lv_iload_n hx hb dX12_twice_12 rfl (lv_at hl 2 rfl) ?_
    refine lv_iconst (v := 0) hx hb dX12_twice_13 (by decide) ?_
    refine lv_iconst (v := 1) hx hb dX12_twice_14 (by decide) ?_
    refine x_si E h (na := 3) (As := [.int p2, .int 0, .int 1]) (aX12_in_0 l g s1 hI1 p2 0 1) gX12_twice_X12_in rfl ⟨rfl, rfl⟩ rfl (by decide +kernel) ⟨Nat.le_of_ble_eq_true rfl, Nat.le_of_ble_eq_true rfl⟩ hl.1 rfl (Nat.le_of_ble_eq_true rfl) dX12_twice_15 ⟨Nat.le_of_ble_eq_true rfl, Nat.le_of_ble_eq_true rfl⟩ (fun r8 s8 H locs q8 h => ?_)
    obtain ⟨x8, d8, rfl⟩ := q8
    replace hR := bd_to hR x8
    rcases d8 with ⟨rfl, u8_0_0, u8_0_1⟩ | ⟨rfl, u8_1_0⟩
    · skip
      obtain ⟨n9, b9, rfl⟩ := y_rnlt (N := 1) (y_lo1 u8_0_0 (by decide)) u8_0_1 (by omega)
      have b10 : 0 ≤ n9 := y_nlt (a := n9) (b := 0) (by omega) (by omega) u8_0_0
      have b11 : n9 ≤ 1 := y_nlt (a := 1) (b := n9) (by omega) (by omega) u8_0_1
      replace hR := it_f hR (by decide)
      refine lv_if_ne (tgt := 23) hx hb dX12_twice_18 (by decide) (fun _ => ?_) (fun c => absurd c (by decide))
      refine lv_aload_n hx hb dX12_twice_23 rfl (lv_at hl 0 rfl) ?_
      refine x_vi E h (na := 0) (As := []) (aX12_findBest_0 l g s1 hI1) (oc_mo g) rfl gX12_twice_X12_findBest rfl ⟨rfl, rfl⟩ rfl (by decide +kernel) ⟨Nat.le_of_ble_eq_true rfl, Nat.le_of_ble_eq_true rfl⟩ hl.1 rfl (Nat.le_of_ble_eq_true rfl) dX12_twice_24 ⟨Nat.le_of_ble_eq_true rfl, Nat.le_of_ble_eq_true rfl⟩ (fun r12 s12 H locs q12 h => ?_)
      obtain ⟨x12, d12, hI12, f12⟩ := q12
      replace hR := bp_to hR x12
      have hF12 := hF1.call f12 (I := [(35, 39)]) (J := [(75, 86), (88, 89)]) rfl rfl
      have e13 : s12.1 31 = nI m1_0R := ((f12.1 31 rfl)).trans u1_0_1
      have a14 : s12.2.2 68 = σ.2.2 68 := (f12.2 68 rfl).trans a2
      have a15 : s12.2.2 69 = σ.2.2 69 := (f12.2 69 rfl).trans a3
      have a16 : s12.2.2 70 = σ.2.2 70 := (f12.2 70 rfl).trans a4
      have a17 : s12.2.2 66 = σ.2.2 66 := (f12.2 66 rfl).trans a5
      rcases d12 with ⟨rfl, m12_0P, m12_0R, u12_0_0, u12_0_1, u12_0_2, u12_0_3, u12_0_4, u12_0_5⟩ | rfl
      · skip
        obtain rfl : m1_0R = m12_0R := y_eq (by omega) (by omega) ((e13).symm.trans u12_0_1)
        have fp19 : m12_0P = FPn (σ.2.2 68) (σ.2.2 69) (σ.2.2 70) (σ.2.2 66) m1_0R := by have h9 := u12_0_5; rw [a2, a3, a4, a5] at h9; exact h9
        replace hR := it_f hR (by decide)
        refine lv_if_ne (tgt := 33) hx hb dX12_twice_27 (by decide) (fun _ => ?_) (fun c => absurd c (by decide))
        refine lv_aload_n hx hb dX12_twice_33 rfl (lv_at hl 0 rfl) ?_
        refine x_vv E h (na := 0) (As := []) (aX12_findHeapMiddles_0 l g s12 hI12 m1_0R e13 m12_0P u12_0_0 (by omega) (by omega) u12_0_4) (oc_mo g) rfl gX12_twice_X12_findHeapMiddles rfl ⟨rfl, rfl⟩ rfl (by decide +kernel) ⟨Nat.le_of_ble_eq_true rfl, Nat.le_of_ble_eq_true rfl⟩ hl.1 rfl (Nat.le_of_ble_eq_true rfl) dX12_twice_34 ⟨Nat.le_of_ble_eq_true rfl, Nat.le_of_ble_eq_true rfl⟩ (fun s20 H locs q20 h => ?_)
        obtain ⟨x20, hI20, f20⟩ := q20
        replace hR := bd_to hR x20
        have hF20 := hF12.call f20 (I := [(35, 39)]) (J := [(75, 86), (88, 89)]) rfl rfl
        have e21 : s20.1 31 = nI m1_0R := ((f20.1 31 rfl)).trans e13
        have e22 : s20.1 35 = nI m12_0P := ((f20.1 35 rfl)).trans u12_0_0
        have a23 : s20.2.2 68 = σ.2.2 68 := (f20.2 68 rfl).trans a14
        have a24 : s20.2.2 69 = σ.2.2 69 := (f20.2 69 rfl).trans a15
        have a25 : s20.2.2 70 = σ.2.2 70 := (f20.2 70 rfl).trans a16
        have a26 : s20.2.2 66 = σ.2.2 66 := (f20.2 66 rfl).trans a17
        have a27 := AP.eq u12_0_4 (f20.2 77 rfl)
        refine lv_iconst (v := 0) hx hb dX12_twice_37 (by decide) ?_
        refine lv_istore_n (lv' := [(3, .int 0), (0, .ref (g.2.1 79)), (1, .int (nI m7_0n)), (2, .int (nI n9))]) hx hb dX12_twice_38 rfl hl (by decide) rfl (fun ls hl => ?_)
        refine lv_iconst (v := 0) hx hb dX12_twice_39 (by decide) ?_
        refine lv_istore (lv' := [(4, .int 0), (3, .int 0), (0, .ref (g.2.1 79)), (1, .int (nI m7_0n)), (2, .int (nI n9))]) hx hb dX12_twice_40 hl (by decide) rfl (fun ls hl => ?_)
        have loop42_28 : ∀ (fu : Nat) (i28_4 : Nat) (i28_3 : Int32), i28_4 ≤ 4 → fX12_twice_0l42 fu (nI m7_0n) (nI n9) i28_3 (nI i28_4) s20 = R → 4 - i28_4 < fu → ∀ (H : Heap) (locs : List Loc) (ls : Array Slot), HW g s20 s H locs → lv_has ls 13 [(4, .int (nI i28_4)), (3, .int i28_3), (0, .ref (g.2.1 79)), (1, .int (nI m7_0n)), (2, .int (nI n9))] → W p l e { frames := 5, cells := 0, slots := 0, locals := 119 } s m args below meth c H locs 0 0 (MQ below PQz args s 0 0 (Aw g)) (F0 m 42 ls []) := by
          intro fu28
          induction fu28 with
          | zero => intro i28_4 i28_3 bi28_4 hR28 hm; exact absurd hm (Nat.not_lt_zero _)
          | succ fu28 ih =>
            have ih28 := ih
            clear ih
            intro i28_4 i28_3 bi28_4 hR28 hm28 H locs ls h hl
            replace hR28 : fX12_twice_0b42 (fX12_twice_0l42 fu28) (nI m7_0n) (nI n9) i28_3 (nI i28_4) s20 = R := hR28
            refine lv_iload hx hb dX12_twice_42 (lv_at hl 0 rfl) ?_
            refine lv_iconst (v := 4) hx hb dX12_twice_44 (by decide) ?_
            refine lv_icmp_ge (tgt := 88) hx hb dX12_twice_45 (by decide) (fun c29 => ?_) (fun c29 => ?_)
            · skip
              replace hR28 := it_t hR28 c29
              have b30 : 4 ≤ i28_4 := y_le (a := 4) (b := i28_4) (by omega) (by omega) c29
              refine lv_bipush (v := (-9)) hx hb dX12_twice_88 (by decide) ?_
              refine lv_istore (lv' := [(4, .int (-9)), (3, .int i28_3), (0, .ref (g.2.1 79)), (1, .int (nI m7_0n)), (2, .int (nI n9))]) hx hb dX12_twice_90 hl (by decide) rfl (fun ls hl => ?_)
              refine lv_bipush (v := (-9)) hx hb dX12_twice_92 (by decide) ?_
              refine lv_istore (lv' := [(5, .int (-9)), (4, .int (-9)), (3, .int i28_3), (0, .ref (g.2.1 79)), (1, .int (nI m7_0n)), (2, .int (nI n9))]) hx hb dX12_twice_94 hl (by decide) rfl (fun ls hl => ?_)
              refine lv_iload_n hx hb dX12_twice_96 rfl (lv_at hl 2 rfl) ?_
              refine lv_aload_n hx hb dX12_twice_97 rfl (lv_at hl 3 rfl) ?_
              refine x_getR E h (fr_mo_rule g) rfl hwX12 (by decide) (by decide +kernel) dX12_twice_98 ?_
              refine lv_iconst (v := 5) hx hb dX12_twice_101 (by decide) ?_
              refine x_ldI E h (ia_mo_rule g) (i := nI 5) (vp_in_nI (by omega) (by decide)) (v := s20.2.2 66 5) (congrArg (s20.2.2 66) (nI_clamp (n := 5) (by omega))) dX12_twice_102 ?_
              replace hR28 := bd_to hR28 (congrArg (s20.2.2 66) (nI_clamp (n := 5) (by omega)))
              refine lv_isub hx hb dX12_twice_103 ?_
              refine lv_topi (fun x31 e31 => ?_)
              replace hR28 := bd_to hR28 e31.symm
              refine lv_iconst (v := 1) hx hb dX12_twice_104 (by decide) ?_
              refine lv_iadd hx hb dX12_twice_105 ?_
              refine lv_topi (fun x32 e32 => ?_)
              replace hR28 := bd_to hR28 e32.symm
              refine lv_istore (lv' := [(6, .int x32), (5, .int (-9)), (4, .int (-9)), (3, .int i28_3), (0, .ref (g.2.1 79)), (1, .int (nI m7_0n)), (2, .int (nI n9))]) hx hb dX12_twice_106 hl (by decide) rfl (fun ls hl => ?_)
              refine lv_aload_n hx hb dX12_twice_108 rfl (lv_at hl 4 rfl) ?_
              refine x_getR E h (fr_mo_best g) rfl hwX12 (by decide) (by decide +kernel) dX12_twice_109 ?_
              refine lv_aload_n hx hb dX12_twice_112 rfl (lv_at hl 4 rfl) ?_
              refine x_getI E h (fi_mo_pieces g) rfl hwX12 (by decide) (by decide +kernel) (v := nI m12_0P) e22 dX12_twice_113 ?_
              replace hR28 := bd_to hR28 e22
              refine x_si E h (na := 2) (As := [.ref (g.2.1 100), .int (nI m12_0P)]) (aX12_heapsIn_2 l g s20 hI20 m12_0P (by omega)) gX12_twice_X12_heapsIn rfl ⟨rfl, rfl⟩ rfl (by decide +kernel) ⟨Nat.le_of_ble_eq_true rfl, Nat.le_of_ble_eq_true rfl⟩ hl.1 rfl (Nat.le_of_ble_eq_true rfl) dX12_twice_116 ⟨Nat.le_of_ble_eq_true rfl, Nat.le_of_ble_eq_true rfl⟩ (fun r33 s33 H locs q33 h => ?_)
              obtain ⟨x33, d33, rfl⟩ := q33
              replace hR28 := bd_to hR28 x33
              rcases d33 with ⟨m33_0n, u33_0_0, rfl⟩
              refine lv_istore (lv' := [(7, .int (nI m33_0n)), (6, .int x32), (5, .int (-9)), (4, .int (-9)), (3, .int i28_3), (0, .ref (g.2.1 79)), (1, .int (nI m7_0n)), (2, .int (nI n9))]) hx hb dX12_twice_119 hl (by decide) rfl (fun ls hl => ?_)
              refine lv_iconst (v := 0) hx hb dX12_twice_121 (by decide) ?_
              refine lv_istore (lv' := [(8, .int 0), (7, .int (nI m33_0n)), (6, .int x32), (5, .int (-9)), (4, .int (-9)), (3, .int i28_3), (0, .ref (g.2.1 79)), (1, .int (nI m7_0n)), (2, .int (nI n9))]) hx hb dX12_twice_122 hl (by decide) rfl (fun ls hl => ?_)
              have loop124_34 : ∀ (fu : Nat) (i34_8 : Nat) (i34_6 : Int32) (i34_5 : Int32) (i34_4 : Int32), i34_8 ≤ m33_0n → fX12_twice_0l124 fu (nI m7_0n) (nI n9) i34_4 i34_5 i34_6 (nI m33_0n) (nI i34_8) s20 = R → m33_0n - i34_8 < fu → ∀ (H : Heap) (locs : List Loc) (ls : Array Slot), HW g s20 s H locs → lv_has ls 13 [(8, .int (nI i34_8)), (7, .int (nI m33_0n)), (6, .int i34_6), (5, .int i34_5), (4, .int i34_4), (3, .int i28_3), (0, .ref (g.2.1 79)), (1, .int (nI m7_0n)), (2, .int (nI n9))] → W p l e { frames := 5, cells := 0, slots := 0, locals := 119 } s m args below meth c H locs 0 0 (MQ below PQz args s 0 0 (Aw g)) (F0 m 124 ls []) := by
                intro fu34
                induction fu34 with
                | zero => intro i34_8 i34_6 i34_5 i34_4 bi34_8 hR34 hm; exact absurd hm (Nat.not_lt_zero _)
                | succ fu34 ih =>
                  have ih34 := ih
                  clear ih
                  intro i34_8 i34_6 i34_5 i34_4 bi34_8 hR34 hm34 H locs ls h hl
                  replace hR34 : fX12_twice_0b124 (fX12_twice_0l124 fu34) (nI m7_0n) (nI n9) i34_4 i34_5 i34_6 (nI m33_0n) (nI i34_8) s20 = R := hR34
                  refine lv_iload hx hb dX12_twice_124 (lv_at hl 0 rfl) ?_
                  refine lv_iload hx hb dX12_twice_126 (lv_at hl 1 rfl) ?_
                  refine lv_icmp_ge (tgt := 276) hx hb dX12_twice_128 (by decide) (fun c35 => ?_) (fun c35 => ?_)
                  · skip
                    replace hR34 := it_t hR34 c35
                    have b36 : m33_0n ≤ i34_8 := y_le (a := m33_0n) (b := i34_8) (by omega) (by omega) c35
                    refine lv_iload_n hx hb dX12_twice_276 rfl (lv_at hl 8 rfl) ?_
                    refine lv_if_ne (tgt := 285) hx hb dX12_twice_277 (by decide) (fun c37 => ?_) (fun c37 => ?_)
                    · skip
                      replace hR34 := it_f hR34 c37
                      have b38 : ¬ n9 = 0 := y_ne (a := n9) (b := 0) (by omega) (by omega) c37
                      refine lv_iload hx hb dX12_twice_285 (lv_at hl 3 rfl) ?_
                      replace hR34 : fX12_twice_0b287 i34_5 s20 = R := hR34
                      subst hPQ
                      exact x_iret E h ⟨hR0.trans hR34.symm, hI20, hF20⟩ dX12_twice_287
                    · skip
                      replace hR34 := it_t hR34 c37
                      have b39 : n9 = 0 := y_eq (a := n9) (b := 0) (by omega) (by omega) c37
                      refine lv_iload hx hb dX12_twice_280 (lv_at hl 4 rfl) ?_
                      refine lv_goto (tgt := 287) hx hb dX12_twice_282 (by decide) ?_
                      replace hR34 : fX12_twice_0b287 i34_4 s20 = R := hR34
                      subst hPQ
                      exact x_iret E h ⟨hR0.trans hR34.symm, hI20, hF20⟩ dX12_twice_287
                  · skip
                    replace hR34 := it_f hR34 c35
                    have b40 : i34_8 < m33_0n := y_nle (a := m33_0n) (b := i34_8) (by omega) (by omega) c35
                    refine lv_iload hx hb dX12_twice_131 (lv_at hl 0 rfl) ?_
                    refine lv_iconst (v := 1) hx hb dX12_twice_133 (by decide) ?_
                    refine lv_iadd hx hb dX12_twice_134 ?_
                    refine x_topI (v2 := nI (i34_8 + 1)) (nI_add i34_8 1) ?_
                    replace hR34 := bd_to hR34 (nI_add i34_8 1)
                    refine lv_istore (lv' := [(9, .int (nI (i34_8 + 1))), (8, .int (nI i34_8)), (7, .int (nI m33_0n)), (6, .int i34_6), (5, .int i34_5), (4, .int i34_4), (3, .int i28_3), (0, .ref (g.2.1 79)), (1, .int (nI m7_0n)), (2, .int (nI n9))]) hx hb dX12_twice_135 hl (by decide) rfl (fun ls hl => ?_)
                    have loop137_41 : ∀ (fu : Nat) (i41_9 : Nat) (i41_6 : Int32) (i41_5 : Int32) (i41_4 : Int32), i41_9 ≤ m33_0n → fX12_twice_0l137 (fX12_twice_0l124 fu34) fu (nI m7_0n) (nI n9) i41_4 i41_5 i41_6 (nI m33_0n) (nI i34_8) (nI i41_9) s20 = R → m33_0n - i41_9 < fu → ∀ (H : Heap) (locs : List Loc) (ls : Array Slot), HW g s20 s H locs → lv_has ls 13 [(9, .int (nI i41_9)), (8, .int (nI i34_8)), (7, .int (nI m33_0n)), (6, .int i41_6), (5, .int i41_5), (4, .int i41_4), (3, .int i28_3), (0, .ref (g.2.1 79)), (1, .int (nI m7_0n)), (2, .int (nI n9))] → W p l e { frames := 5, cells := 0, slots := 0, locals := 119 } s m args below meth c H locs 0 0 (MQ below PQz args s 0 0 (Aw g)) (F0 m 137 ls []) := by
                      intro fu41
                      induction fu41 with
                      | zero => intro i41_9 i41_6 i41_5 i41_4 bi41_9 hR41 hm; exact absurd hm (Nat.not_lt_zero _)
                      | succ fu41 ih =>
                        have ih41 := ih
                        clear ih
                        intro i41_9 i41_6 i41_5 i41_4 bi41_9 hR41 hm41 H locs ls h hl
                        replace hR41 : fX12_twice_0b137 (fX12_twice_0l124 fu34) (fX12_twice_0l137 (fX12_twice_0l124 fu34) fu41) (nI m7_0n) (nI n9) i41_4 i41_5 i41_6 (nI m33_0n) (nI i34_8) (nI i41_9) s20 = R := hR41
                        refine lv_iload hx hb dX12_twice_137 (lv_at hl 0 rfl) ?_
                        refine lv_iload hx hb dX12_twice_139 (lv_at hl 2 rfl) ?_
                        refine lv_icmp_ge (tgt := 270) hx hb dX12_twice_141 (by decide) (fun c42 => ?_) (fun c42 => ?_)
                        · skip
                          replace hR41 := it_t hR41 c42
                          have b43 : m33_0n ≤ i41_9 := y_le (a := m33_0n) (b := i41_9) (by omega) (by omega) c42
                          replace hR41 := bd_to hR41 (nI_add i34_8 1)
                          refine lv_iinc (v := (nI (i34_8 + 1))) (lv' := [(8, .int (nI (i34_8 + 1))), (9, .int (nI i41_9)), (7, .int (nI m33_0n)), (6, .int i41_6), (5, .int i41_5), (4, .int i41_4), (3, .int i28_3), (0, .ref (g.2.1 79)), (1, .int (nI m7_0n)), (2, .int (nI n9))]) hx hb dX12_twice_270 hl (k := 1) rfl (nI_add i34_8 1) (by decide) rfl (fun ls hl => ?_)
                          refine lv_goto (tgt := 124) hx hb dX12_twice_273 (by decide) ?_
                          exact ih34 (i34_8 + 1) i41_6 i41_5 i41_4 (by omega) hR41 (by omega) _ _ _ h (lv_sub hl [0, 2, 3, 4, 5, 6, 7, 8, 9] rfl)
                        · skip
                          replace hR41 := it_f hR41 c42
                          have b44 : i41_9 < m33_0n := y_nle (a := m33_0n) (b := i41_9) (by omega) (by omega) c42
                          refine lv_iconst (v := 0) hx hb dX12_twice_144 (by decide) ?_
                          refine lv_istore (lv' := [(10, .int 0), (9, .int (nI i41_9)), (8, .int (nI i34_8)), (7, .int (nI m33_0n)), (6, .int i41_6), (5, .int i41_5), (4, .int i41_4), (3, .int i28_3), (0, .ref (g.2.1 79)), (1, .int (nI m7_0n)), (2, .int (nI n9))]) hx hb dX12_twice_145 hl (by decide) rfl (fun ls hl => ?_)
                          refine lv_iconst (v := 0) hx hb dX12_twice_147 (by decide) ?_
                          refine lv_istore (lv' := [(11, .int 0), (10, .int 0), (9, .int (nI i41_9)), (8, .int (nI i34_8)), (7, .int (nI m33_0n)), (6, .int i41_6), (5, .int i41_5), (4, .int i41_4), (3, .int i28_3), (0, .ref (g.2.1 79)), (1, .int (nI m7_0n)), (2, .int (nI n9))]) hx hb dX12_twice_148 hl (by decide) rfl (fun ls hl => ?_)
                          have loop150_45 : ∀ (fu : Nat) (i45_11 : Nat) (i45_10 : Int32), i45_11 ≤ 4 → fX12_twice_0l150 (fX12_twice_0l124 fu34) (fX12_twice_0l137 (fX12_twice_0l124 fu34) fu41) fu (nI m7_0n) (nI n9) i41_4 i41_5 i41_6 (nI m33_0n) (nI i34_8) (nI i41_9) i45_10 (nI i45_11) s20 = R → 4 - i45_11 < fu → ∀ (H : Heap) (locs : List Loc) (ls : Array Slot), HW g s20 s H locs → lv_has ls 13 [(11, .int (nI i45_11)), (10, .int i45_10), (9, .int (nI i41_9)), (8, .int (nI i34_8)), (7, .int (nI m33_0n)), (6, .int i41_6), (5, .int i41_5), (4, .int i41_4), (3, .int i28_3), (0, .ref (g.2.1 79)), (1, .int (nI m7_0n)), (2, .int (nI n9))] → W p l e { frames := 5, cells := 0, slots := 0, locals := 119 } s m args below meth c H locs 0 0 (MQ below PQz args s 0 0 (Aw g)) (F0 m 150 ls []) := by
                            intro fu45
                            induction fu45 with
                            | zero => intro i45_11 i45_10 bi45_11 hR45 hm; exact absurd hm (Nat.not_lt_zero _)
                            | succ fu45 ih =>
                              have ih45 := ih
                              clear ih
                              intro i45_11 i45_10 bi45_11 hR45 hm45 H locs ls h hl
                              replace hR45 : fX12_twice_0b150 (fX12_twice_0l124 fu34) (fX12_twice_0l137 (fX12_twice_0l124 fu34) fu41) (fX12_twice_0l150 (fX12_twice_0l124 fu34) (fX12_twice_0l137 (fX12_twice_0l124 fu34) fu41) fu45) (nI m7_0n) (nI n9) i41_4 i41_5 i41_6 (nI m33_0n) (nI i34_8) (nI i41_9) i45_10 (nI i45_11) s20 = R := hR45
                              refine lv_iload hx hb dX12_twice_150 (lv_at hl 0 rfl) ?_
                              refine lv_iconst (v := 4) hx hb dX12_twice_152 (by decide) ?_
                              refine lv_icmp_ge (tgt := 223) hx hb dX12_twice_153 (by decide) (fun c46 => ?_) (fun c46 => ?_)
                              · skip
                                replace hR45 := it_t hR45 c46
                                have b47 : 4 ≤ i45_11 := y_le (a := 4) (b := i45_11) (by omega) (by omega) c46
                                refine lv_iload hx hb dX12_twice_223 (lv_at hl 3 rfl) ?_
                                refine lv_aload_n hx hb dX12_twice_225 rfl (lv_at hl 9 rfl) ?_
                                refine x_getR E h (fr_mo_best g) rfl hwX12 (by decide) (by decide +kernel) dX12_twice_226 ?_
                                refine lv_iload_n hx hb dX12_twice_229 rfl (lv_at hl 10 rfl) ?_
                                obtain ⟨n48, b48, e48⟩ := hI20.2 86 8 rfl m7_0n
                                refine x_ldI E h (ia_mo_best g) (i := nI m7_0n) (vp_in_nI (by omega) (by decide)) (v := nI n48) ((congrArg (s20.2.2 86) (nI_clamp (n := m7_0n) (by omega))).trans e48) dX12_twice_230 ?_
                                replace hR45 := bd_to hR45 ((congrArg (s20.2.2 86) (nI_clamp (n := m7_0n) (by omega))).trans e48)
                                have j264_51 : ∀ (y51_l6 : Int32) (y51_l5 : Int32) (y51_l4 : Int32), fX12_twice_0b264 (fX12_twice_0l124 fu34) (fX12_twice_0l137 (fX12_twice_0l124 fu34) fu41) (nI m7_0n) (nI n9) y51_l4 y51_l5 y51_l6 (nI m33_0n) (nI i34_8) (nI i41_9) s20 = R → ∀ (H : Heap) (locs : List Loc) (ls : Array Slot), HW g s20 s H locs → lv_has ls 13 [(11, .int (nI i45_11)), (10, .int i45_10), (9, .int (nI i41_9)), (8, .int (nI i34_8)), (7, .int (nI m33_0n)), (6, .int y51_l6), (5, .int y51_l5), (4, .int y51_l4), (3, .int i28_3), (0, .ref (g.2.1 79)), (1, .int (nI m7_0n)), (2, .int (nI n9))] → W p l e { frames := 5, cells := 0, slots := 0, locals := 119 } s m args below meth c H locs 0 0 (MQ below PQz args s 0 0 (Aw g)) (F0 m 264 ls []) := by
                                  intro y51_l6 y51_l5 y51_l4 hR51 H locs ls h hl
                                  replace hR51 := bd_to hR51 (nI_add i41_9 1)
                                  refine lv_iinc (v := (nI (i41_9 + 1))) (lv' := [(9, .int (nI (i41_9 + 1))), (11, .int (nI i45_11)), (10, .int i45_10), (8, .int (nI i34_8)), (7, .int (nI m33_0n)), (6, .int y51_l6), (5, .int y51_l5), (4, .int y51_l4), (3, .int i28_3), (0, .ref (g.2.1 79)), (1, .int (nI m7_0n)), (2, .int (nI n9))]) hx hb dX12_twice_264 hl (k := 2) rfl (nI_add i41_9 1) (by decide) rfl (fun ls hl => ?_)
                                  refine lv_goto (tgt := 137) hx hb dX12_twice_267 (by decide) ?_
                                  exact ih41 (i41_9 + 1) y51_l6 y51_l5 y51_l4 (by omega) hR51 (by omega) _ _ _ h (lv_sub hl [0, 3, 4, 5, 6, 7, 8, 9, 10, 11] rfl)
                                refine lv_icmp_eq (tgt := 264) hx hb dX12_twice_231 (by decide) (fun c49 => ?_) (fun c49 => ?_)
                                · skip
                                  replace hR45 := it_t hR45 c49
                                  have b50 : i34_8 = n48 := y_eq (a := i34_8) (b := n48) (by omega) (by omega) c49
                                  exact j264_51 i41_6 i41_5 i41_4 hR45 _ _ _ h (lv_sub hl [0, 1, 2, 3, 4, 5, 6, 7, 8, 9, 10, 11] rfl)
                                · skip
                                  replace hR45 := it_f hR45 c49
                                  have b52 : ¬ i34_8 = n48 := y_ne (a := i34_8) (b := n48) (by omega) (by omega) c49
                                  refine lv_iload hx hb dX12_twice_234 (lv_at hl 2 rfl) ?_
                                  refine lv_aload_n hx hb dX12_twice_236 rfl (lv_at hl 9 rfl) ?_
                                  refine x_getR E h (fr_mo_best g) rfl hwX12 (by decide) (by decide +kernel) dX12_twice_237 ?_
                                  refine lv_iload_n hx hb dX12_twice_240 rfl (lv_at hl 10 rfl) ?_
                                  refine x_ldI E h (ia_mo_best g) (i := nI m7_0n) (vp_in_nI (by omega) (by decide)) (v := nI n48) ((congrArg (s20.2.2 86) (nI_clamp (n := m7_0n) (by omega))).trans e48) dX12_twice_241 ?_
                                  replace hR45 := bd_to hR45 ((congrArg (s20.2.2 86) (nI_clamp (n := m7_0n) (by omega))).trans e48)
                                  refine lv_icmp_eq (tgt := 264) hx hb dX12_twice_242 (by decide) (fun c53 => ?_) (fun c53 => ?_)
                                  · skip
                                    replace hR45 := it_t hR45 c53
                                    have b54 : i41_9 = n48 := y_eq (a := i41_9) (b := n48) (by omega) (by omega) c53
                                    exact j264_51 i41_6 i41_5 i41_4 hR45 _ _ _ h (lv_sub hl [0, 1, 2, 3, 4, 5, 6, 7, 8, 9, 10, 11] rfl)
                                  · skip
                                    replace hR45 := it_f hR45 c53
                                    have b55 : ¬ i41_9 = n48 := y_ne (a := i41_9) (b := n48) (by omega) (by omega) c53
                                    refine lv_iload hx hb dX12_twice_245 (lv_at hl 1 rfl) ?_
                                    refine lv_iload hx hb dX12_twice_247 (lv_at hl 5 rfl) ?_
                                    refine lv_icmp_ge (tgt := 264) hx hb dX12_twice_249 (by decide) (fun c56 => ?_) (fun c56 => ?_)
                                    · skip
                                      replace hR45 := it_t hR45 c56
                                      exact j264_51 i41_6 i41_5 i41_4 hR45 _ _ _ h (lv_sub hl [0, 1, 2, 3, 4, 5, 6, 7, 8, 9, 10, 11] rfl)
                                    · skip
                                      replace hR45 := it_f hR45 c56
                                      refine lv_iload hx hb dX12_twice_252 (lv_at hl 1 rfl) ?_
                                      refine lv_istore (lv' := [(6, .int i45_10), (11, .int (nI i45_11)), (10, .int i45_10), (9, .int (nI i41_9)), (8, .int (nI i34_8)), (7, .int (nI m33_0n)), (5, .int i41_5), (4, .int i41_4), (3, .int i28_3), (0, .ref (g.2.1 79)), (1, .int (nI m7_0n)), (2, .int (nI n9))]) hx hb dX12_twice_254 hl (by decide) rfl (fun ls hl => ?_)
                                      refine lv_iload hx hb dX12_twice_256 (lv_at hl 4 rfl) ?_
                                      refine lv_istore (lv' := [(4, .int (nI i34_8)), (6, .int i45_10), (11, .int (nI i45_11)), (10, .int i45_10), (9, .int (nI i41_9)), (8, .int (nI i34_8)), (7, .int (nI m33_0n)), (5, .int i41_5), (3, .int i28_3), (0, .ref (g.2.1 79)), (1, .int (nI m7_0n)), (2, .int (nI n9))]) hx hb dX12_twice_258 hl (by decide) rfl (fun ls hl => ?_)
                                      refine lv_iload hx hb dX12_twice_260 (lv_at hl 4 rfl) ?_
                                      refine lv_istore (lv' := [(5, .int (nI i41_9)), (4, .int (nI i34_8)), (6, .int i45_10), (11, .int (nI i45_11)), (10, .int i45_10), (9, .int (nI i41_9)), (8, .int (nI i34_8)), (7, .int (nI m33_0n)), (3, .int i28_3), (0, .ref (g.2.1 79)), (1, .int (nI m7_0n)), (2, .int (nI n9))]) hx hb dX12_twice_262 hl (by decide) rfl (fun ls hl => ?_)
                                      exact j264_51 i45_10 (nI i41_9) (nI i34_8) hR45 _ _ _ h (lv_sub hl [3, 4, 5, 6, 7, 2, 0, 1, 8, 9, 10, 11] rfl)
                              · skip
                                replace hR45 := it_f hR45 c46
                                have b59 : i45_11 < 4 := y_nle (a := 4) (b := i45_11) (by omega) (by omega) c46
                                refine lv_aload_n hx hb dX12_twice_156 rfl (lv_at hl 9 rfl) ?_
                                refine x_getR E h (fr_mo_heapMiddle g) rfl hwX12 (by decide) (by decide +kernel) dX12_twice_157 ?_
                                refine lv_iconst (v := 4) hx hb dX12_twice_160 (by decide) ?_
                                refine lv_iload hx hb dX12_twice_161 (lv_at hl 3 rfl) ?_
                                refine lv_imul hx hb dX12_twice_163 ?_
                                refine x_topI (v2 := nI (4 * i34_8)) (pk_mul 4 i34_8) ?_
                                replace hR45 := bd_to hR45 (pk_mul 4 i34_8)
                                refine lv_iload hx hb dX12_twice_164 (lv_at hl 0 rfl) ?_
                                refine lv_iadd hx hb dX12_twice_166 ?_
                                refine x_topI (v2 := nI ((4 * i34_8) + i45_11)) (nI_add (4 * i34_8) i45_11) ?_
                                replace hR45 := bd_to hR45 (nI_add (4 * i34_8) i45_11)
                                refine x_ldI E h (ia_mo_heapMiddle g) (i := nI ((4 * i34_8) + i45_11)) (vp_in_nI (by omega) (by decide)) (v := s20.2.2 89 ((4 * i34_8) + i45_11)) (congrArg (s20.2.2 89) (nI_clamp (n := (4 * i34_8) + i45_11) (by omega))) dX12_twice_167 ?_
                                replace hR45 := bd_to hR45 (congrArg (s20.2.2 89) (nI_clamp (n := (4 * i34_8) + i45_11) (by omega)))
                                refine lv_aload_n hx hb dX12_twice_168 rfl (lv_at hl 9 rfl) ?_
                                refine x_getR E h (fr_mo_heapMiddle g) rfl hwX12 (by decide) (by decide +kernel) dX12_twice_169 ?_
                                refine lv_iconst (v := 4) hx hb dX12_twice_172 (by decide) ?_
                                refine lv_iload hx hb dX12_twice_173 (lv_at hl 2 rfl) ?_
                                refine lv_imul hx hb dX12_twice_175 ?_
                                refine x_topI (v2 := nI (4 * i41_9)) (pk_mul 4 i41_9) ?_
                                replace hR45 := bd_to hR45 (pk_mul 4 i41_9)
                                refine lv_iload hx hb dX12_twice_176 (lv_at hl 0 rfl) ?_
                                refine lv_iadd hx hb dX12_twice_178 ?_
                                refine x_topI (v2 := nI ((4 * i41_9) + i45_11)) (nI_add (4 * i41_9) i45_11) ?_
                                replace hR45 := bd_to hR45 (nI_add (4 * i41_9) i45_11)
                                refine x_ldI E h (ia_mo_heapMiddle g) (i := nI ((4 * i41_9) + i45_11)) (vp_in_nI (by omega) (by decide)) (v := s20.2.2 89 ((4 * i41_9) + i45_11)) (congrArg (s20.2.2 89) (nI_clamp (n := (4 * i41_9) + i45_11) (by omega))) dX12_twice_179 ?_
                                replace hR45 := bd_to hR45 (congrArg (s20.2.2 89) (nI_clamp (n := (4 * i41_9) + i45_11) (by omega)))
                                refine lv_iadd hx hb dX12_twice_180 ?_
                                refine lv_topi (fun x60 e60 => ?_)
                                replace hR45 := bd_to hR45 e60.symm
                                refine lv_istore (lv' := [(12, .int x60), (11, .int (nI i45_11)), (10, .int i45_10), (9, .int (nI i41_9)), (8, .int (nI i34_8)), (7, .int (nI m33_0n)), (6, .int i41_6), (5, .int i41_5), (4, .int i41_4), (3, .int i28_3), (0, .ref (g.2.1 79)), (1, .int (nI m7_0n)), (2, .int (nI n9))]) hx hb dX12_twice_181 hl (by decide) rfl (fun ls hl => ?_)
                                refine lv_iload hx hb dX12_twice_183 (lv_at hl 2 rfl) ?_
                                refine lv_aload_n hx hb dX12_twice_185 rfl (lv_at hl 10 rfl) ?_
                                refine x_getR E h (fr_mo_middle g) rfl hwX12 (by decide) (by decide +kernel) dX12_twice_186 ?_
                                refine lv_iconst (v := 4) hx hb dX12_twice_189 (by decide) ?_
                                refine lv_iload_n hx hb dX12_twice_190 rfl (lv_at hl 11 rfl) ?_
                                refine lv_imul hx hb dX12_twice_191 ?_
                                refine x_topI (v2 := nI (4 * m7_0n)) (pk_mul 4 m7_0n) ?_
                                replace hR45 := bd_to hR45 (pk_mul 4 m7_0n)
                                refine lv_iload hx hb dX12_twice_192 (lv_at hl 1 rfl) ?_
                                refine lv_iadd hx hb dX12_twice_194 ?_
                                refine x_topI (v2 := nI ((4 * m7_0n) + i45_11)) (nI_add (4 * m7_0n) i45_11) ?_
                                replace hR45 := bd_to hR45 (nI_add (4 * m7_0n) i45_11)
                                refine x_ldI E h (ia_mo_middle g) (i := nI ((4 * m7_0n) + i45_11)) (vp_in_nI (by omega) (by decide)) (v := s20.2.2 78 ((4 * m7_0n) + i45_11)) (congrArg (s20.2.2 78) (nI_clamp (n := (4 * m7_0n) + i45_11) (by omega))) dX12_twice_195 ?_
                                replace hR45 := bd_to hR45 (congrArg (s20.2.2 78) (nI_clamp (n := (4 * m7_0n) + i45_11) (by omega)))
                                refine lv_iload hx hb dX12_twice_196 (lv_at hl 0 rfl) ?_
                                refine lv_bipush (v := 99) hx hb dX12_twice_198 (by decide) ?_
                                have j210_63 : ∀ (y63_s0 : Int32), fX12_twice_0b210 (fX12_twice_0l124 fu34) (fX12_twice_0l137 (fX12_twice_0l124 fu34) fu41) (fX12_twice_0l150 (fX12_twice_0l124 fu34) (fX12_twice_0l137 (fX12_twice_0l124 fu34) fu41) fu45) (nI m7_0n) (nI n9) i41_4 i41_5 i41_6 (nI m33_0n) (nI i34_8) (nI i41_9) (nI i45_11) y63_s0 (s20.2.2 78 ((4 * m7_0n) + i45_11)) i45_10 s20 = R → ∀ (H : Heap) (locs : List Loc) (ls : Array Slot), HW g s20 s H locs → lv_has ls 13 [(12, .int x60), (11, .int (nI i45_11)), (10, .int i45_10), (9, .int (nI i41_9)), (8, .int (nI i34_8)), (7, .int (nI m33_0n)), (6, .int i41_6), (5, .int i41_5), (4, .int i41_4), (3, .int i28_3), (0, .ref (g.2.1 79)), (1, .int (nI m7_0n)), (2, .int (nI n9))] → W p l e { frames := 5, cells := 0, slots := 0, locals := 119 } s m args below meth c H locs 0 0 (MQ below PQz args s 0 0 (Aw g)) (F0 m 210 ls [.int y63_s0, .int (s20.2.2 78 ((4 * m7_0n) + i45_11)), .int i45_10]) := by
                                  intro y63_s0 hR63 H locs ls h hl
                                  refine lv_isub hx hb dX12_twice_210 ?_
                                  refine lv_topi (fun x64 e64 => ?_)
                                  replace hR63 := bd_to hR63 e64.symm
                                  refine x_si E h (na := 1) (As := [.int x64]) (aX12_size_0 l g s20 hI20 x64) gX12_twice_X12_size rfl ⟨rfl, rfl⟩ rfl (by decide +kernel) ⟨Nat.le_of_ble_eq_true rfl, Nat.le_of_ble_eq_true rfl⟩ hl.1 rfl (Nat.le_of_ble_eq_true rfl) dX12_twice_211 ⟨Nat.le_of_ble_eq_true rfl, Nat.le_of_ble_eq_true rfl⟩ (fun r65 s65 H locs q65 h => ?_)
                                  obtain ⟨x65, rfl⟩ := q65
                                  replace hR63 := bd_to hR63 x65
                                  refine lv_iadd hx hb dX12_twice_214 ?_
                                  refine lv_topi (fun x66 e66 => ?_)
                                  replace hR63 := bd_to hR63 e66.symm
                                  refine lv_istore (lv' := [(10, .int x66), (12, .int x60), (11, .int (nI i45_11)), (9, .int (nI i41_9)), (8, .int (nI i34_8)), (7, .int (nI m33_0n)), (6, .int i41_6), (5, .int i41_5), (4, .int i41_4), (3, .int i28_3), (0, .ref (g.2.1 79)), (1, .int (nI m7_0n)), (2, .int (nI n9))]) hx hb dX12_twice_215 hl (by decide) rfl (fun ls hl => ?_)
                                  replace hR63 := bd_to hR63 (nI_add i45_11 1)
                                  refine lv_iinc (v := (nI (i45_11 + 1))) (lv' := [(11, .int (nI (i45_11 + 1))), (10, .int x66), (12, .int x60), (9, .int (nI i41_9)), (8, .int (nI i34_8)), (7, .int (nI m33_0n)), (6, .int i41_6), (5, .int i41_5), (4, .int i41_4), (3, .int i28_3), (0, .ref (g.2.1 79)), (1, .int (nI m7_0n)), (2, .int (nI n9))]) hx hb dX12_twice_217 hl (k := 2) rfl (nI_add i45_11 1) (by decide) rfl (fun ls hl => ?_)
                                  refine lv_goto (tgt := 150) hx hb dX12_twice_220 (by decide) ?_
                                  exact ih45 (i45_11 + 1) x66 (by omega) hR63 (by omega) _ _ _ h (lv_sub hl [0, 1, 3, 4, 5, 6, 7, 8, 9, 10, 11, 12] rfl)
                                refine lv_icmp_le (tgt := 208) hx hb dX12_twice_200 (by decide) (fun c61 => ?_) (fun c61 => ?_)
                                · skip
                                  replace hR45 := it_t hR45 c61
                                  refine lv_iload hx hb dX12_twice_208 (lv_at hl 0 rfl) ?_
                                  exact j210_63 x60 hR45 _ _ _ h (lv_sub hl [0, 1, 2, 3, 4, 5, 6, 7, 8, 9, 10, 11, 12] rfl)
                                · skip
                                  replace hR45 := it_f hR45 c61
                                  refine lv_bipush (v := 99) hx hb dX12_twice_203 (by decide) ?_
                                  refine lv_goto (tgt := 210) hx hb dX12_twice_205 (by decide) ?_
                                  exact j210_63 99 hR45 _ _ _ h (lv_sub hl [0, 1, 2, 3, 4, 5, 6, 7, 8, 9, 10, 11, 12] rfl)
                          exact loop150_45 4096 0 0 (Nat.zero_le _) hR41 (by omega) _ _ _ h (lv_sub hl [0, 1, 2, 3, 4, 5, 6, 7, 8, 9, 10, 11] rfl)
                    exact loop137_41 4096 (i34_8 + 1) i34_6 i34_5 i34_4 (by omega) hR34 (by omega) _ _ _ h (lv_sub hl [0, 1, 2, 3, 4, 5, 6, 7, 8, 9] rfl)
              exact loop124_34 4096 0 x32 (-9) (-9) (Nat.zero_le _) hR28 (by omega) _ _ _ h (lv_sub hl [0, 1, 2, 3, 4, 5, 6, 7, 8] rfl)
            · skip
              replace hR28 := it_f hR28 c29
              have b68 : i28_4 < 4 := y_nle (a := 4) (b := i28_4) (by omega) (by omega) c29
              refine lv_iload_n hx hb dX12_twice_48 rfl (lv_at hl 1 rfl) ?_
              refine lv_aload_n hx hb dX12_twice_49 rfl (lv_at hl 2 rfl) ?_
              refine x_getR E h (fr_mo_middle g) rfl hwX12 (by decide) (by decide +kernel) dX12_twice_50 ?_
              refine lv_iconst (v := 4) hx hb dX12_twice_53 (by decide) ?_
              refine lv_iload_n hx hb dX12_twice_54 rfl (lv_at hl 3 rfl) ?_
              refine lv_imul hx hb dX12_twice_55 ?_
              refine x_topI (v2 := nI (4 * m7_0n)) (pk_mul 4 m7_0n) ?_
              replace hR28 := bd_to hR28 (pk_mul 4 m7_0n)
              refine lv_iload hx hb dX12_twice_56 (lv_at hl 0 rfl) ?_
              refine lv_iadd hx hb dX12_twice_58 ?_
              refine x_topI (v2 := nI ((4 * m7_0n) + i28_4)) (nI_add (4 * m7_0n) i28_4) ?_
              replace hR28 := bd_to hR28 (nI_add (4 * m7_0n) i28_4)
              refine x_ldI E h (ia_mo_middle g) (i := nI ((4 * m7_0n) + i28_4)) (vp_in_nI (by omega) (by decide)) (v := s20.2.2 78 ((4 * m7_0n) + i28_4)) (congrArg (s20.2.2 78) (nI_clamp (n := (4 * m7_0n) + i28_4) (by omega))) dX12_twice_59 ?_
              replace hR28 := bd_to hR28 (congrArg (s20.2.2 78) (nI_clamp (n := (4 * m7_0n) + i28_4) (by omega)))
              refine lv_aload_n hx hb dX12_twice_60 rfl (lv_at hl 2 rfl) ?_
              refine x_getR E h (fr_mo_heapMiddle g) rfl hwX12 (by decide) (by decide +kernel) dX12_twice_61 ?_
              refine lv_iconst (v := 4) hx hb dX12_twice_64 (by decide) ?_
              refine lv_aload_n hx hb dX12_twice_65 rfl (lv_at hl 2 rfl) ?_
              refine x_getR E h (fr_mo_best g) rfl hwX12 (by decide) (by decide +kernel) dX12_twice_66 ?_
              refine lv_iload_n hx hb dX12_twice_69 rfl (lv_at hl 3 rfl) ?_
              obtain ⟨n69, b69, e69⟩ := hI20.2 86 8 rfl m7_0n
              refine x_ldI E h (ia_mo_best g) (i := nI m7_0n) (vp_in_nI (by omega) (by decide)) (v := nI n69) ((congrArg (s20.2.2 86) (nI_clamp (n := m7_0n) (by omega))).trans e69) dX12_twice_70 ?_
              replace hR28 := bd_to hR28 ((congrArg (s20.2.2 86) (nI_clamp (n := m7_0n) (by omega))).trans e69)
              refine lv_imul hx hb dX12_twice_71 ?_
              refine x_topI (v2 := nI (4 * n69)) (pk_mul 4 n69) ?_
              replace hR28 := bd_to hR28 (pk_mul 4 n69)
              refine lv_iload hx hb dX12_twice_72 (lv_at hl 0 rfl) ?_
              refine lv_iadd hx hb dX12_twice_74 ?_
              refine x_topI (v2 := nI ((4 * n69) + i28_4)) (nI_add (4 * n69) i28_4) ?_
              replace hR28 := bd_to hR28 (nI_add (4 * n69) i28_4)
              refine x_ldI E h (ia_mo_heapMiddle g) (i := nI ((4 * n69) + i28_4)) (vp_in_nI (by omega) (by decide)) (v := s20.2.2 89 ((4 * n69) + i28_4)) (congrArg (s20.2.2 89) (nI_clamp (n := (4 * n69) + i28_4) (by omega))) dX12_twice_75 ?_
              replace hR28 := bd_to hR28 (congrArg (s20.2.2 89) (nI_clamp (n := (4 * n69) + i28_4) (by omega)))
              refine lv_isub hx hb dX12_twice_76 ?_
              refine lv_topi (fun x70 e70 => ?_)
              replace hR28 := bd_to hR28 e70.symm
              refine x_si E h (na := 1) (As := [.int x70]) (aX12_size_0 l g s20 hI20 x70) gX12_twice_X12_size rfl ⟨rfl, rfl⟩ rfl (by decide +kernel) ⟨Nat.le_of_ble_eq_true rfl, Nat.le_of_ble_eq_true rfl⟩ hl.1 rfl (Nat.le_of_ble_eq_true rfl) dX12_twice_77 ⟨Nat.le_of_ble_eq_true rfl, Nat.le_of_ble_eq_true rfl⟩ (fun r71 s71 H locs q71 h => ?_)
              obtain ⟨x71, rfl⟩ := q71
              replace hR28 := bd_to hR28 x71
              refine lv_iadd hx hb dX12_twice_80 ?_
              refine lv_topi (fun x72 e72 => ?_)
              replace hR28 := bd_to hR28 e72.symm
              refine lv_istore_n (lv' := [(3, .int x72), (4, .int (nI i28_4)), (0, .ref (g.2.1 79)), (1, .int (nI m7_0n)), (2, .int (nI n9))]) hx hb dX12_twice_81 rfl hl (by decide) rfl (fun ls hl => ?_)
              replace hR28 := bd_to hR28 (nI_add i28_4 1)
              refine lv_iinc (v := (nI (i28_4 + 1))) (lv' := [(4, .int (nI (i28_4 + 1))), (3, .int x72), (0, .ref (g.2.1 79)), (1, .int (nI m7_0n)), (2, .int (nI n9))]) hx hb dX12_twice_82 hl (k := 1) rfl (nI_add i28_4 1) (by decide) rfl (fun ls hl => ?_)
              refine lv_goto (tgt := 42) hx hb dX12_twice_85 (by decide) ?_
              exact ih28 (i28_4 + 1) x72 (by omega) hR28 (by omega) _ _ _ h (lv_sub hl [0, 1, 2, 3, 4] rfl)
        exact loop42_28 4096 0 0 (Nat.zero_le _) hR (by omega) _ _ _ h (lv_sub hl [0, 1, 2, 3, 4] rfl)
      · skip
        replace hR := it_t hR (by decide)
        refine lv_if_ne (tgt := 33) hx hb dX12_twice_27 (by decide) (fun c => absurd (by decide) c) (fun _ => ?_)
        refine lv_bipush (v := (-2)) hx hb dX12_twice_30 (by decide) ?_
        subst hPQ
        exact x_iret E h ⟨hR0.trans hR.symm, hI12, hF12⟩ dX12_twice_32
    · skip
      replace hR := it_t hR (by decide)
      refine lv_if_ne (tgt := 23) hx hb dX12_twice_18 (by decide) (fun c => absurd (by decide) c) (fun _ => ?_)
      refine lv_iconst (v := (-1)) hx hb dX12_twice_21 (by decide) ?_
      subst hPQ
      exact x_iret E h ⟨hR0.trans hR.symm, hI1, hF1⟩ dX12_twice_22
  · skip
    replace hR := it_t hR (by decide)
    refine lv_if_eq (tgt := 21) hx hb dX12_twice_9 (by decide) (fun _ => ?_) (fun c => absurd (by decide) c)
    refine lv_iconst (v := (-1)) hx hb dX12_twice_21 (by decide) ?_
    subst hPQ
    exact x_iret E h ⟨hR0.trans hR.symm, hI1, hF1⟩ dX12_twice_22
