set_option maxHeartbeats 4000000 in
set_option maxRecDepth 100000 in
theorem aX12_errors_0 (l : Launch) (g : CX) (σ : ST) (hI : INV σ) (p1 : Int32) : XM l g yX12_errors wsX12_errors { frames := 5, cells := 0, slots := 0, locals := 119 } [.ref (g.2.1 79), .int p1] σ (XQi g (fun r σ' => INV σ' ∧ Fr [(35, 39)] [(75, 86), (88, 88), (92, 93)] σ σ')) := by
  refine x_met (own := RX12) (cc := cX12_errors) (maxL := 7) (ret := (some .int)) (lv := [(0, .ref (g.2.1 79)), (1, .int p1)]) (by decide) rfl rfl (Nat.le_of_ble_eq_true rfl) rfl ?_
  intro p e s m args below meth c ls E h hl
  have hx := E.1
  have hb := E.2.1
  have hown := E.2.2.2.1
  have hts := E.2.2.2.2.1
  have hF : Fr [(35, 39)] [(75, 86), (88, 88), (92, 93)] σ σ := Fr.refl σ
  have hwX12 : ∀ w ∈ wsX120, w ∈ wsX12_errors := by decide +kernel
  refine lv_iload_n hx hb dX12_errors_0 rfl (lv_at hl 1 rfl) ?_
  refine lv_iconst (v := 0) hx hb dX12_errors_1 (by decide) ?_
  refine lv_iconst (v := 2) hx hb dX12_errors_2 (by decide) ?_
  refine x_si E h (na := 3) (As := [.int p1, .int 0, .int 2]) (aX12_in_0 l g σ hI p1 0 2) gX12_errors_X12_in rfl ⟨rfl, rfl⟩ rfl (by decide +kernel) ⟨Nat.le_of_ble_eq_true rfl, Nat.le_of_ble_eq_true rfl⟩ hl.1 rfl (Nat.le_of_ble_eq_true rfl) dX12_errors_3 ⟨Nat.le_of_ble_eq_true rfl, Nat.le_of_ble_eq_true rfl⟩ (fun r1 s1 H locs q1 h => ?_)
  obtain ⟨d1, rfl⟩ := q1
  rcases d1 with ⟨rfl, u1_0_0, u1_0_1⟩ | ⟨rfl, u1_1_0⟩
  · skip
    obtain ⟨n2, b2, rfl⟩ := y_rnlt (N := 2) (y_lo1 u1_0_0 (by decide)) u1_0_1 (by omega)
    have b3 : 0 ≤ n2 := y_nlt (a := n2) (b := 0) (by omega) (by omega) u1_0_0
    have b4 : n2 ≤ 2 := y_nlt (a := 2) (b := n2) (by omega) (by omega) u1_0_1
    refine lv_if_ne (tgt := 11) hx hb dX12_errors_6 (by decide) (fun _ => ?_) (fun c => absurd c (by decide))
    refine lv_aload_n hx hb dX12_errors_11 rfl (lv_at hl 0 rfl) ?_
    refine x_vv E h (na := 0) (As := []) (aX12_findPieces_0 l g σ hI) (oc_mo g) rfl gX12_errors_X12_findPieces rfl ⟨rfl, rfl⟩ rfl (by decide +kernel) ⟨Nat.le_of_ble_eq_true rfl, Nat.le_of_ble_eq_true rfl⟩ hl.1 rfl (Nat.le_of_ble_eq_true rfl) dX12_errors_12 ⟨Nat.le_of_ble_eq_true rfl, Nat.le_of_ble_eq_true rfl⟩ (fun s5 H locs q5 h => ?_)
    obtain ⟨d5, hI5, f5⟩ := q5
    have hF5 := hF.call f5 (I := [(35, 39)]) (J := [(75, 86), (88, 88), (92, 93)]) rfl rfl
    rcases d5 with ⟨m5_0P, m5_0R, u5_0_0, u5_0_1, u5_0_2, u5_0_3, u5_0_4, u5_0_5⟩
    refine lv_iconst (v := 0) hx hb dX12_errors_15 (by decide) ?_
    refine lv_istore_n (lv' := [(2, .int 0), (0, .ref (g.2.1 79)), (1, .int (nI n2))]) hx hb dX12_errors_16 rfl hl (by decide) rfl (fun ls hl => ?_)
    refine lv_iconst (v := 0) hx hb dX12_errors_17 (by decide) ?_
    refine lv_istore_n (lv' := [(3, .int 0), (2, .int 0), (0, .ref (g.2.1 79)), (1, .int (nI n2))]) hx hb dX12_errors_18 rfl hl (by decide) rfl (fun ls hl => ?_)
    refine lv_iconst (v := 0) hx hb dX12_errors_19 (by decide) ?_
    refine lv_istore (lv' := [(4, .int 0), (3, .int 0), (2, .int 0), (0, .ref (g.2.1 79)), (1, .int (nI n2))]) hx hb dX12_errors_20 hl (by decide) rfl (fun ls hl => ?_)
    refine lv_iconst (v := 0) hx hb dX12_errors_22 (by decide) ?_
    refine lv_istore (lv' := [(5, .int 0), (4, .int 0), (3, .int 0), (2, .int 0), (0, .ref (g.2.1 79)), (1, .int (nI n2))]) hx hb dX12_errors_23 hl (by decide) rfl (fun ls hl => ?_)
    have loop25_7 : ∀ (fu : Nat) (i7_5 : Nat) (i7_4 : Int32) (i7_3 : Int32) (i7_2 : Int32), i7_5 ≤ m5_0R → m5_0R - i7_5 < fu → ∀ (H : Heap) (locs : List Loc) (ls : Array Slot), HW g s5 s H locs → lv_has ls 7 [(5, .int (nI i7_5)), (4, .int i7_4), (3, .int i7_3), (2, .int i7_2), (0, .ref (g.2.1 79)), (1, .int (nI n2))] → W p l e { frames := 5, cells := 0, slots := 0, locals := 119 } s m args below meth c H locs 0 0 (MQ below (XQi g (fun r σ' => INV σ' ∧ Fr [(35, 39)] [(75, 86), (88, 88), (92, 93)] σ σ')) args s 0 0 (Aw g)) (F0 m 25 ls []) := by
      intro fu
      induction fu with
      | zero => intro i7_5 i7_4 i7_3 i7_2 bi7_5 hm; exact absurd hm (Nat.not_lt_zero _)
      | succ fu ih =>
        have ih7 := ih
        clear ih
        intro i7_5 i7_4 i7_3 i7_2 bi7_5 hm7 H locs ls h hl
        refine lv_iload hx hb dX12_errors_25 (lv_at hl 0 rfl) ?_
        refine lv_aload_n hx hb dX12_errors_27 rfl (lv_at hl 4 rfl) ?_
        refine x_getI E h (fi_mo_rows g) rfl hwX12 (by decide) (by decide +kernel) (v := nI m5_0R) u5_0_1 dX12_errors_28 ?_
        refine lv_icmp_ge (tgt := 130) hx hb dX12_errors_31 (by decide) (fun c8 => ?_) (fun c8 => ?_)
        · skip
          have b9 : m5_0R ≤ i7_5 := y_le (a := m5_0R) (b := i7_5) (by omega) (by omega) c8
          refine lv_iload_n hx hb dX12_errors_130 rfl (lv_at hl 5 rfl) ?_
          refine lv_iconst (v := 2) hx hb dX12_errors_131 (by decide) ?_
          refine lv_icmp_ge (tgt := 145) hx hb dX12_errors_132 (by decide) (fun c10 => ?_) (fun c10 => ?_)
          · skip
            have b11 : 2 ≤ n2 := y_le (a := 2) (b := n2) (by omega) (by omega) c10
            refine lv_aload_n hx hb dX12_errors_145 rfl (lv_at hl 4 rfl) ?_
            refine x_vi E h (na := 0) (As := []) (aX12_findBest_0 l g s5 hI5) (oc_mo g) rfl gX12_errors_X12_findBest rfl ⟨rfl, rfl⟩ rfl (by decide +kernel) ⟨Nat.le_of_ble_eq_true rfl, Nat.le_of_ble_eq_true rfl⟩ hl.1 rfl (Nat.le_of_ble_eq_true rfl) dX12_errors_146 ⟨Nat.le_of_ble_eq_true rfl, Nat.le_of_ble_eq_true rfl⟩ (fun r12 s12 H locs q12 h => ?_)
            obtain ⟨d12, hI12, f12⟩ := q12
            have hF12 := hF5.call f12 (I := [(35, 39)]) (J := [(75, 86), (88, 88), (92, 93)]) rfl rfl
            have e13 : s12.1 31 = nI m5_0R := ((f12.1 31 rfl)).trans u5_0_1
            rcases d12 with ⟨rfl, m12_0P, m12_0R, u12_0_0, u12_0_1, u12_0_2, u12_0_3, u12_0_4, u12_0_5⟩ | rfl
            · skip
              obtain rfl : m5_0R = m12_0R := y_eq (by omega) (by omega) ((e13).symm.trans u12_0_1)
              refine lv_if_eq (tgt := 162) hx hb dX12_errors_149 (by decide) (fun c => absurd c (by decide)) (fun _ => ?_)
              refine lv_iload hx hb dX12_errors_152 (lv_at hl 1 rfl) ?_
              refine lv_aload_n hx hb dX12_errors_154 rfl (lv_at hl 4 rfl) ?_
              refine x_vi E h (na := 0) (As := []) (aX12_mostRight_0 l g s12 hI12 m5_0R e13 m12_0P u12_0_0 (by omega) (by omega) u12_0_4) (oc_mo g) rfl gX12_errors_X12_mostRight rfl ⟨rfl, rfl⟩ rfl (by decide +kernel) ⟨Nat.le_of_ble_eq_true rfl, Nat.le_of_ble_eq_true rfl⟩ hl.1 rfl (Nat.le_of_ble_eq_true rfl) dX12_errors_155 ⟨Nat.le_of_ble_eq_true rfl, Nat.le_of_ble_eq_true rfl⟩ (fun r16 s16 H locs q16 h => ?_)
              obtain ⟨hI16, f16⟩ := q16
              have hF16 := hF12.call f16 (I := [(35, 39)]) (J := [(75, 86), (88, 88), (92, 93)]) rfl rfl
              have e17 : s16.1 31 = nI m5_0R := ((f16.1 31 rfl)).trans e13
              have e18 : s16.1 35 = nI m12_0P := ((f16.1 35 rfl)).trans u12_0_0
              have a19 := AP.eq u12_0_4 (f16.2 77 rfl)
              refine lv_isub hx hb dX12_errors_158 ?_
              refine lv_topi (fun x20 e20 => ?_)
              refine lv_goto (tgt := 164) hx hb dX12_errors_159 (by decide) ?_
              exact x_iret E h ⟨hI16, hF16⟩ dX12_errors_164
            · skip
              refine lv_if_eq (tgt := 162) hx hb dX12_errors_149 (by decide) (fun _ => ?_) (fun c => absurd (by decide) c)
              refine lv_bipush (v := (-2)) hx hb dX12_errors_162 (by decide) ?_
              exact x_iret E h ⟨hI12, hF12⟩ dX12_errors_164
          · skip
            have b21 : n2 < 2 := y_nle (a := 2) (b := n2) (by omega) (by omega) c10
            refine lv_iload_n hx hb dX12_errors_135 rfl (lv_at hl 5 rfl) ?_
            refine lv_if_ne (tgt := 143) hx hb dX12_errors_136 (by decide) (fun c22 => ?_) (fun c22 => ?_)
            · skip
              have b23 : ¬ n2 = 0 := y_ne (a := n2) (b := 0) (by omega) (by omega) c22
              refine lv_iload_n hx hb dX12_errors_143 rfl (lv_at hl 2 rfl) ?_
              exact x_iret E h ⟨hI5, hF5⟩ dX12_errors_144
            · skip
              have b24 : n2 = 0 := y_eq (a := n2) (b := 0) (by omega) (by omega) c22
              refine lv_iload_n hx hb dX12_errors_139 rfl (lv_at hl 3 rfl) ?_
              refine lv_goto (tgt := 144) hx hb dX12_errors_140 (by decide) ?_
              exact x_iret E h ⟨hI5, hF5⟩ dX12_errors_144
        · skip
          have b25 : i7_5 < m5_0R := y_nle (a := m5_0R) (b := i7_5) (by omega) (by omega) c8
          refine lv_aload_n hx hb dX12_errors_34 rfl (lv_at hl 4 rfl) ?_
          refine x_getR E h (fr_mo_pieceOf g) rfl hwX12 (by decide) (by decide +kernel) dX12_errors_35 ?_
          refine lv_iload hx hb dX12_errors_38 (lv_at hl 0 rfl) ?_
          refine x_ldI E h (ia_mo_pieceOf g) (i := nI i7_5) (vp_in_nI (by omega) (by decide)) (v := s5.2.2 77 i7_5) (congrArg (s5.2.2 77) (nI_clamp (by omega))) dX12_errors_40 ?_
          refine lv_bipush (v := (-9)) hx hb dX12_errors_41 (by decide) ?_
          have j51_28 : ∀ (y28_s0 : Int32), ∀ (H : Heap) (locs : List Loc) (ls : Array Slot), HW g s5 s H locs → lv_has ls 7 [(5, .int (nI i7_5)), (4, .int i7_4), (3, .int i7_3), (2, .int i7_2), (0, .ref (g.2.1 79)), (1, .int (nI n2))] → W p l e { frames := 5, cells := 0, slots := 0, locals := 119 } s m args below meth c H locs 0 0 (MQ below (XQi g (fun r σ' => INV σ' ∧ Fr [(35, 39)] [(75, 86), (88, 88), (92, 93)] σ σ')) args s 0 0 (Aw g)) (F0 m 51 ls [.int y28_s0]) := by
            intro y28_s0 H locs ls h hl
            refine lv_istore (lv' := [(6, .int y28_s0), (5, .int (nI i7_5)), (4, .int i7_4), (3, .int i7_3), (2, .int i7_2), (0, .ref (g.2.1 79)), (1, .int (nI n2))]) hx hb dX12_errors_51 hl (by decide) rfl (fun ls hl => ?_)
            refine lv_iload_n hx hb dX12_errors_53 rfl (lv_at hl 4 rfl) ?_
            refine lv_iload hx hb dX12_errors_54 (lv_at hl 0 rfl) ?_
            have j74_31 : ∀ (y31_s0 : Int32), ∀ (H : Heap) (locs : List Loc) (ls : Array Slot), HW g s5 s H locs → lv_has ls 7 [(6, .int y28_s0), (5, .int (nI i7_5)), (4, .int i7_4), (3, .int i7_3), (2, .int i7_2), (0, .ref (g.2.1 79)), (1, .int (nI n2))] → W p l e { frames := 5, cells := 0, slots := 0, locals := 119 } s m args below meth c H locs 0 0 (MQ below (XQi g (fun r σ' => INV σ' ∧ Fr [(35, 39)] [(75, 86), (88, 88), (92, 93)] σ σ')) args s 0 0 (Aw g)) (F0 m 74 ls [.int y31_s0, .int i7_2]) := by
              intro y31_s0 H locs ls h hl
              refine lv_iadd hx hb dX12_errors_74 ?_
              refine lv_topi (fun x32 e32 => ?_)
              refine lv_istore_n (lv' := [(2, .int x32), (6, .int y28_s0), (5, .int (nI i7_5)), (4, .int i7_4), (3, .int i7_3), (0, .ref (g.2.1 79)), (1, .int (nI n2))]) hx hb dX12_errors_75 rfl hl (by decide) rfl (fun ls hl => ?_)
              refine lv_iload_n hx hb dX12_errors_76 rfl (lv_at hl 4 rfl) ?_
              refine lv_iload hx hb dX12_errors_77 (lv_at hl 1 rfl) ?_
              refine lv_if_eq (tgt := 96) hx hb dX12_errors_79 (by decide) (fun c33 => ?_) (fun c33 => ?_)
              · skip
                subst c33
                refine lv_iconst (v := 0) hx hb dX12_errors_96 (by decide) ?_
                refine lv_iadd hx hb dX12_errors_97 ?_
                refine lv_topi (fun x35 e35 => ?_)
                refine lv_istore_n (lv' := [(3, .int x35), (2, .int x32), (6, .int 0), (5, .int (nI i7_5)), (4, .int i7_4), (0, .ref (g.2.1 79)), (1, .int (nI n2))]) hx hb dX12_errors_98 rfl hl (by decide) rfl (fun ls hl => ?_)
                refine lv_iload hx hb dX12_errors_99 (lv_at hl 4 rfl) ?_
                refine lv_iload hx hb dX12_errors_101 (lv_at hl 2 rfl) ?_
                refine lv_if_eq (tgt := 120) hx hb dX12_errors_103 (by decide) (fun _ => ?_) (fun c => absurd (by decide) c)
                refine lv_iconst (v := 0) hx hb dX12_errors_120 (by decide) ?_
                refine lv_iadd hx hb dX12_errors_121 ?_
                refine lv_topi (fun x36 e36 => ?_)
                refine lv_istore (lv' := [(4, .int x36), (3, .int x35), (2, .int x32), (6, .int 0), (5, .int (nI i7_5)), (0, .ref (g.2.1 79)), (1, .int (nI n2))]) hx hb dX12_errors_122 hl (by decide) rfl (fun ls hl => ?_)
                refine lv_iinc (v := (nI (i7_5 + 1))) (lv' := [(5, .int (nI (i7_5 + 1))), (4, .int x36), (3, .int x35), (2, .int x32), (6, .int 0), (0, .ref (g.2.1 79)), (1, .int (nI n2))]) hx hb dX12_errors_124 hl (k := 4) rfl (nI_add i7_5 1) (by decide) rfl (fun ls hl => ?_)
                refine lv_goto (tgt := 25) hx hb dX12_errors_127 (by decide) ?_
                exact ih7 (i7_5 + 1) x36 x35 x32 (by omega) (by omega) _ _ _ h (lv_sub hl [0, 1, 2, 3, 5, 6] rfl)
              · skip
                refine lv_aload_n hx hb dX12_errors_82 rfl (lv_at hl 5 rfl) ?_
                refine x_getR E h (fr_mo_truth g) rfl hwX12 (by decide) (by decide +kernel) dX12_errors_83 ?_
                refine lv_iload hx hb dX12_errors_86 (lv_at hl 2 rfl) ?_
                obtain ⟨n38, b38, e38⟩ := hI5.2 71 5 rfl i7_5
                refine x_ldI E h (ia_mo_truth g) (i := nI i7_5) (vp_in_nI (by omega) (by decide)) (v := nI n38) ((congrArg (s5.2.2 71) (nI_clamp (by omega))).trans e38) dX12_errors_88 ?_
                refine lv_if_ne (tgt := 96) hx hb dX12_errors_89 (by decide) (fun c39 => ?_) (fun c39 => ?_)
                · skip
                  have b40 : ¬ n38 = 0 := y_ne (a := n38) (b := 0) (by omega) (by omega) c39
                  refine lv_iconst (v := 0) hx hb dX12_errors_96 (by decide) ?_
                  refine lv_iadd hx hb dX12_errors_97 ?_
                  refine lv_topi (fun x41 e41 => ?_)
                  refine lv_istore_n (lv' := [(3, .int x41), (2, .int x32), (6, .int y28_s0), (5, .int (nI i7_5)), (4, .int i7_4), (0, .ref (g.2.1 79)), (1, .int (nI n2))]) hx hb dX12_errors_98 rfl hl (by decide) rfl (fun ls hl => ?_)
                  refine lv_iload hx hb dX12_errors_99 (lv_at hl 4 rfl) ?_
                  refine lv_iload hx hb dX12_errors_101 (lv_at hl 2 rfl) ?_
                  refine lv_if_eq (tgt := 120) hx hb dX12_errors_103 (by decide) (fun c => absurd c c33) (fun _ => ?_)
                  refine lv_aload_n hx hb dX12_errors_106 rfl (lv_at hl 5 rfl) ?_
                  refine x_getR E h (fr_mo_truth g) rfl hwX12 (by decide) (by decide +kernel) dX12_errors_107 ?_
                  refine lv_iload hx hb dX12_errors_110 (lv_at hl 3 rfl) ?_
                  refine x_ldI E h (ia_mo_truth g) (i := nI i7_5) (vp_in_nI (by omega) (by decide)) (v := nI n38) ((congrArg (s5.2.2 71) (nI_clamp (by omega))).trans e38) dX12_errors_112 ?_
                  have j121_44 : ∀ (y44_s0 : Int32), ∀ (H : Heap) (locs : List Loc) (ls : Array Slot), HW g s5 s H locs → lv_has ls 7 [(3, .int x41), (2, .int x32), (6, .int y28_s0), (5, .int (nI i7_5)), (4, .int i7_4), (0, .ref (g.2.1 79)), (1, .int (nI n2))] → W p l e { frames := 5, cells := 0, slots := 0, locals := 119 } s m args below meth c H locs 0 0 (MQ below (XQi g (fun r σ' => INV σ' ∧ Fr [(35, 39)] [(75, 86), (88, 88), (92, 93)] σ σ')) args s 0 0 (Aw g)) (F0 m 121 ls [.int y44_s0, .int i7_4]) := by
                    intro y44_s0 H locs ls h hl
                    refine lv_iadd hx hb dX12_errors_121 ?_
                    refine lv_topi (fun x45 e45 => ?_)
                    refine lv_istore (lv' := [(4, .int x45), (3, .int x41), (2, .int x32), (6, .int y28_s0), (5, .int (nI i7_5)), (0, .ref (g.2.1 79)), (1, .int (nI n2))]) hx hb dX12_errors_122 hl (by decide) rfl (fun ls hl => ?_)
                    refine lv_iinc (v := (nI (i7_5 + 1))) (lv' := [(5, .int (nI (i7_5 + 1))), (4, .int x45), (3, .int x41), (2, .int x32), (6, .int y28_s0), (0, .ref (g.2.1 79)), (1, .int (nI n2))]) hx hb dX12_errors_124 hl (k := 4) rfl (nI_add i7_5 1) (by decide) rfl (fun ls hl => ?_)
                    refine lv_goto (tgt := 25) hx hb dX12_errors_127 (by decide) ?_
                    exact ih7 (i7_5 + 1) x45 x41 x32 (by omega) (by omega) _ _ _ h (lv_sub hl [0, 1, 2, 3, 5, 6] rfl)
                  refine lv_if_le (tgt := 120) hx hb dX12_errors_113 (by decide) (fun c42 => ?_) (fun c42 => ?_)
                  · skip
                    have b43 : n38 ≤ 0 := y_le (a := n38) (b := 0) (by omega) (by omega) c42
                    refine lv_iconst (v := 0) hx hb dX12_errors_120 (by decide) ?_
                    exact j121_44 0 _ _ _ h (lv_sub hl [0, 1, 2, 3, 4, 5, 6] rfl)
                  · skip
                    have b46 : 0 < n38 := y_nle (a := n38) (b := 0) (by omega) (by omega) c42
                    refine lv_iconst (v := 1) hx hb dX12_errors_116 (by decide) ?_
                    refine lv_goto (tgt := 121) hx hb dX12_errors_117 (by decide) ?_
                    exact j121_44 1 _ _ _ h (lv_sub hl [0, 1, 2, 3, 4, 5, 6] rfl)
                · skip
                  have b47 : n38 = 0 := y_eq (a := n38) (b := 0) (by omega) (by omega) c39
                  refine lv_iconst (v := 1) hx hb dX12_errors_92 (by decide) ?_
                  refine lv_goto (tgt := 97) hx hb dX12_errors_93 (by decide) ?_
                  refine lv_iadd hx hb dX12_errors_97 ?_
                  refine lv_topi (fun x48 e48 => ?_)
                  refine lv_istore_n (lv' := [(3, .int x48), (2, .int x32), (6, .int y28_s0), (5, .int (nI i7_5)), (4, .int i7_4), (0, .ref (g.2.1 79)), (1, .int (nI n2))]) hx hb dX12_errors_98 rfl hl (by decide) rfl (fun ls hl => ?_)
                  refine lv_iload hx hb dX12_errors_99 (lv_at hl 4 rfl) ?_
                  refine lv_iload hx hb dX12_errors_101 (lv_at hl 2 rfl) ?_
                  refine lv_if_eq (tgt := 120) hx hb dX12_errors_103 (by decide) (fun c => absurd c c33) (fun _ => ?_)
                  refine lv_aload_n hx hb dX12_errors_106 rfl (lv_at hl 5 rfl) ?_
                  refine x_getR E h (fr_mo_truth g) rfl hwX12 (by decide) (by decide +kernel) dX12_errors_107 ?_
                  refine lv_iload hx hb dX12_errors_110 (lv_at hl 3 rfl) ?_
                  refine x_ldI E h (ia_mo_truth g) (i := nI i7_5) (vp_in_nI (by omega) (by decide)) (v := nI n38) ((congrArg (s5.2.2 71) (nI_clamp (by omega))).trans e38) dX12_errors_112 ?_
                  have j121_51 : ∀ (y51_s0 : Int32), ∀ (H : Heap) (locs : List Loc) (ls : Array Slot), HW g s5 s H locs → lv_has ls 7 [(3, .int x48), (2, .int x32), (6, .int y28_s0), (5, .int (nI i7_5)), (4, .int i7_4), (0, .ref (g.2.1 79)), (1, .int (nI n2))] → W p l e { frames := 5, cells := 0, slots := 0, locals := 119 } s m args below meth c H locs 0 0 (MQ below (XQi g (fun r σ' => INV σ' ∧ Fr [(35, 39)] [(75, 86), (88, 88), (92, 93)] σ σ')) args s 0 0 (Aw g)) (F0 m 121 ls [.int y51_s0, .int i7_4]) := by
                    intro y51_s0 H locs ls h hl
                    refine lv_iadd hx hb dX12_errors_121 ?_
                    refine lv_topi (fun x52 e52 => ?_)
                    refine lv_istore (lv' := [(4, .int x52), (3, .int x48), (2, .int x32), (6, .int y28_s0), (5, .int (nI i7_5)), (0, .ref (g.2.1 79)), (1, .int (nI n2))]) hx hb dX12_errors_122 hl (by decide) rfl (fun ls hl => ?_)
                    refine lv_iinc (v := (nI (i7_5 + 1))) (lv' := [(5, .int (nI (i7_5 + 1))), (4, .int x52), (3, .int x48), (2, .int x32), (6, .int y28_s0), (0, .ref (g.2.1 79)), (1, .int (nI n2))]) hx hb dX12_errors_124 hl (k := 4) rfl (nI_add i7_5 1) (by decide) rfl (fun ls hl => ?_)
                    refine lv_goto (tgt := 25) hx hb dX12_errors_127 (by decide) ?_
                    exact ih7 (i7_5 + 1) x52 x48 x32 (by omega) (by omega) _ _ _ h (lv_sub hl [0, 1, 2, 3, 5, 6] rfl)
                  refine lv_if_le (tgt := 120) hx hb dX12_errors_113 (by decide) (fun c49 => ?_) (fun c49 => ?_)
                  · skip
                    have b50 : n38 ≤ 0 := y_le (a := n38) (b := 0) (by omega) (by omega) c49
                    refine lv_iconst (v := 0) hx hb dX12_errors_120 (by decide) ?_
                    exact j121_51 0 _ _ _ h (lv_sub hl [0, 1, 2, 3, 4, 5, 6] rfl)
                  · skip
                    have b53 : 0 < n38 := y_nle (a := n38) (b := 0) (by omega) (by omega) c49
                    refine lv_iconst (v := 1) hx hb dX12_errors_116 (by decide) ?_
                    refine lv_goto (tgt := 121) hx hb dX12_errors_117 (by decide) ?_
                    exact j121_51 1 _ _ _ h (lv_sub hl [0, 1, 2, 3, 4, 5, 6] rfl)
            refine lv_if_ne (tgt := 73) hx hb dX12_errors_56 (by decide) (fun c29 => ?_) (fun c29 => ?_)
            · skip
              refine lv_iconst (v := 0) hx hb dX12_errors_73 (by decide) ?_
              exact j74_31 0 _ _ _ h (lv_sub hl [0, 1, 2, 3, 4, 5, 6] rfl)
            · skip
              subst c29
              refine lv_aload_n hx hb dX12_errors_59 rfl (lv_at hl 5 rfl) ?_
              refine x_getR E h (fr_mo_truth g) rfl hwX12 (by decide) (by decide +kernel) dX12_errors_60 ?_
              refine lv_iload hx hb dX12_errors_63 (lv_at hl 1 rfl) ?_
              obtain ⟨n55, b55, e55⟩ := hI5.2 71 5 rfl i7_5
              refine x_ldI E h (ia_mo_truth g) (i := nI i7_5) (vp_in_nI (by omega) (by decide)) (v := nI n55) ((congrArg (s5.2.2 71) (nI_clamp (by omega))).trans e55) dX12_errors_65 ?_
              refine lv_if_le (tgt := 73) hx hb dX12_errors_66 (by decide) (fun c56 => ?_) (fun c56 => ?_)
              · skip
                have b57 : n55 ≤ 0 := y_le (a := n55) (b := 0) (by omega) (by omega) c56
                refine lv_iconst (v := 0) hx hb dX12_errors_73 (by decide) ?_
                exact j74_31 0 _ _ _ h (lv_sub hl [0, 1, 2, 3, 4, 5, 6] rfl)
              · skip
                have b58 : 0 < n55 := y_nle (a := n55) (b := 0) (by omega) (by omega) c56
                refine lv_iconst (v := 1) hx hb dX12_errors_69 (by decide) ?_
                refine lv_goto (tgt := 74) hx hb dX12_errors_70 (by decide) ?_
                exact j74_31 1 _ _ _ h (lv_sub hl [0, 1, 2, 3, 4, 5, 6] rfl)
          refine lv_icmp_eq (tgt := 50) hx hb dX12_errors_43 (by decide) (fun c26 => ?_) (fun c26 => ?_)
          · skip
            refine lv_iconst (v := 0) hx hb dX12_errors_50 (by decide) ?_
            exact j51_28 0 _ _ _ h (lv_sub hl [0, 1, 2, 3, 4, 5] rfl)
          · skip
            refine lv_iconst (v := 1) hx hb dX12_errors_46 (by decide) ?_
            refine lv_goto (tgt := 51) hx hb dX12_errors_47 (by decide) ?_
            exact j51_28 1 _ _ _ h (lv_sub hl [0, 1, 2, 3, 4, 5] rfl)
    exact loop25_7 _ 0 0 0 0 (Nat.zero_le _) (Nat.lt_succ_self _) _ _ _ h (lv_sub hl [0, 1, 2, 3, 4, 5] rfl)
  · skip
    refine lv_if_ne (tgt := 11) hx hb dX12_errors_6 (by decide) (fun c => absurd (by decide) c) (fun _ => ?_)
    refine lv_iconst (v := (-1)) hx hb dX12_errors_9 (by decide) ?_
    exact x_iret E h ⟨hI, hF⟩ dX12_errors_10
set_option maxHeartbeats 4000000 in
set_option maxRecDepth 100000 in
theorem aX12_weight_0 (l : Launch) (g : CX) (σ : ST) (hI : INV σ) (p1 : Int32) (p2 : Int32) : XM l g yX12_weight wsX12_weight { frames := 4, cells := 0, slots := 0, locals := 95 } [.ref (g.2.1 79), .int p1, .int p2] σ (XQi g (fun r σ' => INV σ' ∧ Fr [(35, 38)] [(75, 84)] σ σ')) := by
  refine x_met (own := RX12) (cc := cX12_weight) (maxL := 6) (ret := (some .int)) (lv := [(0, .ref (g.2.1 79)), (1, .int p1), (2, .int p2)]) (by decide) rfl rfl (Nat.le_of_ble_eq_true rfl) rfl ?_
  intro p e s m args below meth c ls E h hl
  have hx := E.1
  have hb := E.2.1
  have hown := E.2.2.2.1
  have hts := E.2.2.2.2.1
  have hF : Fr [(35, 38)] [(75, 84)] σ σ := Fr.refl σ
  have hwX12 : ∀ w ∈ wsX120, w ∈ wsX12_weight := by decide +kernel
  refine lv_aload_n hx hb dX12_weight_0 rfl (lv_at hl 0 rfl) ?_
  refine x_vv E h (na := 0) (As := []) (aX12_findPieces_0 l g σ hI) (oc_mo g) rfl gX12_weight_X12_findPieces rfl ⟨rfl, rfl⟩ rfl (by decide +kernel) ⟨Nat.le_of_ble_eq_true rfl, Nat.le_of_ble_eq_true rfl⟩ hl.1 rfl (Nat.le_of_ble_eq_true rfl) dX12_weight_1 ⟨Nat.le_of_ble_eq_true rfl, Nat.le_of_ble_eq_true rfl⟩ (fun s1 H locs q1 h => ?_)
  obtain ⟨d1, hI1, f1⟩ := q1
  have hF1 := hF.call f1 (I := [(35, 38)]) (J := [(75, 84)]) rfl rfl
  rcases d1 with ⟨m1_0P, m1_0R, u1_0_0, u1_0_1, u1_0_2, u1_0_3, u1_0_4, u1_0_5⟩
  refine lv_iload_n hx hb dX12_weight_4 rfl (lv_at hl 1 rfl) ?_
  refine lv_iconst (v := 0) hx hb dX12_weight_5 (by decide) ?_
  refine lv_bipush (v := 7) hx hb dX12_weight_6 (by decide) ?_
  refine x_si E h (na := 3) (As := [.int p1, .int 0, .int 7]) (aX12_in_0 l g s1 hI1 p1 0 7) gX12_weight_X12_in rfl ⟨rfl, rfl⟩ rfl (by decide +kernel) ⟨Nat.le_of_ble_eq_true rfl, Nat.le_of_ble_eq_true rfl⟩ hl.1 rfl (Nat.le_of_ble_eq_true rfl) dX12_weight_8 ⟨Nat.le_of_ble_eq_true rfl, Nat.le_of_ble_eq_true rfl⟩ (fun r3 s3 H locs q3 h => ?_)
  obtain ⟨d3, rfl⟩ := q3
  rcases d3 with ⟨rfl, u3_0_0, u3_0_1⟩ | ⟨rfl, u3_1_0⟩
  · skip
    obtain ⟨n4, b4, rfl⟩ := y_rnlt (N := 7) (y_lo1 u3_0_0 (by decide)) u3_0_1 (by omega)
    have b5 : 0 ≤ n4 := y_nlt (a := n4) (b := 0) (by omega) (by omega) u3_0_0
    have b6 : n4 ≤ 7 := y_nlt (a := 7) (b := n4) (by omega) (by omega) u3_0_1
    refine lv_if_eq (tgt := 22) hx hb dX12_weight_11 (by decide) (fun c => absurd c (by decide)) (fun _ => ?_)
    refine lv_aload_n hx hb dX12_weight_14 rfl (lv_at hl 0 rfl) ?_
    refine lv_iload_n hx hb dX12_weight_15 rfl (lv_at hl 2 rfl) ?_
    refine x_vi E h (na := 1) (As := [.int p2]) (aX12_isPiece_0 l g s1 hI1 p2) (oc_mo g) rfl gX12_weight_X12_isPiece rfl ⟨rfl, rfl⟩ rfl (by decide +kernel) ⟨Nat.le_of_ble_eq_true rfl, Nat.le_of_ble_eq_true rfl⟩ hl.1 rfl (Nat.le_of_ble_eq_true rfl) dX12_weight_16 ⟨Nat.le_of_ble_eq_true rfl, Nat.le_of_ble_eq_true rfl⟩ (fun r7 s7 H locs q7 h => ?_)
    obtain ⟨d7, rfl⟩ := q7
    rcases d7 with ⟨rfl, m7_0n, m7_0P, u7_0_0, u7_0_1, u7_0_2, rfl⟩ | rfl
    · skip
      obtain rfl : m1_0P = m7_0P := y_eq (by omega) (by omega) ((u1_0_0).symm.trans u7_0_0)
      refine lv_if_ne (tgt := 24) hx hb dX12_weight_19 (by decide) (fun _ => ?_) (fun c => absurd c (by decide))
      refine lv_aload_n hx hb dX12_weight_24 rfl (lv_at hl 0 rfl) ?_
      refine x_getR E h (fr_mo_many g) rfl hwX12 (by decide) (by decide +kernel) dX12_weight_25 ?_
      refine lv_iload_n hx hb dX12_weight_28 rfl (lv_at hl 2 rfl) ?_
      refine x_ldI E h (ia_mo_many g) (i := nI m7_0n) (vp_in_nI (by omega) (by decide)) (v := s1.2.2 76 m7_0n) (congrArg (s1.2.2 76) (nI_clamp (by omega))) dX12_weight_29 ?_
      refine lv_topi (fun x8 e8 => ?_)
      refine lv_istore_n (lv' := [(3, .int x8), (0, .ref (g.2.1 79)), (1, .int (nI n4)), (2, .int (nI m7_0n))]) hx hb dX12_weight_30 rfl hl (by decide) rfl (fun ls hl => ?_)
      refine lv_iload_n hx hb dX12_weight_31 rfl (lv_at hl 0 rfl) ?_
      refine lv_aload_n hx hb dX12_weight_32 rfl (lv_at hl 1 rfl) ?_
      refine x_getR E h (fr_mo_middle g) rfl hwX12 (by decide) (by decide +kernel) dX12_weight_33 ?_
      refine lv_iconst (v := 4) hx hb dX12_weight_36 (by decide) ?_
      refine lv_iload_n hx hb dX12_weight_37 rfl (lv_at hl 3 rfl) ?_
      refine lv_imul hx hb dX12_weight_38 ?_
      refine x_topI (v2 := nI (4 * m7_0n)) (pk_mul 4 m7_0n) ?_
      refine x_ldI E h (ia_mo_middle g) (i := nI (4 * m7_0n)) (vp_in_nI (by omega) (by decide)) (v := s1.2.2 78 (4 * m7_0n)) (congrArg (s1.2.2 78) (nI_clamp (by omega))) dX12_weight_39 ?_
      refine lv_iadd hx hb dX12_weight_40 ?_
      refine lv_topi (fun x9 e9 => ?_)
      refine lv_istore (lv' := [(4, .int x9), (3, .int x8), (0, .ref (g.2.1 79)), (1, .int (nI n4)), (2, .int (nI m7_0n))]) hx hb dX12_weight_41 hl (by decide) rfl (fun ls hl => ?_)
      refine lv_iload hx hb dX12_weight_43 (lv_at hl 0 rfl) ?_
      refine lv_aload_n hx hb dX12_weight_45 rfl (lv_at hl 2 rfl) ?_
      refine x_getR E h (fr_mo_spread g) rfl hwX12 (by decide) (by decide +kernel) dX12_weight_46 ?_
      refine lv_iload_n hx hb dX12_weight_49 rfl (lv_at hl 4 rfl) ?_
      refine x_ldI E h (ia_mo_spread g) (i := nI m7_0n) (vp_in_nI (by omega) (by decide)) (v := s1.2.2 79 m7_0n) (congrArg (s1.2.2 79) (nI_clamp (by omega))) dX12_weight_50 ?_
      refine lv_iadd hx hb dX12_weight_51 ?_
      refine lv_topi (fun x10 e10 => ?_)
      refine lv_istore (lv' := [(5, .int x10), (4, .int x9), (3, .int x8), (0, .ref (g.2.1 79)), (1, .int (nI n4)), (2, .int (nI m7_0n))]) hx hb dX12_weight_52 hl (by decide) rfl (fun ls hl => ?_)
      refine lv_iload_n hx hb dX12_weight_54 rfl (lv_at hl 4 rfl) ?_
      refine lv_topi (fun x11 e11 => ?_)
      by_cases c_55_0 : x11 = 0
      · refine x_topI (v2 := 0) c_55_0 ?_
        refine lv_tableIn (tgt := 96) (off := 41) hx hb dX12_weight_55 (by decide) (by decide) (by decide) (by decide) ?_
        refine lv_aload_n hx hb dX12_weight_96 rfl (lv_at hl 3 rfl) ?_
        refine lv_dup hx hb dX12_weight_97 rfl ?_
        refine x_getL E h (fl_mo_trace g) rfl hwX12 (by decide) (by decide +kernel) rfl dX12_weight_98 ?_
        refine lv_lconst (v := 1) hx hb dX12_weight_101 (by decide) ?_
        refine lv_ladd hx hb dX12_weight_102 ?_
        refine lv_topl (fun y12 e12 => ?_)
        refine y_putL E h hI1 hF1 (ty := .long) (v := y12) (fl_mo_trace g) rfl hwX12 tyX12_ok nmX12 (by decide) (by decide +kernel) (by decide +kernel) (by decide +kernel) rfl rfl dX12_weight_103 (fun s13 H locs q13 hI13 hF13 h => ?_)
        have e14 : s13.1 35 = nI m1_0P := (congrArg (fun t : ST => t.1 35) q13).trans u1_0_0
        have e15 : s13.1 31 = nI m1_0R := (congrArg (fun t : ST => t.1 31) q13).trans u1_0_1
        have a16 := AP.eq u1_0_4 (show s13.2.2 77 = s1.2.2 77 from (congrArg (fun t : ST => t.2.2 77) q13).trans rfl)
        refine lv_iload_n hx hb dX12_weight_106 rfl (lv_at hl 2 rfl) ?_
        exact x_iret E h ⟨hI13, hF13⟩ dX12_weight_107
      by_cases c_55_1 : x11 = 1
      · refine x_topI (v2 := 1) c_55_1 ?_
        refine lv_tableIn (tgt := 108) (off := 53) hx hb dX12_weight_55 (by decide) (by decide) (by decide) (by decide) ?_
        refine lv_aload_n hx hb dX12_weight_108 rfl (lv_at hl 3 rfl) ?_
        refine lv_dup hx hb dX12_weight_109 rfl ?_
        refine x_getL E h (fl_mo_trace g) rfl hwX12 (by decide) (by decide +kernel) rfl dX12_weight_110 ?_
        refine lv_ldc2 (v := 11) hx hb hown (hts (.constantLong RX12 274 (11)) (by decide +kernel)) dX12_weight_113 ?_
        refine lv_ladd hx hb dX12_weight_116 ?_
        refine lv_topl (fun y17 e17 => ?_)
        refine y_putL E h hI1 hF1 (ty := .long) (v := y17) (fl_mo_trace g) rfl hwX12 tyX12_ok nmX12 (by decide) (by decide +kernel) (by decide +kernel) (by decide +kernel) rfl rfl dX12_weight_117 (fun s18 H locs q18 hI18 hF18 h => ?_)
        have e19 : s18.1 35 = nI m1_0P := (congrArg (fun t : ST => t.1 35) q18).trans u1_0_0
        have e20 : s18.1 31 = nI m1_0R := (congrArg (fun t : ST => t.1 31) q18).trans u1_0_1
        have a21 := AP.eq u1_0_4 (show s18.2.2 77 = s1.2.2 77 from (congrArg (fun t : ST => t.2.2 77) q18).trans rfl)
        refine lv_iload hx hb dX12_weight_120 (lv_at hl 1 rfl) ?_
        exact x_iret E h ⟨hI18, hF18⟩ dX12_weight_122
      by_cases c_55_2 : x11 = 2
      · refine x_topI (v2 := 2) c_55_2 ?_
        refine lv_tableIn (tgt := 123) (off := 68) hx hb dX12_weight_55 (by decide) (by decide) (by decide) (by decide) ?_
        refine lv_aload_n hx hb dX12_weight_123 rfl (lv_at hl 3 rfl) ?_
        refine lv_dup hx hb dX12_weight_124 rfl ?_
        refine x_getL E h (fl_mo_trace g) rfl hwX12 (by decide) (by decide +kernel) rfl dX12_weight_125 ?_
        refine lv_ldc2 (v := 111) hx hb hown (hts (.constantLong RX12 276 (111)) (by decide +kernel)) dX12_weight_128 ?_
        refine lv_ladd hx hb dX12_weight_131 ?_
        refine lv_topl (fun y22 e22 => ?_)
        refine y_putL E h hI1 hF1 (ty := .long) (v := y22) (fl_mo_trace g) rfl hwX12 tyX12_ok nmX12 (by decide) (by decide +kernel) (by decide +kernel) (by decide +kernel) rfl rfl dX12_weight_132 (fun s23 H locs q23 hI23 hF23 h => ?_)
        have e24 : s23.1 35 = nI m1_0P := (congrArg (fun t : ST => t.1 35) q23).trans u1_0_0
        have e25 : s23.1 31 = nI m1_0R := (congrArg (fun t : ST => t.1 31) q23).trans u1_0_1
        have a26 := AP.eq u1_0_4 (show s23.2.2 77 = s1.2.2 77 from (congrArg (fun t : ST => t.2.2 77) q23).trans rfl)
        refine lv_iload hx hb dX12_weight_135 (lv_at hl 0 rfl) ?_
        exact x_iret E h ⟨hI23, hF23⟩ dX12_weight_137
      by_cases c_55_3 : x11 = 3
      · refine x_topI (v2 := 3) c_55_3 ?_
        refine lv_tableIn (tgt := 138) (off := 83) hx hb dX12_weight_55 (by decide) (by decide) (by decide) (by decide) ?_
        refine lv_aload_n hx hb dX12_weight_138 rfl (lv_at hl 3 rfl) ?_
        refine lv_dup hx hb dX12_weight_139 rfl ?_
        refine x_getL E h (fl_mo_trace g) rfl hwX12 (by decide) (by decide +kernel) rfl dX12_weight_140 ?_
        refine lv_ldc2 (v := 1111) hx hb hown (hts (.constantLong RX12 278 (1111)) (by decide +kernel)) dX12_weight_143 ?_
        refine lv_ladd hx hb dX12_weight_146 ?_
        refine lv_topl (fun y27 e27 => ?_)
        refine y_putL E h hI1 hF1 (ty := .long) (v := y27) (fl_mo_trace g) rfl hwX12 tyX12_ok nmX12 (by decide) (by decide +kernel) (by decide +kernel) (by decide +kernel) rfl rfl dX12_weight_147 (fun s28 H locs q28 hI28 hF28 h => ?_)
        have e29 : s28.1 35 = nI m1_0P := (congrArg (fun t : ST => t.1 35) q28).trans u1_0_0
        have e30 : s28.1 31 = nI m1_0R := (congrArg (fun t : ST => t.1 31) q28).trans u1_0_1
        have a31 := AP.eq u1_0_4 (show s28.2.2 77 = s1.2.2 77 from (congrArg (fun t : ST => t.2.2 77) q28).trans rfl)
        refine lv_iload hx hb dX12_weight_150 (lv_at hl 0 rfl) ?_
        refine lv_iconst (v := 1) hx hb dX12_weight_152 (by decide) ?_
        refine lv_iadd hx hb dX12_weight_153 ?_
        refine lv_topi (fun x32 e32 => ?_)
        refine lv_iconst (v := 2) hx hb dX12_weight_154 (by decide) ?_
        refine lv_idiv hx hb dX12_weight_155 (by decide) ?_
        refine lv_topi (fun x33 e33 => ?_)
        exact x_iret E h ⟨hI28, hF28⟩ dX12_weight_156
      by_cases c_55_4 : x11 = 4
      · refine x_topI (v2 := 4) c_55_4 ?_
        refine lv_tableIn (tgt := 157) (off := 102) hx hb dX12_weight_55 (by decide) (by decide) (by decide) (by decide) ?_
        refine lv_aload_n hx hb dX12_weight_157 rfl (lv_at hl 3 rfl) ?_
        refine lv_dup hx hb dX12_weight_158 rfl ?_
        refine x_getL E h (fl_mo_trace g) rfl hwX12 (by decide) (by decide +kernel) rfl dX12_weight_159 ?_
        refine lv_ldc2 (v := 10111) hx hb hown (hts (.constantLong RX12 280 (10111)) (by decide +kernel)) dX12_weight_162 ?_
        refine lv_ladd hx hb dX12_weight_165 ?_
        refine lv_topl (fun y34 e34 => ?_)
        refine y_putL E h hI1 hF1 (ty := .long) (v := y34) (fl_mo_trace g) rfl hwX12 tyX12_ok nmX12 (by decide) (by decide +kernel) (by decide +kernel) (by decide +kernel) rfl rfl dX12_weight_166 (fun s35 H locs q35 hI35 hF35 h => ?_)
        have e36 : s35.1 35 = nI m1_0P := (congrArg (fun t : ST => t.1 35) q35).trans u1_0_0
        have e37 : s35.1 31 = nI m1_0R := (congrArg (fun t : ST => t.1 31) q35).trans u1_0_1
        have a38 := AP.eq u1_0_4 (show s35.2.2 77 = s1.2.2 77 from (congrArg (fun t : ST => t.2.2 77) q35).trans rfl)
        refine lv_iload hx hb dX12_weight_169 (lv_at hl 0 rfl) ?_
        refine lv_iconst (v := 3) hx hb dX12_weight_171 (by decide) ?_
        refine lv_icmp_ge (tgt := 179) hx hb dX12_weight_172 (by decide) (fun c39 => ?_) (fun c39 => ?_)
        · skip
          refine lv_iload hx hb dX12_weight_179 (lv_at hl 0 rfl) ?_
          refine lv_iconst (v := 3) hx hb dX12_weight_181 (by decide) ?_
          refine lv_isub hx hb dX12_weight_182 ?_
          refine lv_topi (fun x41 e41 => ?_)
          exact x_iret E h ⟨hI35, hF35⟩ dX12_weight_183
        · skip
          refine lv_iconst (v := 0) hx hb dX12_weight_175 (by decide) ?_
          refine lv_goto (tgt := 183) hx hb dX12_weight_176 (by decide) ?_
          exact x_iret E h ⟨hI35, hF35⟩ dX12_weight_183
      by_cases c_55_5 : x11 = 5
      · refine x_topI (v2 := 5) c_55_5 ?_
        refine lv_tableIn (tgt := 184) (off := 129) hx hb dX12_weight_55 (by decide) (by decide) (by decide) (by decide) ?_
        refine lv_aload_n hx hb dX12_weight_184 rfl (lv_at hl 3 rfl) ?_
        refine lv_dup hx hb dX12_weight_185 rfl ?_
        refine x_getL E h (fl_mo_trace g) rfl hwX12 (by decide) (by decide +kernel) rfl dX12_weight_186 ?_
        refine lv_ldc2 (v := 100011) hx hb hown (hts (.constantLong RX12 282 (100011)) (by decide +kernel)) dX12_weight_189 ?_
        refine lv_ladd hx hb dX12_weight_192 ?_
        refine lv_topl (fun y43 e43 => ?_)
        refine y_putL E h hI1 hF1 (ty := .long) (v := y43) (fl_mo_trace g) rfl hwX12 tyX12_ok nmX12 (by decide) (by decide +kernel) (by decide +kernel) (by decide +kernel) rfl rfl dX12_weight_193 (fun s44 H locs q44 hI44 hF44 h => ?_)
        have e45 : s44.1 35 = nI m1_0P := (congrArg (fun t : ST => t.1 35) q44).trans u1_0_0
        have e46 : s44.1 31 = nI m1_0R := (congrArg (fun t : ST => t.1 31) q44).trans u1_0_1
        have a47 := AP.eq u1_0_4 (show s44.2.2 77 = s1.2.2 77 from (congrArg (fun t : ST => t.2.2 77) q44).trans rfl)
        refine lv_iload hx hb dX12_weight_196 (lv_at hl 1 rfl) ?_
        refine lv_iconst (v := 3) hx hb dX12_weight_198 (by decide) ?_
        refine lv_idiv hx hb dX12_weight_199 (by decide) ?_
        refine lv_topi (fun x48 e48 => ?_)
        exact x_iret E h ⟨hI44, hF44⟩ dX12_weight_200
      by_cases c_55_6 : x11 = 6
      · refine x_topI (v2 := 6) c_55_6 ?_
        refine lv_tableIn (tgt := 201) (off := 146) hx hb dX12_weight_55 (by decide) (by decide) (by decide) (by decide) ?_
        refine lv_aload_n hx hb dX12_weight_201 rfl (lv_at hl 3 rfl) ?_
        refine lv_dup hx hb dX12_weight_202 rfl ?_
        refine x_getL E h (fl_mo_trace g) rfl hwX12 (by decide) (by decide +kernel) rfl dX12_weight_203 ?_
        refine lv_ldc2 (v := 1000011) hx hb hown (hts (.constantLong RX12 284 (1000011)) (by decide +kernel)) dX12_weight_206 ?_
        refine lv_ladd hx hb dX12_weight_209 ?_
        refine lv_topl (fun y49 e49 => ?_)
        refine y_putL E h hI1 hF1 (ty := .long) (v := y49) (fl_mo_trace g) rfl hwX12 tyX12_ok nmX12 (by decide) (by decide +kernel) (by decide +kernel) (by decide +kernel) rfl rfl dX12_weight_210 (fun s50 H locs q50 hI50 hF50 h => ?_)
        have e51 : s50.1 35 = nI m1_0P := (congrArg (fun t : ST => t.1 35) q50).trans u1_0_0
        have e52 : s50.1 31 = nI m1_0R := (congrArg (fun t : ST => t.1 31) q50).trans u1_0_1
        have a53 := AP.eq u1_0_4 (show s50.2.2 77 = s1.2.2 77 from (congrArg (fun t : ST => t.2.2 77) q50).trans rfl)
        refine lv_iload hx hb dX12_weight_213 (lv_at hl 1 rfl) ?_
        refine lv_bipush (v := 7) hx hb dX12_weight_215 (by decide) ?_
        refine lv_aload_n hx hb dX12_weight_217 rfl (lv_at hl 3 rfl) ?_
        obtain ⟨n54, b54, e54⟩ := hI50.1 40 6 rfl
        refine x_getI E h (fi_mo_kept g) rfl hwX12 (by decide) (by decide +kernel) (v := nI n54) e54 dX12_weight_218 ?_
        refine lv_imul hx hb dX12_weight_221 ?_
        refine x_topI (v2 := nI (7 * n54)) (pk_mul 7 n54) ?_
        refine lv_iadd hx hb dX12_weight_222 ?_
        refine lv_topi (fun x55 e55 => ?_)
        exact x_iret E h ⟨hI50, hF50⟩ dX12_weight_223
      refine lv_tableOut (tgt := 224) hx hb dX12_weight_55 (x_out6 c_55_0 c_55_1 c_55_2 c_55_3 c_55_4 c_55_5 c_55_6) (by decide) ?_
      refine lv_aload_n hx hb dX12_weight_224 rfl (lv_at hl 3 rfl) ?_
      refine lv_dup hx hb dX12_weight_225 rfl ?_
      refine x_getL E h (fl_mo_trace g) rfl hwX12 (by decide) (by decide +kernel) rfl dX12_weight_226 ?_
      refine lv_ldc2 (v := 10000001) hx hb hown (hts (.constantLong RX12 286 (10000001)) (by decide +kernel)) dX12_weight_229 ?_
      refine lv_ladd hx hb dX12_weight_232 ?_
      refine lv_topl (fun y56 e56 => ?_)
      refine y_putL E h hI1 hF1 (ty := .long) (v := y56) (fl_mo_trace g) rfl hwX12 tyX12_ok nmX12 (by decide) (by decide +kernel) (by decide +kernel) (by decide +kernel) rfl rfl dX12_weight_233 (fun s57 H locs q57 hI57 hF57 h => ?_)
      have e58 : s57.1 35 = nI m1_0P := (congrArg (fun t : ST => t.1 35) q57).trans u1_0_0
      have e59 : s57.1 31 = nI m1_0R := (congrArg (fun t : ST => t.1 31) q57).trans u1_0_1
      have a60 := AP.eq u1_0_4 (show s57.2.2 77 = s1.2.2 77 from (congrArg (fun t : ST => t.2.2 77) q57).trans rfl)
      refine lv_iload_n hx hb dX12_weight_236 rfl (lv_at hl 2 rfl) ?_
      refine lv_iload_n hx hb dX12_weight_237 rfl (lv_at hl 2 rfl) ?_
      refine lv_imul hx hb dX12_weight_238 ?_
      refine lv_topi (fun x61 e61 => ?_)
      refine lv_bipush (v := 89) hx hb dX12_weight_239 (by decide) ?_
      refine lv_irem hx hb dX12_weight_241 (by decide) ?_
      refine lv_topi (fun x62 e62 => ?_)
      exact x_iret E h ⟨hI57, hF57⟩ dX12_weight_242
    · skip
      refine lv_if_ne (tgt := 24) hx hb dX12_weight_19 (by decide) (fun c => absurd (by decide) c) (fun _ => ?_)
      refine lv_iconst (v := (-1)) hx hb dX12_weight_22 (by decide) ?_
      exact x_iret E h ⟨hI1, hF1⟩ dX12_weight_23
  · skip
    refine lv_if_eq (tgt := 22) hx hb dX12_weight_11 (by decide) (fun _ => ?_) (fun c => absurd (by decide) c)
    refine lv_iconst (v := (-1)) hx hb dX12_weight_22 (by decide) ?_
    exact x_iret E h ⟨hI1, hF1⟩ dX12_weight_23
set_option maxHeartbeats 4000000 in
set_option maxRecDepth 100000 in
theorem aX12_count_0 (l : Launch) (g : CX) (σ : ST) (hI : INV σ) (p1 : Int32) : XM l g yX12_count wsX12_count { frames := 0, cells := 0, slots := 0, locals := 0 } [.ref (g.2.1 79), .int p1] σ (XQi g (fun r σ' => σ = σ')) := by
  refine x_met (own := RX12) (cc := cX12_count) (maxL := 4) (ret := (some .int)) (lv := [(0, .ref (g.2.1 79)), (1, .int p1)]) (by decide) rfl rfl (Nat.le_of_ble_eq_true rfl) rfl ?_
  intro p e s m args below meth c ls E h hl
  have hx := E.1
  have hb := E.2.1
  have hown := E.2.2.2.1
  have hts := E.2.2.2.2.1
  have hwX12 : ∀ w ∈ wsX120, w ∈ wsX12_count := by decide +kernel
  refine lv_iconst (v := 0) hx hb dX12_count_0 (by decide) ?_
  refine lv_istore_n (lv' := [(2, .int 0), (0, .ref (g.2.1 79)), (1, .int p1)]) hx hb dX12_count_1 rfl hl (by decide) rfl (fun ls hl => ?_)
  refine lv_iload_n hx hb dX12_count_2 rfl (lv_at hl 2 rfl) ?_
  by_cases c_3_0 : p1 = 0
  · refine x_topI (v2 := 0) c_3_0 ?_
    refine lv_tableIn (tgt := 40) (off := 37) hx hb dX12_count_3 (by decide) (by decide) (by decide) (by decide) ?_
    refine lv_aload_n hx hb dX12_count_40 rfl (lv_at hl 1 rfl) ?_
    obtain ⟨n1, b1, e1⟩ := hI.1 31 48 rfl
    refine x_getI E h (fi_mo_rows g) rfl hwX12 (by decide) (by decide +kernel) (v := nI n1) e1 dX12_count_41 ?_
    exact x_iret E h rfl dX12_count_44
  by_cases c_3_1 : p1 = 1
  · refine x_topI (v2 := 1) c_3_1 ?_
    refine lv_tableIn (tgt := 45) (off := 42) hx hb dX12_count_3 (by decide) (by decide) (by decide) (by decide) ?_
    refine lv_iconst (v := 0) hx hb dX12_count_45 (by decide) ?_
    refine lv_istore_n (lv' := [(3, .int 0), (2, .int 0), (0, .ref (g.2.1 79)), (1, .int p1)]) hx hb dX12_count_46 rfl hl (by decide) rfl (fun ls hl => ?_)
    obtain ⟨n3, b3, e3⟩ := hI.1 31 48 rfl
    have loop47_2 : ∀ (fu : Nat) (i2_3 : Nat) (i2_2 : Int32), i2_3 ≤ n3 → n3 - i2_3 < fu → ∀ (H : Heap) (locs : List Loc) (ls : Array Slot), HW g σ s H locs → lv_has ls 4 [(3, .int (nI i2_3)), (2, .int i2_2), (0, .ref (g.2.1 79)), (1, .int p1)] → W p l e { frames := 0, cells := 0, slots := 0, locals := 0 } s m args below meth c H locs 0 0 (MQ below (XQi g (fun r σ' => σ = σ')) args s 0 0 (Aw g)) (F0 m 47 ls []) := by
      intro fu
      induction fu with
      | zero => intro i2_3 i2_2 bi2_3 hm; exact absurd hm (Nat.not_lt_zero _)
      | succ fu ih =>
        have ih2 := ih
        clear ih
        intro i2_3 i2_2 bi2_3 hm2 H locs ls h hl
        refine lv_iload_n hx hb dX12_count_47 rfl (lv_at hl 0 rfl) ?_
        refine lv_aload_n hx hb dX12_count_48 rfl (lv_at hl 2 rfl) ?_
        refine x_getI E h (fi_mo_rows g) rfl hwX12 (by decide) (by decide +kernel) (v := nI n3) e3 dX12_count_49 ?_
        refine lv_icmp_ge (tgt := 78) hx hb dX12_count_52 (by decide) (fun c4 => ?_) (fun c4 => ?_)
        · skip
          have b5 : n3 ≤ i2_3 := y_le (a := n3) (b := i2_3) (by omega) (by omega) c4
          refine lv_iload_n hx hb dX12_count_78 rfl (lv_at hl 1 rfl) ?_
          exact x_iret E h rfl dX12_count_79
        · skip
          have b6 : i2_3 < n3 := y_nle (a := n3) (b := i2_3) (by omega) (by omega) c4
          refine lv_iload_n hx hb dX12_count_55 rfl (lv_at hl 1 rfl) ?_
          refine lv_aload_n hx hb dX12_count_56 rfl (lv_at hl 2 rfl) ?_
          refine x_getR E h (fr_mo_isDeaf g) rfl hwX12 (by decide) (by decide +kernel) dX12_count_57 ?_
          refine lv_iload_n hx hb dX12_count_60 rfl (lv_at hl 0 rfl) ?_
          refine x_ldZ E h (ia_mo_isDeaf g) (i := nI i2_3) (vp_in_nI (by omega) (by decide)) (v := σ.2.2 69 i2_3) (congrArg (σ.2.2 69) (nI_clamp (by omega))) dX12_count_61 ?_
          have j70_9 : ∀ (y9_s0 : Int32), ∀ (H : Heap) (locs : List Loc) (ls : Array Slot), HW g σ s H locs → lv_has ls 4 [(3, .int (nI i2_3)), (2, .int i2_2), (0, .ref (g.2.1 79)), (1, .int p1)] → W p l e { frames := 0, cells := 0, slots := 0, locals := 0 } s m args below meth c H locs 0 0 (MQ below (XQi g (fun r σ' => σ = σ')) args s 0 0 (Aw g)) (F0 m 70 ls [.int y9_s0, .int i2_2]) := by
            intro y9_s0 H locs ls h hl
            refine lv_iadd hx hb dX12_count_70 ?_
            refine lv_topi (fun x10 e10 => ?_)
            refine lv_istore_n (lv' := [(2, .int x10), (3, .int (nI i2_3)), (0, .ref (g.2.1 79)), (1, .int p1)]) hx hb dX12_count_71 rfl hl (by decide) rfl (fun ls hl => ?_)
            refine lv_iinc (v := (nI (i2_3 + 1))) (lv' := [(3, .int (nI (i2_3 + 1))), (2, .int x10), (0, .ref (g.2.1 79)), (1, .int p1)]) hx hb dX12_count_72 hl (k := 1) rfl (nI_add i2_3 1) (by decide) rfl (fun ls hl => ?_)
            refine lv_goto (tgt := 47) hx hb dX12_count_75 (by decide) ?_
            exact ih2 (i2_3 + 1) x10 (by omega) (by omega) _ _ _ h (lv_sub hl [0, 1, 2, 3] rfl)
          refine lv_if_eq (tgt := 69) hx hb dX12_count_62 (by decide) (fun c7 => ?_) (fun c7 => ?_)
          · skip
            refine lv_iconst (v := 0) hx hb dX12_count_69 (by decide) ?_
            exact j70_9 0 _ _ _ h (lv_sub hl [0, 1, 2, 3] rfl)
          · skip
            refine lv_iconst (v := 1) hx hb dX12_count_65 (by decide) ?_
            refine lv_goto (tgt := 70) hx hb dX12_count_66 (by decide) ?_
            exact j70_9 1 _ _ _ h (lv_sub hl [0, 1, 2, 3] rfl)
    exact loop47_2 _ 0 0 (Nat.zero_le _) (Nat.lt_succ_self _) _ _ _ h (lv_sub hl [0, 1, 2, 3] rfl)
  by_cases c_3_2 : p1 = 2
  · refine x_topI (v2 := 2) c_3_2 ?_
    refine lv_tableIn (tgt := 80) (off := 77) hx hb dX12_count_3 (by decide) (by decide) (by decide) (by decide) ?_
    refine lv_iconst (v := 0) hx hb dX12_count_80 (by decide) ?_
    refine lv_istore_n (lv' := [(3, .int 0), (2, .int 0), (0, .ref (g.2.1 79)), (1, .int p1)]) hx hb dX12_count_81 rfl hl (by decide) rfl (fun ls hl => ?_)
    obtain ⟨n13, b13, e13⟩ := hI.1 31 48 rfl
    have loop82_12 : ∀ (fu : Nat) (i12_3 : Nat) (i12_2 : Int32), i12_3 ≤ n13 → n13 - i12_3 < fu → ∀ (H : Heap) (locs : List Loc) (ls : Array Slot), HW g σ s H locs → lv_has ls 4 [(3, .int (nI i12_3)), (2, .int i12_2), (0, .ref (g.2.1 79)), (1, .int p1)] → W p l e { frames := 0, cells := 0, slots := 0, locals := 0 } s m args below meth c H locs 0 0 (MQ below (XQi g (fun r σ' => σ = σ')) args s 0 0 (Aw g)) (F0 m 82 ls []) := by
      intro fu
      induction fu with
      | zero => intro i12_3 i12_2 bi12_3 hm; exact absurd hm (Nat.not_lt_zero _)
      | succ fu ih =>
        have ih12 := ih
        clear ih
        intro i12_3 i12_2 bi12_3 hm12 H locs ls h hl
        refine lv_iload_n hx hb dX12_count_82 rfl (lv_at hl 0 rfl) ?_
        refine lv_aload_n hx hb dX12_count_83 rfl (lv_at hl 2 rfl) ?_
        refine x_getI E h (fi_mo_rows g) rfl hwX12 (by decide) (by decide +kernel) (v := nI n13) e13 dX12_count_84 ?_
        refine lv_icmp_ge (tgt := 113) hx hb dX12_count_87 (by decide) (fun c14 => ?_) (fun c14 => ?_)
        · skip
          have b15 : n13 ≤ i12_3 := y_le (a := n13) (b := i12_3) (by omega) (by omega) c14
          refine lv_iload_n hx hb dX12_count_113 rfl (lv_at hl 1 rfl) ?_
          exact x_iret E h rfl dX12_count_114
        · skip
          have b16 : i12_3 < n13 := y_nle (a := n13) (b := i12_3) (by omega) (by omega) c14
          refine lv_iload_n hx hb dX12_count_90 rfl (lv_at hl 1 rfl) ?_
          refine lv_aload_n hx hb dX12_count_91 rfl (lv_at hl 2 rfl) ?_
          refine x_getR E h (fr_mo_isOut g) rfl hwX12 (by decide) (by decide +kernel) dX12_count_92 ?_
          refine lv_iload_n hx hb dX12_count_95 rfl (lv_at hl 0 rfl) ?_
          refine x_ldZ E h (ia_mo_isOut g) (i := nI i12_3) (vp_in_nI (by omega) (by decide)) (v := σ.2.2 70 i12_3) (congrArg (σ.2.2 70) (nI_clamp (by omega))) dX12_count_96 ?_
          have j105_19 : ∀ (y19_s0 : Int32), ∀ (H : Heap) (locs : List Loc) (ls : Array Slot), HW g σ s H locs → lv_has ls 4 [(3, .int (nI i12_3)), (2, .int i12_2), (0, .ref (g.2.1 79)), (1, .int p1)] → W p l e { frames := 0, cells := 0, slots := 0, locals := 0 } s m args below meth c H locs 0 0 (MQ below (XQi g (fun r σ' => σ = σ')) args s 0 0 (Aw g)) (F0 m 105 ls [.int y19_s0, .int i12_2]) := by
            intro y19_s0 H locs ls h hl
            refine lv_iadd hx hb dX12_count_105 ?_
            refine lv_topi (fun x20 e20 => ?_)
            refine lv_istore_n (lv' := [(2, .int x20), (3, .int (nI i12_3)), (0, .ref (g.2.1 79)), (1, .int p1)]) hx hb dX12_count_106 rfl hl (by decide) rfl (fun ls hl => ?_)
            refine lv_iinc (v := (nI (i12_3 + 1))) (lv' := [(3, .int (nI (i12_3 + 1))), (2, .int x20), (0, .ref (g.2.1 79)), (1, .int p1)]) hx hb dX12_count_107 hl (k := 1) rfl (nI_add i12_3 1) (by decide) rfl (fun ls hl => ?_)
            refine lv_goto (tgt := 82) hx hb dX12_count_110 (by decide) ?_
            exact ih12 (i12_3 + 1) x20 (by omega) (by omega) _ _ _ h (lv_sub hl [0, 1, 2, 3] rfl)
          refine lv_if_eq (tgt := 104) hx hb dX12_count_97 (by decide) (fun c17 => ?_) (fun c17 => ?_)
          · skip
            refine lv_iconst (v := 0) hx hb dX12_count_104 (by decide) ?_
            exact j105_19 0 _ _ _ h (lv_sub hl [0, 1, 2, 3] rfl)
          · skip
            refine lv_iconst (v := 1) hx hb dX12_count_100 (by decide) ?_
            refine lv_goto (tgt := 105) hx hb dX12_count_101 (by decide) ?_
            exact j105_19 1 _ _ _ h (lv_sub hl [0, 1, 2, 3] rfl)
    exact loop82_12 _ 0 0 (Nat.zero_le _) (Nat.lt_succ_self _) _ _ _ h (lv_sub hl [0, 1, 2, 3] rfl)
  by_cases c_3_3 : p1 = 3
  · refine x_topI (v2 := 3) c_3_3 ?_
    refine lv_tableIn (tgt := 115) (off := 112) hx hb dX12_count_3 (by decide) (by decide) (by decide) (by decide) ?_
    refine lv_aload_n hx hb dX12_count_115 rfl (lv_at hl 1 rfl) ?_
    obtain ⟨n22, b22, e22⟩ := hI.1 40 6 rfl
    refine x_getI E h (fi_mo_kept g) rfl hwX12 (by decide) (by decide +kernel) (v := nI n22) e22 dX12_count_116 ?_
    exact x_iret E h rfl dX12_count_119
  by_cases c_3_4 : p1 = 4
  · refine x_topI (v2 := 4) c_3_4 ?_
    refine lv_tableIn (tgt := 120) (off := 117) hx hb dX12_count_3 (by decide) (by decide) (by decide) (by decide) ?_
    refine lv_aload_n hx hb dX12_count_120 rfl (lv_at hl 1 rfl) ?_
    obtain ⟨n23, b23, e23⟩ := hI.1 32 12 rfl
    refine x_getI E h (fi_mo_words g) rfl hwX12 (by decide) (by decide +kernel) (v := nI n23) e23 dX12_count_121 ?_
    exact x_iret E h rfl dX12_count_124
  by_cases c_3_5 : p1 = 5
  · refine x_topI (v2 := 5) c_3_5 ?_
    refine lv_tableIn (tgt := 125) (off := 122) hx hb dX12_count_3 (by decide) (by decide) (by decide) (by decide) ?_
    refine lv_aload_n hx hb dX12_count_125 rfl (lv_at hl 1 rfl) ?_
    obtain ⟨n24, b24, e24⟩ := hI.1 25 200 rfl
    refine x_getI E h (fi_mo_typed g) rfl hwX12 (by decide) (by decide +kernel) (v := nI n24) e24 dX12_count_126 ?_
    exact x_iret E h rfl dX12_count_129
  refine lv_tableOut (tgt := 130) hx hb dX12_count_3 (x_out5 c_3_0 c_3_1 c_3_2 c_3_3 c_3_4 c_3_5) (by decide) ?_
  refine lv_iconst (v := (-1)) hx hb dX12_count_130 (by decide) ?_
  exact x_iret E h rfl dX12_count_131
set_option maxHeartbeats 4000000 in
set_option maxRecDepth 100000 in
theorem aX12_trace_0 (l : Launch) (g : CX) (σ : ST) (hI : INV σ)  : XM l g yX12_trace wsX12_trace { frames := 0, cells := 0, slots := 0, locals := 0 } [.ref (g.2.1 79)] σ (XQl g (fun r σ' => σ = σ')) := by
  refine x_met (own := RX12) (cc := cX12_trace) (maxL := 1) (ret := (some .long)) (lv := [(0, .ref (g.2.1 79))]) (by decide) rfl rfl (Nat.le_of_ble_eq_true rfl) rfl ?_
  intro p e s m args below meth c ls E h hl
  have hx := E.1
  have hb := E.2.1
  have hown := E.2.2.2.1
  have hts := E.2.2.2.2.1
  have hwX12 : ∀ w ∈ wsX120, w ∈ wsX12_trace := by decide +kernel
  refine lv_aload_n hx hb dX12_trace_0 rfl (lv_at hl 0 rfl) ?_
  refine x_getL E h (fl_mo_trace g) rfl hwX12 (by decide) (by decide +kernel) rfl dX12_trace_1 ?_
  exact x_lret E h rfl dX12_trace_4
