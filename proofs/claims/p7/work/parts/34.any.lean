set_option maxHeartbeats 4000000 in
set_option maxRecDepth 100000 in
theorem aX11_forget_0 (l : Launch) (g : CX) (σ : ST) (hI : INV σ) (p1 : Int32) : XM l g yX11_forget wsX11_forget { frames := 2, cells := 0, slots := 0, locals := 45 } [.ref (g.2.1 0), .int p1] σ (XQi g (fun r σ' => INV σ' ∧ Fr [(19, 19)] [(49, 50)] σ σ')) := by
  refine x_met (own := RX11) (cc := cX11_forget) (maxL := 2) (ret := (some .int)) (lv := [(0, .ref (g.2.1 0)), (1, .int p1)]) (by decide) rfl rfl (Nat.le_of_ble_eq_true rfl) rfl ?_
  intro p e s m args below meth c ls E h hl
  have hx := E.1
  have hb := E.2.1
  have hown := E.2.2.2.1
  have hts := E.2.2.2.2.1
  have hF : Fr [(19, 19)] [(49, 50)] σ σ := Fr.refl σ
  have hwX11 : ∀ w ∈ wsX110, w ∈ wsX11_forget := by decide +kernel
  refine lv_aload_n hx hb dX11_forget_0 rfl (lv_at hl 0 rfl) ?_
  refine x_getR E h (fr_vh_kept g) rfl hwX11 (by decide) (by decide +kernel) dX11_forget_1 ?_
  refine lv_iload_n hx hb dX11_forget_4 rfl (lv_at hl 1 rfl) ?_
  refine x_vi E h (na := 1) (As := [.int p1]) (aX5_has_0 l g σ hI p1) (oc_ke g) rfl gX11_forget_X5_has rfl ⟨rfl, rfl⟩ rfl (by decide +kernel) ⟨Nat.le_of_ble_eq_true rfl, Nat.le_of_ble_eq_true rfl⟩ hl.1 rfl (Nat.le_of_ble_eq_true rfl) dX11_forget_5 ⟨Nat.le_of_ble_eq_true rfl, Nat.le_of_ble_eq_true rfl⟩ (fun r1 s1 H locs q1 h => ?_)
  obtain ⟨d1, rfl⟩ := q1
  rcases d1 with ⟨rfl, m1_0n, m1_0K, u1_0_0, u1_0_1, u1_0_2, rfl⟩ | rfl
  · skip
    refine lv_if_eq (tgt := 22) hx hb dX11_forget_8 (by decide) (fun c => absurd c (by decide)) (fun _ => ?_)
    refine lv_aload_n hx hb dX11_forget_11 rfl (lv_at hl 0 rfl) ?_
    refine x_getR E h (fr_vh_kept g) rfl hwX11 (by decide) (by decide +kernel) dX11_forget_12 ?_
    refine lv_iload_n hx hb dX11_forget_15 rfl (lv_at hl 1 rfl) ?_
    refine x_vi E h (na := 1) (As := [.int (nI m1_0n)]) (aX5_remove_0 l g σ hI (nI m1_0n)) (oc_ke g) rfl gX11_forget_X5_remove rfl ⟨rfl, rfl⟩ rfl (by decide +kernel) ⟨Nat.le_of_ble_eq_true rfl, Nat.le_of_ble_eq_true rfl⟩ hl.1 rfl (Nat.le_of_ble_eq_true rfl) dX11_forget_16 ⟨Nat.le_of_ble_eq_true rfl, Nat.le_of_ble_eq_true rfl⟩ (fun r2 s2 H locs q2 h => ?_)
    obtain ⟨hI2, f2⟩ := q2
    have hF2 := hF.call f2 (I := [(19, 19)]) (J := [(49, 50)]) rfl rfl
    refine lv_goto (tgt := 23) hx hb dX11_forget_19 (by decide) ?_
    exact x_iret E h ⟨hI2, hF2⟩ dX11_forget_23
  · skip
    refine lv_if_eq (tgt := 22) hx hb dX11_forget_8 (by decide) (fun _ => ?_) (fun c => absurd (by decide) c)
    refine lv_iconst (v := (-1)) hx hb dX11_forget_22 (by decide) ?_
    exact x_iret E h ⟨hI, hF⟩ dX11_forget_23
set_option maxHeartbeats 4000000 in
set_option maxRecDepth 100000 in
theorem aX11_off_2 (l : Launch) (g : CX) (σ : ST) (hI : INV σ) (p1 : Int32) (p3 : Int32) : XM l g yX11_off wsX11_off { frames := 1, cells := 0, slots := 0, locals := 21 } [.ref (g.2.1 60), .int p1, .ref (g.2.1 51), .int p3] σ (XQi g (fun r σ' => σ = σ')) := by
  refine x_met (own := RX11) (cc := cX11_off) (maxL := 6) (ret := (some .int)) (lv := [(0, .ref (g.2.1 60)), (1, .int p1), (2, .ref (g.2.1 51)), (3, .int p3)]) (by decide) rfl rfl (Nat.le_of_ble_eq_true rfl) rfl ?_
  intro p e s m args below meth c ls E h hl
  have hx := E.1
  have hb := E.2.1
  have hown := E.2.2.2.1
  have hts := E.2.2.2.2.1
  refine lv_iload_n hx hb dX11_off_0 rfl (lv_at hl 1 rfl) ?_
  refine lv_if_lt (tgt := 24) hx hb dX11_off_1 (by decide) (fun c1 => ?_) (fun c1 => ?_)
  · skip
    refine lv_iconst (v := 0) hx hb dX11_off_24 (by decide) ?_
    exact x_iret E h rfl dX11_off_25
  · skip
    refine lv_iload_n hx hb dX11_off_4 rfl (lv_at hl 1 rfl) ?_
    refine lv_aload_n hx hb dX11_off_5 rfl (lv_at hl 0 rfl) ?_
    refine x_len E h (ia_ke_middles g) (v := 24) (by decide) dX11_off_6 ?_
    refine lv_iconst (v := 4) hx hb dX11_off_7 (by decide) ?_
    refine lv_isub hx hb dX11_off_8 ?_
    refine x_topI (v2 := 20) (by decide) ?_
    refine lv_icmp_gt (tgt := 24) hx hb dX11_off_9 (by decide) (fun c4 => ?_) (fun c4 => ?_)
    · skip
      refine lv_iconst (v := 0) hx hb dX11_off_24 (by decide) ?_
      exact x_iret E h rfl dX11_off_25
    · skip
      obtain ⟨n7, b7, rfl⟩ := y_rnlt (N := 20) (y_lo1 c1 (by decide)) c4 (by omega)
      have b8 : 0 ≤ n7 := y_nlt (a := n7) (b := 0) (by omega) (by omega) c1
      have b9 : n7 ≤ 20 := y_nlt (a := 20) (b := n7) (by omega) (by omega) c4
      refine lv_iload_n hx hb dX11_off_12 rfl (lv_at hl 3 rfl) ?_
      refine lv_if_lt (tgt := 24) hx hb dX11_off_13 (by decide) (fun c10 => ?_) (fun c10 => ?_)
      · skip
        refine lv_iconst (v := 0) hx hb dX11_off_24 (by decide) ?_
        exact x_iret E h rfl dX11_off_25
      · skip
        refine lv_iload_n hx hb dX11_off_16 rfl (lv_at hl 3 rfl) ?_
        refine lv_aload_n hx hb dX11_off_17 rfl (lv_at hl 2 rfl) ?_
        refine x_len E h (ia_be_middles g) (v := 36) (by decide) dX11_off_18 ?_
        refine lv_iconst (v := 4) hx hb dX11_off_19 (by decide) ?_
        refine lv_isub hx hb dX11_off_20 ?_
        refine x_topI (v2 := 32) (by decide) ?_
        refine lv_icmp_le (tgt := 26) hx hb dX11_off_21 (by decide) (fun c13 => ?_) (fun c13 => ?_)
        · skip
          obtain ⟨n15, b15, rfl⟩ := y_rle (N := 32) (y_lo1 c10 (by decide)) c13 (by omega)
          have b16 : 0 ≤ n15 := y_nlt (a := n15) (b := 0) (by omega) (by omega) c10
          have b17 : n15 ≤ 32 := y_le (a := n15) (b := 32) (by omega) (by omega) c13
          refine lv_iconst (v := 0) hx hb dX11_off_26 (by decide) ?_
          refine lv_istore (lv' := [(4, .int 0), (0, .ref (g.2.1 60)), (1, .int (nI n7)), (2, .ref (g.2.1 51)), (3, .int (nI n15))]) hx hb dX11_off_27 hl (by decide) rfl (fun ls hl => ?_)
          refine lv_iconst (v := 0) hx hb dX11_off_29 (by decide) ?_
          refine lv_istore (lv' := [(5, .int 0), (4, .int 0), (0, .ref (g.2.1 60)), (1, .int (nI n7)), (2, .ref (g.2.1 51)), (3, .int (nI n15))]) hx hb dX11_off_30 hl (by decide) rfl (fun ls hl => ?_)
          have loop32_18 : ∀ (fu : Nat) (i18_5 : Nat) (i18_4 : Int32), i18_5 ≤ 4 → 4 - i18_5 < fu → ∀ (H : Heap) (locs : List Loc) (ls : Array Slot), HW g σ s H locs → lv_has ls 6 [(5, .int (nI i18_5)), (4, .int i18_4), (0, .ref (g.2.1 60)), (1, .int (nI n7)), (2, .ref (g.2.1 51)), (3, .int (nI n15))] → W p l e { frames := 1, cells := 0, slots := 0, locals := 21 } s m args below meth c H locs 0 0 (MQ below (XQi g (fun r σ' => σ = σ')) args s 0 0 (Aw g)) (F0 m 32 ls []) := by
            intro fu
            induction fu with
            | zero => intro i18_5 i18_4 bi18_5 hm; exact absurd hm (Nat.not_lt_zero _)
            | succ fu ih =>
              have ih18 := ih
              clear ih
              intro i18_5 i18_4 bi18_5 hm18 H locs ls h hl
              refine lv_iload hx hb dX11_off_32 (lv_at hl 0 rfl) ?_
              refine lv_iconst (v := 4) hx hb dX11_off_34 (by decide) ?_
              refine lv_icmp_ge (tgt := 65) hx hb dX11_off_35 (by decide) (fun c19 => ?_) (fun c19 => ?_)
              · skip
                have b20 : 4 ≤ i18_5 := y_le (a := 4) (b := i18_5) (by omega) (by omega) c19
                refine lv_iload hx hb dX11_off_65 (lv_at hl 1 rfl) ?_
                exact x_iret E h rfl dX11_off_67
              · skip
                have b21 : i18_5 < 4 := y_nle (a := 4) (b := i18_5) (by omega) (by omega) c19
                refine lv_iload hx hb dX11_off_38 (lv_at hl 1 rfl) ?_
                refine lv_aload_n hx hb dX11_off_40 rfl (lv_at hl 2 rfl) ?_
                refine lv_iload_n hx hb dX11_off_41 rfl (lv_at hl 3 rfl) ?_
                refine lv_iload hx hb dX11_off_42 (lv_at hl 0 rfl) ?_
                refine lv_iadd hx hb dX11_off_44 ?_
                refine x_topI (v2 := nI (n7 + i18_5)) (nI_add n7 i18_5) ?_
                refine x_ldI E h (ia_ke_middles g) (i := nI (n7 + i18_5)) (vp_in_nI (by omega) (by decide)) (v := σ.2.2 50 (n7 + i18_5)) (congrArg (σ.2.2 50) (nI_clamp (by omega))) dX11_off_45 ?_
                refine lv_aload_n hx hb dX11_off_46 rfl (lv_at hl 4 rfl) ?_
                refine lv_iload_n hx hb dX11_off_47 rfl (lv_at hl 5 rfl) ?_
                refine lv_iload hx hb dX11_off_48 (lv_at hl 0 rfl) ?_
                refine lv_iadd hx hb dX11_off_50 ?_
                refine x_topI (v2 := nI (n15 + i18_5)) (nI_add n15 i18_5) ?_
                refine x_ldI E h (ia_be_middles g) (i := nI (n15 + i18_5)) (vp_in_nI (by omega) (by decide)) (v := σ.2.2 43 (n15 + i18_5)) (congrArg (σ.2.2 43) (nI_clamp (by omega))) dX11_off_51 ?_
                refine lv_isub hx hb dX11_off_52 ?_
                refine lv_topi (fun x22 e22 => ?_)
                refine x_abs E hl.1 (by decide +kernel) (by decide +kernel) (by decide +kernel) (by decide +kernel) ⟨Nat.le_of_ble_eq_true rfl, Nat.le_of_ble_eq_true rfl⟩ ⟨Nat.zero_le _, Nat.zero_le _⟩ dX11_off_53 ?_
                refine lv_topi (fun x23 e23 => ?_)
                refine lv_iadd hx hb dX11_off_56 ?_
                refine lv_topi (fun x24 e24 => ?_)
                refine lv_istore (lv' := [(4, .int x24), (5, .int (nI i18_5)), (0, .ref (g.2.1 60)), (1, .int (nI n7)), (2, .ref (g.2.1 51)), (3, .int (nI n15))]) hx hb dX11_off_57 hl (by decide) rfl (fun ls hl => ?_)
                refine lv_iinc (v := (nI (i18_5 + 1))) (lv' := [(5, .int (nI (i18_5 + 1))), (4, .int x24), (0, .ref (g.2.1 60)), (1, .int (nI n7)), (2, .ref (g.2.1 51)), (3, .int (nI n15))]) hx hb dX11_off_59 hl (k := 1) rfl (nI_add i18_5 1) (by decide) rfl (fun ls hl => ?_)
                refine lv_goto (tgt := 32) hx hb dX11_off_62 (by decide) ?_
                exact ih18 (i18_5 + 1) x24 (by omega) (by omega) _ _ _ h (lv_sub hl [0, 1, 2, 3, 4, 5] rfl)
          exact loop32_18 _ 0 0 (Nat.zero_le _) (Nat.lt_succ_self _) _ _ _ h (lv_sub hl [0, 1, 2, 3, 4, 5] rfl)
        · skip
          refine lv_iconst (v := 0) hx hb dX11_off_24 (by decide) ?_
          exact x_iret E h rfl dX11_off_25
set_option maxHeartbeats 4000000 in
set_option maxRecDepth 100000 in
theorem aX5_nearestTo_0 (l : Launch) (g : CX) (σ : ST) (hI : INV σ) (p2 : Int32) (p3 : Int32) : XM l g yX5_nearestTo wsX5_nearestTo { frames := 2, cells := 0, slots := 0, locals := 46 } [.ref (g.2.1 58), .ref (g.2.1 48), .int p2, .int p3] σ (XQi g (fun r σ' => Opt (-9) 6 r ∧ σ = σ')) := by
  refine x_met (own := RX5) (cc := cX5_nearestTo) (maxL := 8) (ret := (some .int)) (lv := [(0, .ref (g.2.1 58)), (1, .ref (g.2.1 48)), (2, .int p2), (3, .int p3)]) (by decide) rfl rfl (Nat.le_of_ble_eq_true rfl) rfl ?_
  intro p e s m args below meth c ls E h hl
  have hx := E.1
  have hb := E.2.1
  have hown := E.2.2.2.1
  have hts := E.2.2.2.2.1
  have hwX4 : ∀ w ∈ wsX40, w ∈ wsX5_nearestTo := by decide +kernel
  have hwX5 : ∀ w ∈ wsX50, w ∈ wsX5_nearestTo := by decide +kernel
  refine lv_bipush (v := (-9)) hx hb dX5_nearestTo_0 (by decide) ?_
  refine lv_istore (lv' := [(4, .int (-9)), (0, .ref (g.2.1 58)), (1, .ref (g.2.1 48)), (2, .int p2), (3, .int p3)]) hx hb dX5_nearestTo_2 hl (by decide) rfl (fun ls hl => ?_)
  refine lv_iload_n hx hb dX5_nearestTo_4 rfl (lv_at hl 4 rfl) ?_
  refine lv_istore (lv' := [(5, .int p3), (4, .int (-9)), (0, .ref (g.2.1 58)), (1, .ref (g.2.1 48)), (2, .int p2), (3, .int p3)]) hx hb dX5_nearestTo_5 hl (by decide) rfl (fun ls hl => ?_)
  refine lv_aload_n hx hb dX5_nearestTo_7 rfl (lv_at hl 2 rfl) ?_
  obtain ⟨n1, b1, e1⟩ := hI.1 19 6 rfl
  refine x_getI E h (fi_ke_voices g) rfl hwX5 (by decide) (by decide +kernel) (v := nI n1) e1 dX5_nearestTo_8 ?_
  refine lv_iconst (v := 1) hx hb dX5_nearestTo_11 (by decide) ?_
  refine lv_isub hx hb dX5_nearestTo_12 ?_
  refine lv_istore (lv' := [(6, .int (nI n1 - 1)), (5, .int p3), (4, .int (-9)), (0, .ref (g.2.1 58)), (1, .ref (g.2.1 48)), (2, .int p2), (3, .int p3)]) hx hb dX5_nearestTo_13 hl (by decide) rfl (fun ls hl => ?_)
  have loop15_2 : ∀ (fu : Nat) (i2_6 : Nat) (i2_5 : Int32) (i2_4 : Int32), i2_6 ≤ 6 → Opt (-9) 6 i2_4 → i2_6 < fu → ∀ (H : Heap) (locs : List Loc) (ls : Array Slot), HW g σ s H locs → lv_has ls 8 [(6, .int (nI i2_6 - 1)), (5, .int i2_5), (4, .int i2_4), (0, .ref (g.2.1 58)), (1, .ref (g.2.1 48)), (2, .int p2), (3, .int p3)] → W p l e { frames := 2, cells := 0, slots := 0, locals := 46 } s m args below meth c H locs 0 0 (MQ below (XQi g (fun r σ' => Opt (-9) 6 r ∧ σ = σ')) args s 0 0 (Aw g)) (F0 m 15 ls []) := by
    intro fu
    induction fu with
    | zero => intro i2_6 i2_5 i2_4 bi2_6 oi2_4 hm; exact absurd hm (Nat.not_lt_zero _)
    | succ fu ih =>
      have ih2 := ih
      clear ih
      intro i2_6 i2_5 i2_4 bi2_6 oi2_4 hm2 H locs ls h hl
      refine lv_iload hx hb dX5_nearestTo_15 (lv_at hl 0 rfl) ?_
      refine lv_if_lt (tgt := 61) hx hb dX5_nearestTo_17 (by decide) (fun c3 => ?_) (fun c3 => ?_)
      · skip
        have b4 : i2_6 < 0 + 1 := y_ltL (a := i2_6) (b := 0) (by omega) (by omega) c3
        refine lv_iload hx hb dX5_nearestTo_61 (lv_at hl 2 rfl) ?_
        exact x_iret E h ⟨oi2_4, rfl⟩ dX5_nearestTo_63
      · skip
        have b5 : 0 + 1 ≤ i2_6 := y_nltL (a := i2_6) (b := 0) (by omega) (by omega) c3
        obtain ⟨n6, rfl⟩ : ∃ z, i2_6 = z + 1 := ⟨i2_6 - 1, by omega⟩
        rw [nI_pred] at hl
        refine lv_aload_n hx hb dX5_nearestTo_20 rfl (lv_at hl 3 rfl) ?_
        refine x_getR E h (fr_ke_middles g) rfl hwX5 (by decide) (by decide +kernel) dX5_nearestTo_21 ?_
        refine lv_iload hx hb dX5_nearestTo_24 (lv_at hl 0 rfl) ?_
        refine lv_iconst (v := 4) hx hb dX5_nearestTo_26 (by decide) ?_
        refine lv_imul hx hb dX5_nearestTo_27 ?_
        refine x_topI (v2 := nI (n6 * 4)) (pk_mul n6 4) ?_
        refine lv_aload_n hx hb dX5_nearestTo_28 rfl (lv_at hl 4 rfl) ?_
        refine x_getRN E h (fr_be_middles g) rfl hwX4 (by decide) (by decide +kernel) dX5_nearestTo_29 ?_
        refine lv_iload_n hx hb dX5_nearestTo_32 rfl (lv_at hl 5 rfl) ?_
        refine lv_iconst (v := 4) hx hb dX5_nearestTo_33 (by decide) ?_
        refine lv_imul hx hb dX5_nearestTo_34 ?_
        refine lv_topi (fun x7 e7 => ?_)
        refine x_siN (host := "VoiceHeaps") E h (na := 4) (As := [.ref (g.2.1 60), .int (nI (n6 * 4)), .ref (g.2.1 51), .int x7]) (aX11_off_2 l g σ hI (nI (n6 * 4)) x7) gX5_nearestTo_X11_off_n36 (by decide +kernel) (by decide +kernel) (by decide +kernel) rfl ⟨rfl, rfl⟩ rfl (by decide +kernel) ⟨Nat.le_of_ble_eq_true rfl, Nat.le_of_ble_eq_true rfl⟩ hl.1 rfl (Nat.le_of_ble_eq_true rfl) dX5_nearestTo_35 ⟨Nat.le_of_ble_eq_true rfl, Nat.le_of_ble_eq_true rfl⟩ (fun r8 s8 H locs q8 h => ?_)
        subst q8
        refine lv_istore (lv' := [(7, .int r8), (6, .int (nI n6)), (5, .int i2_5), (4, .int i2_4), (0, .ref (g.2.1 58)), (1, .ref (g.2.1 48)), (2, .int p2), (3, .int p3)]) hx hb dX5_nearestTo_38 hl (by decide) rfl (fun ls hl => ?_)
        refine lv_iload hx hb dX5_nearestTo_40 (lv_at hl 0 rfl) ?_
        refine lv_iload hx hb dX5_nearestTo_42 (lv_at hl 2 rfl) ?_
        have j55_11 : ∀ (y11_l5 : Int32) (y11_l4 : Int32), Opt (-9) 6 y11_l4 → ∀ (H : Heap) (locs : List Loc) (ls : Array Slot), HW g σ s H locs → lv_has ls 8 [(7, .int r8), (6, .int (nI n6)), (5, .int y11_l5), (4, .int y11_l4), (0, .ref (g.2.1 58)), (1, .ref (g.2.1 48)), (2, .int p2), (3, .int p3)] → W p l e { frames := 2, cells := 0, slots := 0, locals := 46 } s m args below meth c H locs 0 0 (MQ below (XQi g (fun r σ' => Opt (-9) 6 r ∧ σ = σ')) args s 0 0 (Aw g)) (F0 m 55 ls []) := by
          intro y11_l5 y11_l4 oy11_l4 H locs ls h hl
          refine lv_iinc (v := (nI n6 - 1)) (lv' := [(6, .int (nI n6 - 1)), (7, .int r8), (5, .int y11_l5), (4, .int y11_l4), (0, .ref (g.2.1 58)), (1, .ref (g.2.1 48)), (2, .int p2), (3, .int p3)]) hx hb dX5_nearestTo_55 hl (k := 1) rfl (y_m1 n6) (by decide) rfl (fun ls hl => ?_)
          refine lv_goto (tgt := 15) hx hb dX5_nearestTo_58 (by decide) ?_
          exact ih2 n6 y11_l5 y11_l4 (by omega) oy11_l4 (by omega) _ _ _ h (lv_sub hl [0, 2, 3, 4, 5, 6, 7] rfl)
        refine lv_icmp_gt (tgt := 55) hx hb dX5_nearestTo_44 (by decide) (fun c9 => ?_) (fun c9 => ?_)
        · skip
          exact j55_11 i2_5 i2_4 oi2_4 _ _ _ h (lv_sub hl [0, 1, 2, 3, 4, 5, 6, 7] rfl)
        · skip
          refine lv_iload hx hb dX5_nearestTo_47 (lv_at hl 0 rfl) ?_
          refine lv_istore (lv' := [(5, .int r8), (7, .int r8), (6, .int (nI n6)), (4, .int i2_4), (0, .ref (g.2.1 58)), (1, .ref (g.2.1 48)), (2, .int p2), (3, .int p3)]) hx hb dX5_nearestTo_49 hl (by decide) rfl (fun ls hl => ?_)
          refine lv_iload hx hb dX5_nearestTo_51 (lv_at hl 2 rfl) ?_
          refine lv_istore (lv' := [(4, .int (nI n6)), (5, .int r8), (7, .int r8), (6, .int (nI n6)), (0, .ref (g.2.1 58)), (1, .ref (g.2.1 48)), (2, .int p2), (3, .int p3)]) hx hb dX5_nearestTo_53 hl (by decide) rfl (fun ls hl => ?_)
          exact j55_11 r8 (nI n6) (Or.inr ⟨n6, by omega, rfl⟩) _ _ _ h (lv_sub hl [2, 3, 1, 0, 4, 5, 6, 7] rfl)
  exact loop15_2 _ n1 p3 (-9) (by omega) (Or.inl rfl) (Nat.lt_succ_self _) _ _ _ h (lv_sub hl [0, 1, 2, 3, 4, 5, 6] rfl)
set_option maxHeartbeats 4000000 in
set_option maxRecDepth 100000 in
theorem aX11_back_0 (l : Launch) (g : CX) (σ : ST) (hI : INV σ) (p1 : Int32) (p2 : Int32) : XM l g yX11_back wsX11_back { frames := 17, cells := 0, slots := 0, locals := 441 } [.ref (g.2.1 0), .int p1, .int p2] σ (XQi g (fun r σ' => INV σ' ∧ Fr [(3, 12), (14, 18), (22, 23)] [(8, 19), (21, 29), (31, 41), (43, 47)] σ σ')) := by
  refine x_met (own := RX11) (cc := cX11_back) (maxL := 5) (ret := (some .int)) (lv := [(0, .ref (g.2.1 0)), (1, .int p1), (2, .int p2)]) (by decide) rfl rfl (Nat.le_of_ble_eq_true rfl) rfl ?_
  intro p e s m args below meth c ls E h hl
  have hx := E.1
  have hb := E.2.1
  have hown := E.2.2.2.1
  have hts := E.2.2.2.2.1
  have hF : Fr [(3, 12), (14, 18), (22, 23)] [(8, 19), (21, 29), (31, 41), (43, 47)] σ σ := Fr.refl σ
  have hwX0 : ∀ w ∈ wsX00, w ∈ wsX11_back := by decide +kernel
  have hwX11 : ∀ w ∈ wsX110, w ∈ wsX11_back := by decide +kernel
  have hwX5 : ∀ w ∈ wsX50, w ∈ wsX11_back := by decide +kernel
  refine lv_iload_n hx hb dX11_back_0 rfl (lv_at hl 1 rfl) ?_
  refine x_si E h (na := 1) (As := [.int p1]) (aX11_isHeapNumber_0 l g σ hI p1) gX11_back_X11_isHeapNumber rfl ⟨rfl, rfl⟩ rfl (by decide +kernel) ⟨Nat.le_of_ble_eq_true rfl, Nat.le_of_ble_eq_true rfl⟩ hl.1 rfl (Nat.le_of_ble_eq_true rfl) dX11_back_1 ⟨Nat.le_of_ble_eq_true rfl, Nat.le_of_ble_eq_true rfl⟩ (fun r1 s1 H locs q1 h => ?_)
  obtain ⟨d1, rfl⟩ := q1
  rcases d1 with ⟨rfl, m1_0n, u1_0_0, rfl⟩ | rfl
  · skip
    refine lv_if_eq (tgt := 16) hx hb dX11_back_4 (by decide) (fun c => absurd c (by decide)) (fun _ => ?_)
    refine lv_iload_n hx hb dX11_back_7 rfl (lv_at hl 2 rfl) ?_
    refine lv_iconst (v := 0) hx hb dX11_back_8 (by decide) ?_
    refine lv_iconst (v := 1) hx hb dX11_back_9 (by decide) ?_
    refine x_si E h (na := 3) (As := [.int p2, .int 0, .int 1]) (aX11_within_0 l g σ hI p2 0 1) gX11_back_X11_within rfl ⟨rfl, rfl⟩ rfl (by decide +kernel) ⟨Nat.le_of_ble_eq_true rfl, Nat.le_of_ble_eq_true rfl⟩ hl.1 rfl (Nat.le_of_ble_eq_true rfl) dX11_back_10 ⟨Nat.le_of_ble_eq_true rfl, Nat.le_of_ble_eq_true rfl⟩ (fun r2 s2 H locs q2 h => ?_)
    obtain ⟨d2, rfl⟩ := q2
    rcases d2 with ⟨rfl, u2_0_0, u2_0_1⟩ | ⟨rfl, u2_1_0⟩
    · skip
      obtain ⟨n3, b3, rfl⟩ := y_rnlt (N := 1) (y_lo1 u2_0_0 (by decide)) u2_0_1 (by omega)
      have b4 : 0 ≤ n3 := y_nlt (a := n3) (b := 0) (by omega) (by omega) u2_0_0
      have b5 : n3 ≤ 1 := y_nlt (a := 1) (b := n3) (by omega) (by omega) u2_0_1
      refine lv_if_ne (tgt := 18) hx hb dX11_back_13 (by decide) (fun _ => ?_) (fun c => absurd c (by decide))
      refine lv_aload_n hx hb dX11_back_18 rfl (lv_at hl 0 rfl) ?_
      refine lv_iload_n hx hb dX11_back_19 rfl (lv_at hl 1 rfl) ?_
      refine x_vi E h (na := 1) (As := [.int (nI m1_0n)]) (aX11_refusedHeap_0 l g σ hI (nI m1_0n)) (oc_vh g) rfl gX11_back_X11_refusedHeap rfl ⟨rfl, rfl⟩ rfl (by decide +kernel) ⟨Nat.le_of_ble_eq_true rfl, Nat.le_of_ble_eq_true rfl⟩ hl.1 rfl (Nat.le_of_ble_eq_true rfl) dX11_back_20 ⟨Nat.le_of_ble_eq_true rfl, Nat.le_of_ble_eq_true rfl⟩ (fun r6 s6 H locs q6 h => ?_)
      obtain ⟨hI6, f6⟩ := q6
      have hF6 := hF.call f6 (I := [(3, 12), (14, 18), (22, 23)]) (J := [(8, 19), (21, 29), (31, 41), (43, 47)]) rfl rfl
      refine lv_istore_n (lv' := [(3, .int r6), (0, .ref (g.2.1 0)), (1, .int (nI m1_0n)), (2, .int (nI n3))]) hx hb dX11_back_23 rfl hl (by decide) rfl (fun ls hl => ?_)
      refine lv_iload_n hx hb dX11_back_24 rfl (lv_at hl 0 rfl) ?_
      refine lv_if_ge (tgt := 30) hx hb dX11_back_25 (by decide) (fun c7 => ?_) (fun c7 => ?_)
      · skip
        refine lv_aload_n hx hb dX11_back_30 rfl (lv_at hl 1 rfl) ?_
        refine x_getR E h (fr_vh_kept g) rfl hwX11 (by decide) (by decide +kernel) dX11_back_31 ?_
        refine lv_aload_n hx hb dX11_back_34 rfl (lv_at hl 1 rfl) ?_
        refine x_getR E h (fr_vh_all g) rfl hwX11 (by decide) (by decide +kernel) dX11_back_35 ?_
        refine x_getRN E h (fr_al_best g) rfl hwX0 (by decide) (by decide +kernel) dX11_back_38 ?_
        refine lv_iload_n hx hb dX11_back_41 rfl (lv_at hl 2 rfl) ?_
        refine lv_aload_n hx hb dX11_back_42 rfl (lv_at hl 1 rfl) ?_
        refine x_getR E h (fr_vh_ruleText g) rfl hwX11 (by decide) (by decide +kernel) dX11_back_43 ?_
        refine lv_iconst (v := 2) hx hb dX11_back_46 (by decide) ?_
        refine x_vi E h (na := 1) (As := [.int 2]) (aX8_ruleNow_0 l g s6 hI6 2) (oc_rt g) rfl gX11_back_X8_ruleNow rfl ⟨rfl, rfl⟩ rfl (by decide +kernel) ⟨Nat.le_of_ble_eq_true rfl, Nat.le_of_ble_eq_true rfl⟩ hl.1 rfl (Nat.le_of_ble_eq_true rfl) dX11_back_47 ⟨Nat.le_of_ble_eq_true rfl, Nat.le_of_ble_eq_true rfl⟩ (fun r9 s9 H locs q9 h => ?_)
        subst q9
        refine x_vi E h (na := 3) (As := [.ref (g.2.1 48), .int (nI m1_0n), .int r9]) (aX5_nearestTo_0 l g s6 hI6 (nI m1_0n) r9) (oc_ke g) rfl gX11_back_X5_nearestTo rfl ⟨rfl, rfl⟩ rfl (by decide +kernel) ⟨Nat.le_of_ble_eq_true rfl, Nat.le_of_ble_eq_true rfl⟩ hl.1 rfl (Nat.le_of_ble_eq_true rfl) dX11_back_50 ⟨Nat.le_of_ble_eq_true rfl, Nat.le_of_ble_eq_true rfl⟩ (fun r10 s10 H locs q10 h => ?_)
        obtain ⟨d10, rfl⟩ := q10
        refine lv_istore (lv' := [(4, .int r10), (3, .int r6), (0, .ref (g.2.1 0)), (1, .int (nI m1_0n)), (2, .int (nI n3))]) hx hb dX11_back_53 hl (by decide) rfl (fun ls hl => ?_)
        refine lv_iload hx hb dX11_back_55 (lv_at hl 0 rfl) ?_
        refine lv_bipush (v := (-9)) hx hb dX11_back_57 (by decide) ?_
        refine lv_icmp_eq (tgt := 67) hx hb dX11_back_59 (by decide) (fun c11 => ?_) (fun c11 => ?_)
        · skip
          subst c11
          refine lv_iload hx hb dX11_back_67 (lv_at hl 0 rfl) ?_
          exact x_iret E h ⟨hI6, hF6⟩ dX11_back_69
        · skip
          rcases d10 with rfl | ⟨n14, b14, rfl⟩
          · exact absurd c11 (by decide)
          refine lv_iload_n hx hb dX11_back_62 rfl (lv_at hl 4 rfl) ?_
          refine lv_iconst (v := 1) hx hb dX11_back_63 (by decide) ?_
          refine lv_icmp_ne (tgt := 70) hx hb dX11_back_64 (by decide) (fun c15 => ?_) (fun c15 => ?_)
          · skip
            have b16 : ¬ n3 = 1 := y_ne (a := n3) (b := 1) (by omega) (by omega) c15
            refine lv_aload_n hx hb dX11_back_70 rfl (lv_at hl 2 rfl) ?_
            refine x_getR E h (fr_vh_kept g) rfl hwX11 (by decide) (by decide +kernel) dX11_back_71 ?_
            refine x_getRN E h (fr_ke_names g) rfl hwX5 (by decide) (by decide +kernel) dX11_back_74 ?_
            refine lv_iload hx hb dX11_back_77 (lv_at hl 0 rfl) ?_
            refine x_ldI E h (ia_ke_names g) (i := nI n14) (vp_in_nI (by omega) (by decide)) (v := s6.2.2 49 n14) (congrArg (s6.2.2 49) (nI_clamp (by omega))) dX11_back_79 ?_
            exact x_iret E h ⟨hI6, hF6⟩ dX11_back_80
          · skip
            have b17 : n3 = 1 := y_eq (a := n3) (b := 1) (by omega) (by omega) c15
            refine lv_iload hx hb dX11_back_67 (lv_at hl 0 rfl) ?_
            exact x_iret E h ⟨hI6, hF6⟩ dX11_back_69
      · skip
        refine lv_iload_n hx hb dX11_back_28 rfl (lv_at hl 0 rfl) ?_
        exact x_iret E h ⟨hI6, hF6⟩ dX11_back_29
    · skip
      refine lv_if_ne (tgt := 18) hx hb dX11_back_13 (by decide) (fun c => absurd (by decide) c) (fun _ => ?_)
      refine lv_iconst (v := (-1)) hx hb dX11_back_16 (by decide) ?_
      exact x_iret E h ⟨hI, hF⟩ dX11_back_17
  · skip
    refine lv_if_eq (tgt := 16) hx hb dX11_back_4 (by decide) (fun _ => ?_) (fun c => absurd (by decide) c)
    refine lv_iconst (v := (-1)) hx hb dX11_back_16 (by decide) ?_
    exact x_iret E h ⟨hI, hF⟩ dX11_back_17
set_option maxHeartbeats 4000000 in
set_option maxRecDepth 100000 in
theorem aX4_membersOf_0 (l : Launch) (g : CX) (σ : ST) (hI : INV σ) (p1 : Int32) (p2 : Int32) : XM l g yX4_membersOf wsX4_membersOf { frames := 0, cells := 0, slots := 0, locals := 0 } [.ref (g.2.1 48), .int p1, .int p2] σ (XQi g (fun r σ' => σ = σ')) := by
  refine x_met (own := RX4) (cc := cX4_membersOf) (maxL := 5) (ret := (some .int)) (lv := [(0, .ref (g.2.1 48)), (1, .int p1), (2, .int p2)]) (by decide) rfl rfl (Nat.le_of_ble_eq_true rfl) rfl ?_
  intro p e s m args below meth c ls E h hl
  have hx := E.1
  have hb := E.2.1
  have hown := E.2.2.2.1
  have hts := E.2.2.2.2.1
  have hwX4 : ∀ w ∈ wsX40, w ∈ wsX4_membersOf := by decide +kernel
  refine lv_iconst (v := 0) hx hb dX4_membersOf_0 (by decide) ?_
  refine lv_istore_n (lv' := [(3, .int 0), (0, .ref (g.2.1 48)), (1, .int p1), (2, .int p2)]) hx hb dX4_membersOf_1 rfl hl (by decide) rfl (fun ls hl => ?_)
  refine lv_iconst (v := 0) hx hb dX4_membersOf_2 (by decide) ?_
  refine lv_istore (lv' := [(4, .int 0), (3, .int 0), (0, .ref (g.2.1 48)), (1, .int p1), (2, .int p2)]) hx hb dX4_membersOf_3 hl (by decide) rfl (fun ls hl => ?_)
  have loop5_1 : ∀ (fu : Nat) (i1_4 : Nat) (i1_3 : Int32), i1_4 ≤ 9 → 9 - i1_4 < fu → ∀ (H : Heap) (locs : List Loc) (ls : Array Slot), HW g σ s H locs → lv_has ls 5 [(4, .int (nI i1_4)), (3, .int i1_3), (0, .ref (g.2.1 48)), (1, .int p1), (2, .int p2)] → W p l e { frames := 0, cells := 0, slots := 0, locals := 0 } s m args below meth c H locs 0 0 (MQ below (XQi g (fun r σ' => σ = σ')) args s 0 0 (Aw g)) (F0 m 5 ls []) := by
    intro fu
    induction fu with
    | zero => intro i1_4 i1_3 bi1_4 hm; exact absurd hm (Nat.not_lt_zero _)
    | succ fu ih =>
      have ih1 := ih
      clear ih
      intro i1_4 i1_3 bi1_4 hm1 H locs ls h hl
      refine lv_iload hx hb dX4_membersOf_5 (lv_at hl 0 rfl) ?_
      refine lv_iload_n hx hb dX4_membersOf_7 rfl (lv_at hl 4 rfl) ?_
      refine lv_icmp_ge (tgt := 46) hx hb dX4_membersOf_8 (by decide) (fun c2 => ?_) (fun c2 => ?_)
      · skip
        refine lv_iload_n hx hb dX4_membersOf_46 rfl (lv_at hl 1 rfl) ?_
        exact x_iret E h rfl dX4_membersOf_47
      · skip
        refine lv_iload hx hb dX4_membersOf_11 (lv_at hl 0 rfl) ?_
        refine lv_bipush (v := 9) hx hb dX4_membersOf_13 (by decide) ?_
        refine lv_icmp_ge (tgt := 46) hx hb dX4_membersOf_15 (by decide) (fun c5 => ?_) (fun c5 => ?_)
        · skip
          have b6 : 9 ≤ i1_4 := y_le (a := 9) (b := i1_4) (by omega) (by omega) c5
          refine lv_iload_n hx hb dX4_membersOf_46 rfl (lv_at hl 1 rfl) ?_
          exact x_iret E h rfl dX4_membersOf_47
        · skip
          have b7 : i1_4 < 9 := y_nle (a := 9) (b := i1_4) (by omega) (by omega) c5
          refine lv_iload_n hx hb dX4_membersOf_18 rfl (lv_at hl 1 rfl) ?_
          refine lv_aload_n hx hb dX4_membersOf_19 rfl (lv_at hl 2 rfl) ?_
          refine x_getR E h (fr_be_heapOf g) rfl hwX4 (by decide) (by decide +kernel) dX4_membersOf_20 ?_
          refine lv_iload hx hb dX4_membersOf_23 (lv_at hl 0 rfl) ?_
          obtain ⟨n8, b8, e8⟩ := hI.2 41 8 rfl i1_4
          refine x_ldI E h (ia_be_heapOf g) (i := nI i1_4) (vp_in_nI (by omega) (by decide)) (v := nI n8) ((congrArg (σ.2.2 41) (nI_clamp (by omega))).trans e8) dX4_membersOf_25 ?_
          refine lv_iload_n hx hb dX4_membersOf_26 rfl (lv_at hl 3 rfl) ?_
          have j38_11 : ∀ (y11_s0 : Int32), ∀ (H : Heap) (locs : List Loc) (ls : Array Slot), HW g σ s H locs → lv_has ls 5 [(4, .int (nI i1_4)), (3, .int i1_3), (0, .ref (g.2.1 48)), (1, .int p1), (2, .int p2)] → W p l e { frames := 0, cells := 0, slots := 0, locals := 0 } s m args below meth c H locs 0 0 (MQ below (XQi g (fun r σ' => σ = σ')) args s 0 0 (Aw g)) (F0 m 38 ls [.int y11_s0, .int i1_3]) := by
            intro y11_s0 H locs ls h hl
            refine lv_ior hx hb dX4_membersOf_38 ?_
            refine lv_topi (fun x12 e12 => ?_)
            refine lv_istore_n (lv' := [(3, .int x12), (4, .int (nI i1_4)), (0, .ref (g.2.1 48)), (1, .int p1), (2, .int p2)]) hx hb dX4_membersOf_39 rfl hl (by decide) rfl (fun ls hl => ?_)
            refine lv_iinc (v := (nI (i1_4 + 1))) (lv' := [(4, .int (nI (i1_4 + 1))), (3, .int x12), (0, .ref (g.2.1 48)), (1, .int p1), (2, .int p2)]) hx hb dX4_membersOf_40 hl (k := 1) rfl (nI_add i1_4 1) (by decide) rfl (fun ls hl => ?_)
            refine lv_goto (tgt := 5) hx hb dX4_membersOf_43 (by decide) ?_
            exact ih1 (i1_4 + 1) x12 (by omega) (by omega) _ _ _ h (lv_sub hl [0, 1, 2, 3, 4] rfl)
          refine lv_icmp_ne (tgt := 37) hx hb dX4_membersOf_27 (by decide) (fun c9 => ?_) (fun c9 => ?_)
          · skip
            refine lv_iconst (v := 0) hx hb dX4_membersOf_37 (by decide) ?_
            exact j38_11 0 _ _ _ h (lv_sub hl [0, 1, 2, 3, 4] rfl)
          · skip
            refine lv_iconst (v := 1) hx hb dX4_membersOf_30 (by decide) ?_
            refine lv_iload hx hb dX4_membersOf_31 (lv_at hl 0 rfl) ?_
            refine lv_ishl hx hb dX4_membersOf_33 ?_
            refine x_topI (v2 := nI (2 ^ i1_4)) (y_shl1 (by omega)) ?_
            have b14 := y_pow (p := i1_4) (by omega)
            refine lv_goto (tgt := 38) hx hb dX4_membersOf_34 (by decide) ?_
            exact j38_11 (nI (2 ^ i1_4)) _ _ _ h (lv_sub hl [0, 1, 2, 3, 4] rfl)
  exact loop5_1 _ 0 0 (Nat.zero_le _) (Nat.lt_succ_self _) _ _ _ h (lv_sub hl [0, 1, 2, 3, 4] rfl)
set_option maxHeartbeats 4000000 in
set_option maxRecDepth 100000 in
theorem aX11_off_3 (l : Launch) (g : CX) (σ : ST) (hI : INV σ) (p1 : Int32) (p3 : Int32) : XM l g yX11_off wsX11_off { frames := 1, cells := 0, slots := 0, locals := 21 } [.ref (g.2.1 20), .int p1, .ref (g.2.1 60), .int p3] σ (XQi g (fun r σ' => σ = σ')) := by
  refine x_met (own := RX11) (cc := cX11_off) (maxL := 6) (ret := (some .int)) (lv := [(0, .ref (g.2.1 20)), (1, .int p1), (2, .ref (g.2.1 60)), (3, .int p3)]) (by decide) rfl rfl (Nat.le_of_ble_eq_true rfl) rfl ?_
  intro p e s m args below meth c ls E h hl
  have hx := E.1
  have hb := E.2.1
  have hown := E.2.2.2.1
  have hts := E.2.2.2.2.1
  refine lv_iload_n hx hb dX11_off_0 rfl (lv_at hl 1 rfl) ?_
  refine lv_if_lt (tgt := 24) hx hb dX11_off_1 (by decide) (fun c1 => ?_) (fun c1 => ?_)
  · skip
    refine lv_iconst (v := 0) hx hb dX11_off_24 (by decide) ?_
    exact x_iret E h rfl dX11_off_25
  · skip
    refine lv_iload_n hx hb dX11_off_4 rfl (lv_at hl 1 rfl) ?_
    refine lv_aload_n hx hb dX11_off_5 rfl (lv_at hl 0 rfl) ?_
    refine x_len E h (ia_cu_middles g) (v := 192) (by decide) dX11_off_6 ?_
    refine lv_iconst (v := 4) hx hb dX11_off_7 (by decide) ?_
    refine lv_isub hx hb dX11_off_8 ?_
    refine x_topI (v2 := 188) (by decide) ?_
    refine lv_icmp_gt (tgt := 24) hx hb dX11_off_9 (by decide) (fun c4 => ?_) (fun c4 => ?_)
    · skip
      refine lv_iconst (v := 0) hx hb dX11_off_24 (by decide) ?_
      exact x_iret E h rfl dX11_off_25
    · skip
      obtain ⟨n7, b7, rfl⟩ := y_rnlt (N := 188) (y_lo1 c1 (by decide)) c4 (by omega)
      have b8 : 0 ≤ n7 := y_nlt (a := n7) (b := 0) (by omega) (by omega) c1
      have b9 : n7 ≤ 188 := y_nlt (a := 188) (b := n7) (by omega) (by omega) c4
      refine lv_iload_n hx hb dX11_off_12 rfl (lv_at hl 3 rfl) ?_
      refine lv_if_lt (tgt := 24) hx hb dX11_off_13 (by decide) (fun c10 => ?_) (fun c10 => ?_)
      · skip
        refine lv_iconst (v := 0) hx hb dX11_off_24 (by decide) ?_
        exact x_iret E h rfl dX11_off_25
      · skip
        refine lv_iload_n hx hb dX11_off_16 rfl (lv_at hl 3 rfl) ?_
        refine lv_aload_n hx hb dX11_off_17 rfl (lv_at hl 2 rfl) ?_
        refine x_len E h (ia_ke_middles g) (v := 24) (by decide) dX11_off_18 ?_
        refine lv_iconst (v := 4) hx hb dX11_off_19 (by decide) ?_
        refine lv_isub hx hb dX11_off_20 ?_
        refine x_topI (v2 := 20) (by decide) ?_
        refine lv_icmp_le (tgt := 26) hx hb dX11_off_21 (by decide) (fun c13 => ?_) (fun c13 => ?_)
        · skip
          obtain ⟨n15, b15, rfl⟩ := y_rle (N := 20) (y_lo1 c10 (by decide)) c13 (by omega)
          have b16 : 0 ≤ n15 := y_nlt (a := n15) (b := 0) (by omega) (by omega) c10
          have b17 : n15 ≤ 20 := y_le (a := n15) (b := 20) (by omega) (by omega) c13
          refine lv_iconst (v := 0) hx hb dX11_off_26 (by decide) ?_
          refine lv_istore (lv' := [(4, .int 0), (0, .ref (g.2.1 20)), (1, .int (nI n7)), (2, .ref (g.2.1 60)), (3, .int (nI n15))]) hx hb dX11_off_27 hl (by decide) rfl (fun ls hl => ?_)
          refine lv_iconst (v := 0) hx hb dX11_off_29 (by decide) ?_
          refine lv_istore (lv' := [(5, .int 0), (4, .int 0), (0, .ref (g.2.1 20)), (1, .int (nI n7)), (2, .ref (g.2.1 60)), (3, .int (nI n15))]) hx hb dX11_off_30 hl (by decide) rfl (fun ls hl => ?_)
          have loop32_18 : ∀ (fu : Nat) (i18_5 : Nat) (i18_4 : Int32), i18_5 ≤ 4 → 4 - i18_5 < fu → ∀ (H : Heap) (locs : List Loc) (ls : Array Slot), HW g σ s H locs → lv_has ls 6 [(5, .int (nI i18_5)), (4, .int i18_4), (0, .ref (g.2.1 20)), (1, .int (nI n7)), (2, .ref (g.2.1 60)), (3, .int (nI n15))] → W p l e { frames := 1, cells := 0, slots := 0, locals := 21 } s m args below meth c H locs 0 0 (MQ below (XQi g (fun r σ' => σ = σ')) args s 0 0 (Aw g)) (F0 m 32 ls []) := by
            intro fu
            induction fu with
            | zero => intro i18_5 i18_4 bi18_5 hm; exact absurd hm (Nat.not_lt_zero _)
            | succ fu ih =>
              have ih18 := ih
              clear ih
              intro i18_5 i18_4 bi18_5 hm18 H locs ls h hl
              refine lv_iload hx hb dX11_off_32 (lv_at hl 0 rfl) ?_
              refine lv_iconst (v := 4) hx hb dX11_off_34 (by decide) ?_
              refine lv_icmp_ge (tgt := 65) hx hb dX11_off_35 (by decide) (fun c19 => ?_) (fun c19 => ?_)
              · skip
                have b20 : 4 ≤ i18_5 := y_le (a := 4) (b := i18_5) (by omega) (by omega) c19
                refine lv_iload hx hb dX11_off_65 (lv_at hl 1 rfl) ?_
                exact x_iret E h rfl dX11_off_67
              · skip
                have b21 : i18_5 < 4 := y_nle (a := 4) (b := i18_5) (by omega) (by omega) c19
                refine lv_iload hx hb dX11_off_38 (lv_at hl 1 rfl) ?_
                refine lv_aload_n hx hb dX11_off_40 rfl (lv_at hl 2 rfl) ?_
                refine lv_iload_n hx hb dX11_off_41 rfl (lv_at hl 3 rfl) ?_
                refine lv_iload hx hb dX11_off_42 (lv_at hl 0 rfl) ?_
                refine lv_iadd hx hb dX11_off_44 ?_
                refine x_topI (v2 := nI (n7 + i18_5)) (nI_add n7 i18_5) ?_
                refine x_ldI E h (ia_cu_middles g) (i := nI (n7 + i18_5)) (vp_in_nI (by omega) (by decide)) (v := σ.2.2 15 (n7 + i18_5)) (congrArg (σ.2.2 15) (nI_clamp (by omega))) dX11_off_45 ?_
                refine lv_aload_n hx hb dX11_off_46 rfl (lv_at hl 4 rfl) ?_
                refine lv_iload_n hx hb dX11_off_47 rfl (lv_at hl 5 rfl) ?_
                refine lv_iload hx hb dX11_off_48 (lv_at hl 0 rfl) ?_
                refine lv_iadd hx hb dX11_off_50 ?_
                refine x_topI (v2 := nI (n15 + i18_5)) (nI_add n15 i18_5) ?_
                refine x_ldI E h (ia_ke_middles g) (i := nI (n15 + i18_5)) (vp_in_nI (by omega) (by decide)) (v := σ.2.2 50 (n15 + i18_5)) (congrArg (σ.2.2 50) (nI_clamp (by omega))) dX11_off_51 ?_
                refine lv_isub hx hb dX11_off_52 ?_
                refine lv_topi (fun x22 e22 => ?_)
                refine x_abs E hl.1 (by decide +kernel) (by decide +kernel) (by decide +kernel) (by decide +kernel) ⟨Nat.le_of_ble_eq_true rfl, Nat.le_of_ble_eq_true rfl⟩ ⟨Nat.zero_le _, Nat.zero_le _⟩ dX11_off_53 ?_
                refine lv_topi (fun x23 e23 => ?_)
                refine lv_iadd hx hb dX11_off_56 ?_
                refine lv_topi (fun x24 e24 => ?_)
                refine lv_istore (lv' := [(4, .int x24), (5, .int (nI i18_5)), (0, .ref (g.2.1 20)), (1, .int (nI n7)), (2, .ref (g.2.1 60)), (3, .int (nI n15))]) hx hb dX11_off_57 hl (by decide) rfl (fun ls hl => ?_)
                refine lv_iinc (v := (nI (i18_5 + 1))) (lv' := [(5, .int (nI (i18_5 + 1))), (4, .int x24), (0, .ref (g.2.1 20)), (1, .int (nI n7)), (2, .ref (g.2.1 60)), (3, .int (nI n15))]) hx hb dX11_off_59 hl (k := 1) rfl (nI_add i18_5 1) (by decide) rfl (fun ls hl => ?_)
                refine lv_goto (tgt := 32) hx hb dX11_off_62 (by decide) ?_
                exact ih18 (i18_5 + 1) x24 (by omega) (by omega) _ _ _ h (lv_sub hl [0, 1, 2, 3, 4, 5] rfl)
          exact loop32_18 _ 0 0 (Nat.zero_le _) (Nat.lt_succ_self _) _ _ _ h (lv_sub hl [0, 1, 2, 3, 4, 5] rfl)
        · skip
          refine lv_iconst (v := 0) hx hb dX11_off_24 (by decide) ?_
          exact x_iret E h rfl dX11_off_25
set_option maxHeartbeats 4000000 in
set_option maxRecDepth 100000 in
theorem aX5_fillOffs_0 (l : Launch) (g : CX) (σ : ST) (hI : INV σ) (p2 : Nat) (p3 : Nat) (hh0 : p2 ≤ 9) (hh1 : p3 < 6) : XM l g yX5_fillOffs wsX5_fillOffs { frames := 2, cells := 0, slots := 0, locals := 46 } [.ref (g.2.1 58), .ref (g.2.1 16), .int (nI p2), .int (nI p3)] σ (XQv g (fun σ' => INV σ' ∧ Fr [] [(51, 51)] σ σ')) := by
  refine x_met (own := RX5) (cc := cX5_fillOffs) (maxL := 8) (ret := none) (lv := [(0, .ref (g.2.1 58)), (1, .ref (g.2.1 16)), (2, .int (nI p2)), (3, .int (nI p3))]) (by decide) rfl rfl (Nat.le_of_ble_eq_true rfl) rfl ?_
  intro p e s m args below meth c ls E h hl
  have hx := E.1
  have hb := E.2.1
  have hown := E.2.2.2.1
  have hts := E.2.2.2.2.1
  have hF : Fr [] [(51, 51)] σ σ := Fr.refl σ
  have hwX2 : ∀ w ∈ wsX20, w ∈ wsX5_fillOffs := by decide +kernel
  have hwX5 : ∀ w ∈ wsX50, w ∈ wsX5_fillOffs := by decide +kernel
  refine lv_aload_n hx hb dX5_fillOffs_0 rfl (lv_at hl 0 rfl) ?_
  refine x_getR E h (fr_ke_offs g) rfl hwX5 (by decide) (by decide +kernel) dX5_fillOffs_1 ?_
  refine lv_iconst (v := 0) hx hb dX5_fillOffs_4 (by decide) ?_
  refine lv_iconst (v := 0) hx hb dX5_fillOffs_5 (by decide) ?_
  refine y_stI E h hI hF (ia_ke_offs g) (i := nI 0) (vp_in_nI (by omega) (by decide)) (j := 0) (nI_clamp (by omega)) (ba_none rfl) rfl dX5_fillOffs_6 (fun s1 H locs q1 hI1 hF1 h => ?_)
  refine lv_iconst (v := 0) hx hb dX5_fillOffs_7 (by decide) ?_
  refine lv_istore (lv' := [(4, .int 0), (0, .ref (g.2.1 58)), (1, .ref (g.2.1 16)), (2, .int (nI p2)), (3, .int (nI p3))]) hx hb dX5_fillOffs_8 hl (by decide) rfl (fun ls hl => ?_)
  have loop10_2 : ∀ (fu : Nat) (t2 : ST) (i2_4 : Nat), INV t2 → Fr [] [(51, 51)] σ t2 → i2_4 ≤ p2 → p2 - i2_4 < fu → ∀ (H : Heap) (locs : List Loc) (ls : Array Slot), HW g t2 s H locs → lv_has ls 8 [(4, .int (nI i2_4)), (0, .ref (g.2.1 58)), (1, .ref (g.2.1 16)), (2, .int (nI p2)), (3, .int (nI p3))] → W p l e { frames := 2, cells := 0, slots := 0, locals := 46 } s m args below meth c H locs 0 0 (MQ below (XQv g (fun σ' => INV σ' ∧ Fr [] [(51, 51)] σ σ')) args s 0 0 (Aw g)) (F0 m 10 ls []) := by
    intro fu
    induction fu with
    | zero => intro t2 i2_4 hI_2 hF_2 bi2_4 hm; exact absurd hm (Nat.not_lt_zero _)
    | succ fu ih =>
      have ih2 := ih
      clear ih
      intro t2 i2_4 hI_2 hF_2 bi2_4 hm2 H locs ls h hl
      refine lv_iload hx hb dX5_fillOffs_10 (lv_at hl 0 rfl) ?_
      refine lv_iload_n hx hb dX5_fillOffs_12 rfl (lv_at hl 3 rfl) ?_
      refine lv_icmp_ge (tgt := 84) hx hb dX5_fillOffs_13 (by decide) (fun c3 => ?_) (fun c3 => ?_)
      · skip
        have b4 : p2 ≤ i2_4 := y_le (a := p2) (b := i2_4) (by omega) (by omega) c3
        exact x_vret E h ⟨hI_2, hF_2⟩ dX5_fillOffs_84
      · skip
        have b5 : i2_4 < p2 := y_nle (a := p2) (b := i2_4) (by omega) (by omega) c3
        refine lv_aload_n hx hb dX5_fillOffs_16 rfl (lv_at hl 2 rfl) ?_
        refine x_getRN E h (fr_cu_middles g) rfl hwX2 (by decide) (by decide +kernel) dX5_fillOffs_17 ?_
        refine lv_iload hx hb dX5_fillOffs_20 (lv_at hl 0 rfl) ?_
        refine lv_iconst (v := 4) hx hb dX5_fillOffs_22 (by decide) ?_
        refine lv_imul hx hb dX5_fillOffs_23 ?_
        refine x_topI (v2 := nI (i2_4 * 4)) (pk_mul i2_4 4) ?_
        refine lv_aload_n hx hb dX5_fillOffs_24 rfl (lv_at hl 1 rfl) ?_
        refine x_getR E h (fr_ke_middles g) rfl hwX5 (by decide) (by decide +kernel) dX5_fillOffs_25 ?_
        refine lv_iload_n hx hb dX5_fillOffs_28 rfl (lv_at hl 4 rfl) ?_
        refine lv_iconst (v := 4) hx hb dX5_fillOffs_29 (by decide) ?_
        refine lv_imul hx hb dX5_fillOffs_30 ?_
        refine x_topI (v2 := nI (p3 * 4)) (pk_mul p3 4) ?_
        refine x_siN (host := "VoiceHeaps") E h (na := 4) (As := [.ref (g.2.1 20), .int (nI (i2_4 * 4)), .ref (g.2.1 60), .int (nI (p3 * 4))]) (aX11_off_3 l g t2 hI_2 (nI (i2_4 * 4)) (nI (p3 * 4))) gX5_fillOffs_X11_off_n36 (by decide +kernel) (by decide +kernel) (by decide +kernel) rfl ⟨rfl, rfl⟩ rfl (by decide +kernel) ⟨Nat.le_of_ble_eq_true rfl, Nat.le_of_ble_eq_true rfl⟩ hl.1 rfl (Nat.le_of_ble_eq_true rfl) dX5_fillOffs_31 ⟨Nat.le_of_ble_eq_true rfl, Nat.le_of_ble_eq_true rfl⟩ (fun r6 s6 H locs q6 h => ?_)
        subst q6
        refine lv_istore (lv' := [(5, .int r6), (4, .int (nI i2_4)), (0, .ref (g.2.1 58)), (1, .ref (g.2.1 16)), (2, .int (nI p2)), (3, .int (nI p3))]) hx hb dX5_fillOffs_34 hl (by decide) rfl (fun ls hl => ?_)
        refine lv_iconst (v := 1) hx hb dX5_fillOffs_36 (by decide) ?_
        refine lv_iload hx hb dX5_fillOffs_37 (lv_at hl 1 rfl) ?_
        refine lv_ishl hx hb dX5_fillOffs_39 ?_
        refine x_topI (v2 := nI (2 ^ i2_4)) (y_shl1 (by omega)) ?_
        have b7 := y_pow (p := i2_4) (by omega)
        refine lv_istore (lv' := [(6, .int (nI (2 ^ i2_4))), (5, .int r6), (4, .int (nI i2_4)), (0, .ref (g.2.1 58)), (1, .ref (g.2.1 16)), (2, .int (nI p2)), (3, .int (nI p3))]) hx hb dX5_fillOffs_40 hl (by decide) rfl (fun ls hl => ?_)
        refine lv_iconst (v := 0) hx hb dX5_fillOffs_42 (by decide) ?_
        refine lv_istore (lv' := [(7, .int 0), (6, .int (nI (2 ^ i2_4))), (5, .int r6), (4, .int (nI i2_4)), (0, .ref (g.2.1 58)), (1, .ref (g.2.1 16)), (2, .int (nI p2)), (3, .int (nI p3))]) hx hb dX5_fillOffs_43 hl (by decide) rfl (fun ls hl => ?_)
        have loop45_8 : ∀ (fu : Nat) (t8 : ST) (i8_7 : Nat), INV t8 → Fr [] [(51, 51)] σ t8 → i8_7 ≤ (2 ^ i2_4) → (2 ^ i2_4) - i8_7 < fu → ∀ (H : Heap) (locs : List Loc) (ls : Array Slot), HW g t8 s H locs → lv_has ls 8 [(7, .int (nI i8_7)), (6, .int (nI (2 ^ i2_4))), (5, .int r6), (4, .int (nI i2_4)), (0, .ref (g.2.1 58)), (1, .ref (g.2.1 16)), (2, .int (nI p2)), (3, .int (nI p3))] → W p l e { frames := 2, cells := 0, slots := 0, locals := 46 } s m args below meth c H locs 0 0 (MQ below (XQv g (fun σ' => INV σ' ∧ Fr [] [(51, 51)] σ σ')) args s 0 0 (Aw g)) (F0 m 45 ls []) := by
          intro fu
          induction fu with
          | zero => intro t8 i8_7 hI_8 hF_8 bi8_7 hm; exact absurd hm (Nat.not_lt_zero _)
          | succ fu ih =>
            have ih8 := ih
            clear ih
            intro t8 i8_7 hI_8 hF_8 bi8_7 hm8 H locs ls h hl
            refine lv_iload hx hb dX5_fillOffs_45 (lv_at hl 0 rfl) ?_
            refine lv_iload hx hb dX5_fillOffs_47 (lv_at hl 1 rfl) ?_
            refine lv_icmp_ge (tgt := 78) hx hb dX5_fillOffs_49 (by decide) (fun c9 => ?_) (fun c9 => ?_)
            · skip
              have b10 : (2 ^ i2_4) ≤ i8_7 := y_le (a := (2 ^ i2_4)) (b := i8_7) (by omega) (by omega) c9
              refine lv_iinc (v := (nI (i2_4 + 1))) (lv' := [(4, .int (nI (i2_4 + 1))), (7, .int (nI i8_7)), (6, .int (nI (2 ^ i2_4))), (5, .int r6), (0, .ref (g.2.1 58)), (1, .ref (g.2.1 16)), (2, .int (nI p2)), (3, .int (nI p3))]) hx hb dX5_fillOffs_78 hl (k := 3) rfl (nI_add i2_4 1) (by decide) rfl (fun ls hl => ?_)
              refine lv_goto (tgt := 10) hx hb dX5_fillOffs_81 (by decide) ?_
              exact ih2 t8 (i2_4 + 1) hI_8 hF_8 (by omega) (by omega) _ _ _ h (lv_sub hl [0, 4, 5, 6, 7] rfl)
            · skip
              have b11 : i8_7 < (2 ^ i2_4) := y_nle (a := (2 ^ i2_4)) (b := i8_7) (by omega) (by omega) c9
              refine lv_aload_n hx hb dX5_fillOffs_52 rfl (lv_at hl 4 rfl) ?_
              refine x_getR E h (fr_ke_offs g) rfl hwX5 (by decide) (by decide +kernel) dX5_fillOffs_53 ?_
              refine lv_iload hx hb dX5_fillOffs_56 (lv_at hl 1 rfl) ?_
              refine lv_iload hx hb dX5_fillOffs_58 (lv_at hl 0 rfl) ?_
              refine lv_ior hx hb dX5_fillOffs_60 ?_
              refine x_topI (v2 := nI ((2 ^ i2_4) ||| i8_7)) (y_or (2 ^ i2_4) i8_7) ?_
              have b12 : ((2 ^ i2_4) ||| i8_7) < 512 := y_or9 (by omega) (by omega)
              refine lv_aload_n hx hb dX5_fillOffs_61 rfl (lv_at hl 4 rfl) ?_
              refine x_getR E h (fr_ke_offs g) rfl hwX5 (by decide) (by decide +kernel) dX5_fillOffs_62 ?_
              refine lv_iload hx hb dX5_fillOffs_65 (lv_at hl 0 rfl) ?_
              refine x_ldI E h (ia_ke_offs g) (i := nI i8_7) (vp_in_nI (by omega) (by decide)) (v := t8.2.2 51 i8_7) (congrArg (t8.2.2 51) (nI_clamp (by omega))) dX5_fillOffs_67 ?_
              refine lv_iload hx hb dX5_fillOffs_68 (lv_at hl 2 rfl) ?_
              refine lv_iadd hx hb dX5_fillOffs_70 ?_
              refine lv_topi (fun x13 e13 => ?_)
              refine y_stI E h hI_8 hF_8 (ia_ke_offs g) (i := nI ((2 ^ i2_4) ||| i8_7)) (vp_in_nI (by omega) (by decide)) (j := ((2 ^ i2_4) ||| i8_7)) (nI_clamp (by omega)) (ba_none rfl) rfl dX5_fillOffs_71 (fun s14 H locs q14 hI14 hF14 h => ?_)
              refine lv_iinc (v := (nI (i8_7 + 1))) (lv' := [(7, .int (nI (i8_7 + 1))), (6, .int (nI (2 ^ i2_4))), (5, .int r6), (4, .int (nI i2_4)), (0, .ref (g.2.1 58)), (1, .ref (g.2.1 16)), (2, .int (nI p2)), (3, .int (nI p3))]) hx hb dX5_fillOffs_72 hl (k := 0) rfl (nI_add i8_7 1) (by decide) rfl (fun ls hl => ?_)
              refine lv_goto (tgt := 45) hx hb dX5_fillOffs_75 (by decide) ?_
              exact ih8 s14 (i8_7 + 1) hI14 hF14 (by omega) (by omega) _ _ _ h (lv_sub hl [0, 1, 2, 3, 4, 5, 6, 7] rfl)
        exact loop45_8 _ t2 0 hI_2 hF_2 (Nat.zero_le _) (Nat.lt_succ_self _) _ _ _ h (lv_sub hl [0, 1, 2, 3, 4, 5, 6, 7] rfl)
  exact loop10_2 _ s1 0 hI1 hF1 (Nat.zero_le _) (Nat.lt_succ_self _) _ _ _ h (lv_sub hl [0, 1, 2, 3, 4] rfl)
set_option maxHeartbeats 4000000 in
set_option maxRecDepth 100000 in
theorem aJ6_bitCount_0f7a4_0 (l : Launch) (g : CX) (σ : ST) (hI : INV σ) (p0 : Int32) : XM l g yJ6_bitCount_0f7a4 wsJ6_bitCount_0f7a4 { frames := 0, cells := 0, slots := 0, locals := 0 } [.int p0] σ (XQi g (fun r σ' => σ = σ')) := by
  refine x_met (own := RJ6) (cc := cJ6_bitCount_0f7a4) (maxL := 1) (ret := (some .int)) (lv := [(0, .int p0)]) (by decide) rfl rfl (Nat.le_of_ble_eq_true rfl) rfl ?_
  intro p e s m args below meth c ls E h hl
  have hx := E.1
  have hb := E.2.1
  have hown := E.2.2.2.1
  have hts := E.2.2.2.2.1
  refine lv_iload_n hx hb dJ6_bitCount_0f7a4_0 rfl (lv_at hl 0 rfl) ?_
  refine lv_iload_n hx hb dJ6_bitCount_0f7a4_1 rfl (lv_at hl 0 rfl) ?_
  refine lv_iconst (v := 1) hx hb dJ6_bitCount_0f7a4_2 (by decide) ?_
  refine lv_iushr hx hb dJ6_bitCount_0f7a4_3 rfl ?_
  refine lv_topi (fun x1 e1 => ?_)
  refine lv_ldcw (v := 1431655765) hx hb hown (hts (.constant RJ6 265 (1431655765)) (by decide +kernel)) dJ6_bitCount_0f7a4_4 ?_
  refine lv_iand hx hb dJ6_bitCount_0f7a4_7 ?_
  refine lv_topi (fun x2 e2 => ?_)
  refine lv_isub hx hb dJ6_bitCount_0f7a4_8 ?_
  refine lv_topi (fun x3 e3 => ?_)
  refine lv_istore_n (lv' := [(0, .int x3)]) hx hb dJ6_bitCount_0f7a4_9 rfl hl (by decide) rfl (fun ls hl => ?_)
  refine lv_iload_n hx hb dJ6_bitCount_0f7a4_10 rfl (lv_at hl 0 rfl) ?_
  refine lv_ldcw (v := 858993459) hx hb hown (hts (.constant RJ6 266 (858993459)) (by decide +kernel)) dJ6_bitCount_0f7a4_11 ?_
  refine lv_iand hx hb dJ6_bitCount_0f7a4_14 ?_
  refine lv_topi (fun x4 e4 => ?_)
  refine lv_iload_n hx hb dJ6_bitCount_0f7a4_15 rfl (lv_at hl 0 rfl) ?_
  refine lv_iconst (v := 2) hx hb dJ6_bitCount_0f7a4_16 (by decide) ?_
  refine lv_iushr hx hb dJ6_bitCount_0f7a4_17 rfl ?_
  refine lv_topi (fun x5 e5 => ?_)
  refine lv_ldcw (v := 858993459) hx hb hown (hts (.constant RJ6 266 (858993459)) (by decide +kernel)) dJ6_bitCount_0f7a4_18 ?_
  refine lv_iand hx hb dJ6_bitCount_0f7a4_21 ?_
  refine lv_topi (fun x6 e6 => ?_)
  refine lv_iadd hx hb dJ6_bitCount_0f7a4_22 ?_
  refine lv_topi (fun x7 e7 => ?_)
  refine lv_istore_n (lv' := [(0, .int x7)]) hx hb dJ6_bitCount_0f7a4_23 rfl hl (by decide) rfl (fun ls hl => ?_)
  refine lv_iload_n hx hb dJ6_bitCount_0f7a4_24 rfl (lv_at hl 0 rfl) ?_
  refine lv_iload_n hx hb dJ6_bitCount_0f7a4_25 rfl (lv_at hl 0 rfl) ?_
  refine lv_iconst (v := 4) hx hb dJ6_bitCount_0f7a4_26 (by decide) ?_
  refine lv_iushr hx hb dJ6_bitCount_0f7a4_27 rfl ?_
  refine lv_topi (fun x8 e8 => ?_)
  refine lv_iadd hx hb dJ6_bitCount_0f7a4_28 ?_
  refine lv_topi (fun x9 e9 => ?_)
  refine lv_ldcw (v := 252645135) hx hb hown (hts (.constant RJ6 267 (252645135)) (by decide +kernel)) dJ6_bitCount_0f7a4_29 ?_
  refine lv_iand hx hb dJ6_bitCount_0f7a4_32 ?_
  refine lv_topi (fun x10 e10 => ?_)
  refine lv_istore_n (lv' := [(0, .int x10)]) hx hb dJ6_bitCount_0f7a4_33 rfl hl (by decide) rfl (fun ls hl => ?_)
  refine lv_iload_n hx hb dJ6_bitCount_0f7a4_34 rfl (lv_at hl 0 rfl) ?_
  refine lv_iload_n hx hb dJ6_bitCount_0f7a4_35 rfl (lv_at hl 0 rfl) ?_
  refine lv_bipush (v := 8) hx hb dJ6_bitCount_0f7a4_36 (by decide) ?_
  refine lv_iushr hx hb dJ6_bitCount_0f7a4_38 rfl ?_
  refine lv_topi (fun x11 e11 => ?_)
  refine lv_iadd hx hb dJ6_bitCount_0f7a4_39 ?_
  refine lv_topi (fun x12 e12 => ?_)
  refine lv_istore_n (lv' := [(0, .int x12)]) hx hb dJ6_bitCount_0f7a4_40 rfl hl (by decide) rfl (fun ls hl => ?_)
  refine lv_iload_n hx hb dJ6_bitCount_0f7a4_41 rfl (lv_at hl 0 rfl) ?_
  refine lv_iload_n hx hb dJ6_bitCount_0f7a4_42 rfl (lv_at hl 0 rfl) ?_
  refine lv_bipush (v := 16) hx hb dJ6_bitCount_0f7a4_43 (by decide) ?_
  refine lv_iushr hx hb dJ6_bitCount_0f7a4_45 rfl ?_
  refine lv_topi (fun x13 e13 => ?_)
  refine lv_iadd hx hb dJ6_bitCount_0f7a4_46 ?_
  refine lv_topi (fun x14 e14 => ?_)
  refine lv_istore_n (lv' := [(0, .int x14)]) hx hb dJ6_bitCount_0f7a4_47 rfl hl (by decide) rfl (fun ls hl => ?_)
  refine lv_iload_n hx hb dJ6_bitCount_0f7a4_48 rfl (lv_at hl 0 rfl) ?_
  refine lv_bipush (v := 63) hx hb dJ6_bitCount_0f7a4_49 (by decide) ?_
  refine lv_iand hx hb dJ6_bitCount_0f7a4_51 ?_
  refine lv_topi (fun x15 e15 => ?_)
  exact x_iret E h rfl dJ6_bitCount_0f7a4_52
set_option maxHeartbeats 4000000 in
set_option maxRecDepth 100000 in
theorem aX5_dealsOf_0 (l : Launch) (g : CX) (σ : ST) (hI : INV σ) (p2 : Int32) (p3 : Nat) (p4 : Int32) (hh0 : p3 < 6) : XM l g yX5_dealsOf wsX5_dealsOf { frames := 3, cells := 0, slots := 0, locals := 73 } [.ref (g.2.1 58), .ref (g.2.1 16), .int p2, .int (nI p3), .int p4] σ (XQi g (fun r σ' => INV σ' ∧ Fr [] [(51, 51)] σ σ')) := by
  refine x_met (own := RX5) (cc := cX5_dealsOf) (maxL := 9) (ret := (some .int)) (lv := [(0, .ref (g.2.1 58)), (1, .ref (g.2.1 16)), (2, .int p2), (3, .int (nI p3)), (4, .int p4)]) (by decide) rfl rfl (Nat.le_of_ble_eq_true rfl) rfl ?_
  intro p e s m args below meth c ls E h hl
  have hx := E.1
  have hb := E.2.1
  have hown := E.2.2.2.1
  have hts := E.2.2.2.2.1
  have hF : Fr [] [(51, 51)] σ σ := Fr.refl σ
  have hwX2 : ∀ w ∈ wsX20, w ∈ wsX5_dealsOf := by decide +kernel
  have hwX5 : ∀ w ∈ wsX50, w ∈ wsX5_dealsOf := by decide +kernel
  refine lv_aload_n hx hb dX5_dealsOf_0 rfl (lv_at hl 1 rfl) ?_
  obtain ⟨n1, b1, e1⟩ := hI.1 5 48 rfl
  refine x_getIN E h (fi_cu_pieces g) rfl hwX2 (by decide) (by decide +kernel) (v := nI n1) e1 dX5_dealsOf_1 ?_
  refine lv_bipush (v := 9) hx hb dX5_dealsOf_4 (by decide) ?_
  refine x_min E hl.1 (by decide +kernel) (by decide +kernel) (by decide +kernel) (by decide +kernel) ⟨Nat.le_of_ble_eq_true rfl, Nat.le_of_ble_eq_true rfl⟩ ⟨Nat.zero_le _, Nat.zero_le _⟩ dX5_dealsOf_6 ?_
  obtain ⟨n2, b2, e2⟩ := y_min (a := n1) (b := 9) (by omega) (by omega)
  refine x_topI (v2 := nI n2) e2 ?_
  refine lv_istore (lv' := [(5, .int (nI n2)), (0, .ref (g.2.1 58)), (1, .ref (g.2.1 16)), (2, .int p2), (3, .int (nI p3)), (4, .int p4)]) hx hb dX5_dealsOf_9 hl (by decide) rfl (fun ls hl => ?_)
  refine lv_aload_n hx hb dX5_dealsOf_11 rfl (lv_at hl 1 rfl) ?_
  refine lv_aload_n hx hb dX5_dealsOf_12 rfl (lv_at hl 2 rfl) ?_
  refine lv_iload hx hb dX5_dealsOf_13 (lv_at hl 0 rfl) ?_
  refine lv_iload_n hx hb dX5_dealsOf_15 rfl (lv_at hl 4 rfl) ?_
  refine x_vv E h (na := 3) (As := [.ref (g.2.1 16), .int (nI n2), .int (nI p3)]) (aX5_fillOffs_0 l g σ hI n2 p3 (by omega) (by omega)) (oc_ke g) rfl gX5_dealsOf_X5_fillOffs rfl ⟨rfl, rfl⟩ rfl (by decide +kernel) ⟨Nat.le_of_ble_eq_true rfl, Nat.le_of_ble_eq_true rfl⟩ hl.1 rfl (Nat.le_of_ble_eq_true rfl) dX5_dealsOf_16 ⟨Nat.le_of_ble_eq_true rfl, Nat.le_of_ble_eq_true rfl⟩ (fun s3 H locs q3 h => ?_)
  obtain ⟨hI3, f3⟩ := q3
  have hF3 := hF.call f3 (I := []) (J := [(51, 51)]) rfl rfl
  have e4 : s3.1 5 = nI n1 := ((f3.1 5 rfl)).trans e1
  refine lv_iload_n hx hb dX5_dealsOf_19 rfl (lv_at hl 3 rfl) ?_
  refine lv_if_lt (tgt := 31) hx hb dX5_dealsOf_20 (by decide) (fun c5 => ?_) (fun c5 => ?_)
  · skip
    refine lv_iconst (v := 0) hx hb dX5_dealsOf_31 (by decide) ?_
    exact x_iret E h ⟨hI3, hF3⟩ dX5_dealsOf_32
  · skip
    refine lv_iload_n hx hb dX5_dealsOf_23 rfl (lv_at hl 3 rfl) ?_
    refine lv_iconst (v := 1) hx hb dX5_dealsOf_24 (by decide) ?_
    refine lv_iload hx hb dX5_dealsOf_25 (lv_at hl 0 rfl) ?_
    refine lv_ishl hx hb dX5_dealsOf_27 ?_
    refine x_topI (v2 := nI (2 ^ n2)) (y_shl1 (by omega)) ?_
    have b8 := y_pow (p := n2) (by omega)
    refine lv_icmp_lt (tgt := 33) hx hb dX5_dealsOf_28 (by decide) (fun c9 => ?_) (fun c9 => ?_)
    · skip
      obtain ⟨n11, b11, rfl⟩ := y_rlt (N := (2 ^ n2)) (y_lo1 c5 (by decide)) c9 (by omega)
      have b12 : 0 ≤ n11 := y_nlt (a := n11) (b := 0) (by omega) (by omega) c5
      have b13 : n11 < (2 ^ n2) := y_lt (a := n11) (b := (2 ^ n2)) (by omega) (by omega) c9
      refine lv_iload_n hx hb dX5_dealsOf_33 rfl (lv_at hl 3 rfl) ?_
      refine x_si E h (na := 1) (As := [.int (nI n11)]) (aJ6_bitCount_0f7a4_0 l g s3 hI3 (nI n11)) gX5_dealsOf_J6_bitCount_0f7a4 rfl ⟨rfl, rfl⟩ rfl (by decide +kernel) ⟨Nat.le_of_ble_eq_true rfl, Nat.le_of_ble_eq_true rfl⟩ hl.1 rfl (Nat.le_of_ble_eq_true rfl) dX5_dealsOf_34 ⟨Nat.le_of_ble_eq_true rfl, Nat.le_of_ble_eq_true rfl⟩ (fun r14 s14 H locs q14 h => ?_)
      subst q14
      refine lv_istore (lv' := [(6, .int r14), (5, .int (nI n2)), (0, .ref (g.2.1 58)), (1, .ref (g.2.1 16)), (2, .int (nI n11)), (3, .int (nI p3)), (4, .int p4)]) hx hb dX5_dealsOf_37 hl (by decide) rfl (fun ls hl => ?_)
      refine lv_iconst (v := 0) hx hb dX5_dealsOf_39 (by decide) ?_
      refine lv_istore (lv' := [(7, .int 0), (6, .int r14), (5, .int (nI n2)), (0, .ref (g.2.1 58)), (1, .ref (g.2.1 16)), (2, .int (nI n11)), (3, .int (nI p3)), (4, .int p4)]) hx hb dX5_dealsOf_40 hl (by decide) rfl (fun ls hl => ?_)
      refine lv_iconst (v := 0) hx hb dX5_dealsOf_42 (by decide) ?_
      refine lv_istore (lv' := [(8, .int 0), (7, .int 0), (6, .int r14), (5, .int (nI n2)), (0, .ref (g.2.1 58)), (1, .ref (g.2.1 16)), (2, .int (nI n11)), (3, .int (nI p3)), (4, .int p4)]) hx hb dX5_dealsOf_43 hl (by decide) rfl (fun ls hl => ?_)
      have loop45_15 : ∀ (fu : Nat) (i15_8 : Nat) (i15_7 : Int32), i15_8 ≤ 2 ^ n2 → 2 ^ n2 - i15_8 < fu → ∀ (H : Heap) (locs : List Loc) (ls : Array Slot), HW g s3 s H locs → lv_has ls 9 [(8, .int (nI i15_8)), (7, .int i15_7), (6, .int r14), (5, .int (nI n2)), (0, .ref (g.2.1 58)), (1, .ref (g.2.1 16)), (2, .int (nI n11)), (3, .int (nI p3)), (4, .int p4)] → W p l e { frames := 3, cells := 0, slots := 0, locals := 73 } s m args below meth c H locs 0 0 (MQ below (XQi g (fun r σ' => INV σ' ∧ Fr [] [(51, 51)] σ σ')) args s 0 0 (Aw g)) (F0 m 45 ls []) := by
        intro fu
        induction fu with
        | zero => intro i15_8 i15_7 bi15_8 hm; exact absurd hm (Nat.not_lt_zero _)
        | succ fu ih =>
          have ih15 := ih
          clear ih
          intro i15_8 i15_7 bi15_8 hm15 H locs ls h hl
          refine lv_iload hx hb dX5_dealsOf_45 (lv_at hl 0 rfl) ?_
          refine lv_iconst (v := 1) hx hb dX5_dealsOf_47 (by decide) ?_
          refine lv_iload hx hb dX5_dealsOf_48 (lv_at hl 3 rfl) ?_
          refine lv_ishl hx hb dX5_dealsOf_50 ?_
          refine x_topI (v2 := nI (2 ^ n2)) (y_shl1 (by omega)) ?_
          have b16 := y_pow (p := n2) (by omega)
          refine lv_icmp_ge (tgt := 94) hx hb dX5_dealsOf_51 (by decide) (fun c17 => ?_) (fun c17 => ?_)
          · skip
            have b18 : (2 ^ n2) ≤ i15_8 := y_le (a := (2 ^ n2)) (b := i15_8) (by omega) (by omega) c17
            refine lv_iload hx hb dX5_dealsOf_94 (lv_at hl 1 rfl) ?_
            exact x_iret E h ⟨hI3, hF3⟩ dX5_dealsOf_96
          · skip
            have b19 : i15_8 < (2 ^ n2) := y_nle (a := (2 ^ n2)) (b := i15_8) (by omega) (by omega) c17
            refine lv_iload hx hb dX5_dealsOf_54 (lv_at hl 0 rfl) ?_
            refine x_si E h (na := 1) (As := [.int (nI i15_8)]) (aJ6_bitCount_0f7a4_0 l g s3 hI3 (nI i15_8)) gX5_dealsOf_J6_bitCount_0f7a4 rfl ⟨rfl, rfl⟩ rfl (by decide +kernel) ⟨Nat.le_of_ble_eq_true rfl, Nat.le_of_ble_eq_true rfl⟩ hl.1 rfl (Nat.le_of_ble_eq_true rfl) dX5_dealsOf_56 ⟨Nat.le_of_ble_eq_true rfl, Nat.le_of_ble_eq_true rfl⟩ (fun r20 s20 H locs q20 h => ?_)
            subst q20
            refine lv_iload hx hb dX5_dealsOf_59 (lv_at hl 2 rfl) ?_
            have j88_23 : ∀ (y23_l7 : Int32), ∀ (H : Heap) (locs : List Loc) (ls : Array Slot), HW g s3 s H locs → lv_has ls 9 [(8, .int (nI i15_8)), (7, .int y23_l7), (6, .int r14), (5, .int (nI n2)), (0, .ref (g.2.1 58)), (1, .ref (g.2.1 16)), (2, .int (nI n11)), (3, .int (nI p3)), (4, .int p4)] → W p l e { frames := 3, cells := 0, slots := 0, locals := 73 } s m args below meth c H locs 0 0 (MQ below (XQi g (fun r σ' => INV σ' ∧ Fr [] [(51, 51)] σ σ')) args s 0 0 (Aw g)) (F0 m 88 ls []) := by
              intro y23_l7 H locs ls h hl
              refine lv_iinc (v := (nI (i15_8 + 1))) (lv' := [(8, .int (nI (i15_8 + 1))), (7, .int y23_l7), (6, .int r14), (5, .int (nI n2)), (0, .ref (g.2.1 58)), (1, .ref (g.2.1 16)), (2, .int (nI n11)), (3, .int (nI p3)), (4, .int p4)]) hx hb dX5_dealsOf_88 hl (k := 0) rfl (nI_add i15_8 1) (by decide) rfl (fun ls hl => ?_)
              refine lv_goto (tgt := 45) hx hb dX5_dealsOf_91 (by decide) ?_
              exact ih15 (i15_8 + 1) y23_l7 (by omega) (by omega) _ _ _ h (lv_sub hl [0, 1, 2, 3, 4, 5, 6, 7, 8] rfl)
            refine lv_icmp_ne (tgt := 88) hx hb dX5_dealsOf_61 (by decide) (fun c21 => ?_) (fun c21 => ?_)
            · skip
              exact j88_23 i15_7 _ _ _ h (lv_sub hl [0, 1, 2, 3, 4, 5, 6, 7, 8] rfl)
            · skip
              refine lv_iload hx hb dX5_dealsOf_64 (lv_at hl 8 rfl) ?_
              refine lv_if_ne (tgt := 85) hx hb dX5_dealsOf_66 (by decide) (fun c25 => ?_) (fun c25 => ?_)
              · skip
                obtain ⟨z27, e27⟩ : ∃ y : Int32, y = i15_7 + 1 := ⟨_, rfl⟩
                refine lv_iinc (v := z27) (lv' := [(7, .int z27), (8, .int (nI i15_8)), (6, .int r14), (5, .int (nI n2)), (0, .ref (g.2.1 58)), (1, .ref (g.2.1 16)), (2, .int (nI n11)), (3, .int (nI p3)), (4, .int p4)]) hx hb dX5_dealsOf_85 hl (k := 1) rfl e27.symm (by decide) rfl (fun ls hl => ?_)
                exact j88_23 z27 _ _ _ h (lv_sub hl [1, 0, 2, 3, 4, 5, 6, 7, 8] rfl)
              · skip
                refine lv_aload_n hx hb dX5_dealsOf_69 rfl (lv_at hl 4 rfl) ?_
                refine x_getR E h (fr_ke_offs g) rfl hwX5 (by decide) (by decide +kernel) dX5_dealsOf_70 ?_
                refine lv_iload hx hb dX5_dealsOf_73 (lv_at hl 0 rfl) ?_
                refine x_ldI E h (ia_ke_offs g) (i := nI i15_8) (vp_in_nI (by omega) (by decide)) (v := s3.2.2 51 i15_8) (congrArg (s3.2.2 51) (nI_clamp (by omega))) dX5_dealsOf_75 ?_
                refine lv_aload_n hx hb dX5_dealsOf_76 rfl (lv_at hl 4 rfl) ?_
                refine x_getR E h (fr_ke_offs g) rfl hwX5 (by decide) (by decide +kernel) dX5_dealsOf_77 ?_
                refine lv_iload_n hx hb dX5_dealsOf_80 rfl (lv_at hl 6 rfl) ?_
                refine x_ldI E h (ia_ke_offs g) (i := nI n11) (vp_in_nI (by omega) (by decide)) (v := s3.2.2 51 n11) (congrArg (s3.2.2 51) (nI_clamp (by omega))) dX5_dealsOf_81 ?_
                refine lv_icmp_gt (tgt := 88) hx hb dX5_dealsOf_82 (by decide) (fun c29 => ?_) (fun c29 => ?_)
                · skip
                  exact j88_23 i15_7 _ _ _ h (lv_sub hl [0, 1, 2, 3, 4, 5, 6, 7, 8] rfl)
                · skip
                  obtain ⟨z32, e32⟩ : ∃ y : Int32, y = i15_7 + 1 := ⟨_, rfl⟩
                  refine lv_iinc (v := z32) (lv' := [(7, .int z32), (8, .int (nI i15_8)), (6, .int r14), (5, .int (nI n2)), (0, .ref (g.2.1 58)), (1, .ref (g.2.1 16)), (2, .int (nI n11)), (3, .int (nI p3)), (4, .int p4)]) hx hb dX5_dealsOf_85 hl (k := 1) rfl e32.symm (by decide) rfl (fun ls hl => ?_)
                  exact j88_23 z32 _ _ _ h (lv_sub hl [1, 0, 2, 3, 4, 5, 6, 7, 8] rfl)
      exact loop45_15 _ 0 0 (Nat.zero_le _) (Nat.lt_succ_self _) _ _ _ h (lv_sub hl [0, 1, 2, 3, 4, 5, 6, 7, 8] rfl)
    · skip
      refine lv_iconst (v := 0) hx hb dX5_dealsOf_31 (by decide) ?_
      exact x_iret E h ⟨hI3, hF3⟩ dX5_dealsOf_32
set_option maxHeartbeats 4000000 in
set_option maxRecDepth 100000 in
theorem aX11_odds_0 (l : Launch) (g : CX) (σ : ST) (hI : INV σ) (p1 : Int32) (p2 : Int32) (p3 : Int32) : XM l g yX11_odds wsX11_odds { frames := 17, cells := 0, slots := 0, locals := 441 } [.ref (g.2.1 0), .int p1, .int p2, .int p3] σ (XQi g (fun r σ' => INV σ' ∧ Fr [(3, 12), (14, 18), (22, 23)] [(8, 19), (21, 29), (31, 41), (43, 47), (51, 51)] σ σ')) := by
  refine x_met (own := RX11) (cc := cX11_odds) (maxL := 5) (ret := (some .int)) (lv := [(0, .ref (g.2.1 0)), (1, .int p1), (2, .int p2), (3, .int p3)]) (by decide) rfl rfl (Nat.le_of_ble_eq_true rfl) rfl ?_
  intro p e s m args below meth c ls E h hl
  have hx := E.1
  have hb := E.2.1
  have hown := E.2.2.2.1
  have hts := E.2.2.2.2.1
  have hF : Fr [(3, 12), (14, 18), (22, 23)] [(8, 19), (21, 29), (31, 41), (43, 47), (51, 51)] σ σ := Fr.refl σ
  have hwX0 : ∀ w ∈ wsX00, w ∈ wsX11_odds := by decide +kernel
  have hwX11 : ∀ w ∈ wsX110, w ∈ wsX11_odds := by decide +kernel
  have hwX2 : ∀ w ∈ wsX20, w ∈ wsX11_odds := by decide +kernel
  refine lv_iload_n hx hb dX11_odds_0 rfl (lv_at hl 1 rfl) ?_
  refine x_si E h (na := 1) (As := [.int p1]) (aX11_isHeapNumber_0 l g σ hI p1) gX11_odds_X11_isHeapNumber rfl ⟨rfl, rfl⟩ rfl (by decide +kernel) ⟨Nat.le_of_ble_eq_true rfl, Nat.le_of_ble_eq_true rfl⟩ hl.1 rfl (Nat.le_of_ble_eq_true rfl) dX11_odds_1 ⟨Nat.le_of_ble_eq_true rfl, Nat.le_of_ble_eq_true rfl⟩ (fun r1 s1 H locs q1 h => ?_)
  obtain ⟨d1, rfl⟩ := q1
  rcases d1 with ⟨rfl, m1_0n, u1_0_0, rfl⟩ | rfl
  · skip
    refine lv_if_eq (tgt := 27) hx hb dX11_odds_4 (by decide) (fun c => absurd c (by decide)) (fun _ => ?_)
    refine lv_aload_n hx hb dX11_odds_7 rfl (lv_at hl 0 rfl) ?_
    refine x_getR E h (fr_vh_kept g) rfl hwX11 (by decide) (by decide +kernel) dX11_odds_8 ?_
    refine lv_iload_n hx hb dX11_odds_11 rfl (lv_at hl 2 rfl) ?_
    refine x_vi E h (na := 1) (As := [.int p2]) (aX5_has_0 l g σ hI p2) (oc_ke g) rfl gX11_odds_X5_has rfl ⟨rfl, rfl⟩ rfl (by decide +kernel) ⟨Nat.le_of_ble_eq_true rfl, Nat.le_of_ble_eq_true rfl⟩ hl.1 rfl (Nat.le_of_ble_eq_true rfl) dX11_odds_12 ⟨Nat.le_of_ble_eq_true rfl, Nat.le_of_ble_eq_true rfl⟩ (fun r2 s2 H locs q2 h => ?_)
    obtain ⟨d2, rfl⟩ := q2
    rcases d2 with ⟨rfl, m2_0n, m2_0K, u2_0_0, u2_0_1, u2_0_2, rfl⟩ | rfl
    · skip
      refine lv_if_eq (tgt := 27) hx hb dX11_odds_15 (by decide) (fun c => absurd c (by decide)) (fun _ => ?_)
      refine lv_iload_n hx hb dX11_odds_18 rfl (lv_at hl 3 rfl) ?_
      refine lv_iconst (v := 0) hx hb dX11_odds_19 (by decide) ?_
      refine lv_iconst (v := 1) hx hb dX11_odds_20 (by decide) ?_
      refine x_si E h (na := 3) (As := [.int p3, .int 0, .int 1]) (aX11_within_0 l g σ hI p3 0 1) gX11_odds_X11_within rfl ⟨rfl, rfl⟩ rfl (by decide +kernel) ⟨Nat.le_of_ble_eq_true rfl, Nat.le_of_ble_eq_true rfl⟩ hl.1 rfl (Nat.le_of_ble_eq_true rfl) dX11_odds_21 ⟨Nat.le_of_ble_eq_true rfl, Nat.le_of_ble_eq_true rfl⟩ (fun r3 s3 H locs q3 h => ?_)
      obtain ⟨d3, rfl⟩ := q3
      rcases d3 with ⟨rfl, u3_0_0, u3_0_1⟩ | ⟨rfl, u3_1_0⟩
      · skip
        obtain ⟨n4, b4, rfl⟩ := y_rnlt (N := 1) (y_lo1 u3_0_0 (by decide)) u3_0_1 (by omega)
        have b5 : 0 ≤ n4 := y_nlt (a := n4) (b := 0) (by omega) (by omega) u3_0_0
        have b6 : n4 ≤ 1 := y_nlt (a := 1) (b := n4) (by omega) (by omega) u3_0_1
        refine lv_if_ne (tgt := 29) hx hb dX11_odds_24 (by decide) (fun _ => ?_) (fun c => absurd c (by decide))
        refine lv_aload_n hx hb dX11_odds_29 rfl (lv_at hl 0 rfl) ?_
        refine lv_iload_n hx hb dX11_odds_30 rfl (lv_at hl 1 rfl) ?_
        refine x_vi E h (na := 1) (As := [.int (nI m1_0n)]) (aX11_refusedHeap_0 l g σ hI (nI m1_0n)) (oc_vh g) rfl gX11_odds_X11_refusedHeap rfl ⟨rfl, rfl⟩ rfl (by decide +kernel) ⟨Nat.le_of_ble_eq_true rfl, Nat.le_of_ble_eq_true rfl⟩ hl.1 rfl (Nat.le_of_ble_eq_true rfl) dX11_odds_31 ⟨Nat.le_of_ble_eq_true rfl, Nat.le_of_ble_eq_true rfl⟩ (fun r7 s7 H locs q7 h => ?_)
        obtain ⟨hI7, f7⟩ := q7
        have hF7 := hF.call f7 (I := [(3, 12), (14, 18), (22, 23)]) (J := [(8, 19), (21, 29), (31, 41), (43, 47), (51, 51)]) rfl rfl
        have e8 : s7.1 19 = nI m2_0K := ((f7.1 19 rfl)).trans u2_0_0
        refine lv_istore (lv' := [(4, .int r7), (0, .ref (g.2.1 0)), (1, .int (nI m1_0n)), (2, .int (nI m2_0n)), (3, .int (nI n4))]) hx hb dX11_odds_34 hl (by decide) rfl (fun ls hl => ?_)
        refine lv_iload hx hb dX11_odds_36 (lv_at hl 0 rfl) ?_
        refine lv_if_ge (tgt := 44) hx hb dX11_odds_38 (by decide) (fun c9 => ?_) (fun c9 => ?_)
        · skip
          refine lv_aload_n hx hb dX11_odds_44 rfl (lv_at hl 1 rfl) ?_
          refine x_getR E h (fr_vh_kept g) rfl hwX11 (by decide) (by decide +kernel) dX11_odds_45 ?_
          refine lv_aload_n hx hb dX11_odds_48 rfl (lv_at hl 1 rfl) ?_
          refine x_getR E h (fr_vh_cutting g) rfl hwX11 (by decide) (by decide +kernel) dX11_odds_49 ?_
          refine lv_aload_n hx hb dX11_odds_52 rfl (lv_at hl 1 rfl) ?_
          refine x_getR E h (fr_vh_all g) rfl hwX11 (by decide) (by decide +kernel) dX11_odds_53 ?_
          refine x_getRN E h (fr_al_best g) rfl hwX0 (by decide) (by decide +kernel) dX11_odds_56 ?_
          refine lv_iload_n hx hb dX11_odds_59 rfl (lv_at hl 2 rfl) ?_
          refine lv_aload_n hx hb dX11_odds_60 rfl (lv_at hl 1 rfl) ?_
          refine x_getR E h (fr_vh_cutting g) rfl hwX11 (by decide) (by decide +kernel) dX11_odds_61 ?_
          obtain ⟨n11, b11, e11⟩ := hI7.1 5 48 rfl
          refine x_getIN E h (fi_cu_pieces g) rfl hwX2 (by decide) (by decide +kernel) (v := nI n11) e11 dX11_odds_64 ?_
          refine x_vi E h (na := 2) (As := [.int (nI m1_0n), .int (nI n11)]) (aX4_membersOf_0 l g s7 hI7 (nI m1_0n) (nI n11)) (oc_be g) rfl gX11_odds_X4_membersOf rfl ⟨rfl, rfl⟩ rfl (by decide +kernel) ⟨Nat.le_of_ble_eq_true rfl, Nat.le_of_ble_eq_true rfl⟩ hl.1 rfl (Nat.le_of_ble_eq_true rfl) dX11_odds_67 ⟨Nat.le_of_ble_eq_true rfl, Nat.le_of_ble_eq_true rfl⟩ (fun r12 s12 H locs q12 h => ?_)
          subst q12
          refine lv_iload_n hx hb dX11_odds_70 rfl (lv_at hl 3 rfl) ?_
          refine lv_iload_n hx hb dX11_odds_71 rfl (lv_at hl 4 rfl) ?_
          refine lv_iconst (v := 1) hx hb dX11_odds_72 (by decide) ?_
          have j81_15 : ∀ (y15_s0 : Int32), ∀ (H : Heap) (locs : List Loc) (ls : Array Slot), HW g s7 s H locs → lv_has ls 5 [(4, .int r7), (0, .ref (g.2.1 0)), (1, .int (nI m1_0n)), (2, .int (nI m2_0n)), (3, .int (nI n4))] → W p l e { frames := 17, cells := 0, slots := 0, locals := 441 } s m args below meth c H locs 0 0 (MQ below (XQi g (fun r σ' => INV σ' ∧ Fr [(3, 12), (14, 18), (22, 23)] [(8, 19), (21, 29), (31, 41), (43, 47), (51, 51)] σ σ')) args s 0 0 (Aw g)) (F0 m 81 ls [.int y15_s0, .int (nI m2_0n), .int r12, .ref (g.2.1 16), .ref (g.2.1 58)]) := by
            intro y15_s0 H locs ls h hl
            refine x_vi E h (na := 4) (As := [.ref (g.2.1 16), .int r12, .int (nI m2_0n), .int y15_s0]) (aX5_dealsOf_0 l g s7 hI7 r12 m2_0n y15_s0 (by omega)) (oc_ke g) rfl gX11_odds_X5_dealsOf rfl ⟨rfl, rfl⟩ rfl (by decide +kernel) ⟨Nat.le_of_ble_eq_true rfl, Nat.le_of_ble_eq_true rfl⟩ hl.1 rfl (Nat.le_of_ble_eq_true rfl) dX11_odds_81 ⟨Nat.le_of_ble_eq_true rfl, Nat.le_of_ble_eq_true rfl⟩ (fun r16 s16 H locs q16 h => ?_)
            obtain ⟨hI16, f16⟩ := q16
            have hF16 := hF7.call f16 (I := [(3, 12), (14, 18), (22, 23)]) (J := [(8, 19), (21, 29), (31, 41), (43, 47), (51, 51)]) rfl rfl
            have e17 : s16.1 19 = nI m2_0K := ((f16.1 19 rfl)).trans e8
            have e18 : s16.1 5 = nI n11 := ((f16.1 5 rfl)).trans e11
            exact x_iret E h ⟨hI16, hF16⟩ dX11_odds_84
          refine lv_icmp_ne (tgt := 80) hx hb dX11_odds_73 (by decide) (fun c13 => ?_) (fun c13 => ?_)
          · skip
            have b14 : ¬ n4 = 1 := y_ne (a := n4) (b := 1) (by omega) (by omega) c13
            refine lv_iconst (v := 0) hx hb dX11_odds_80 (by decide) ?_
            exact j81_15 0 _ _ _ h (lv_sub hl [0, 1, 2, 3, 4] rfl)
          · skip
            have b19 : n4 = 1 := y_eq (a := n4) (b := 1) (by omega) (by omega) c13
            refine lv_iconst (v := 1) hx hb dX11_odds_76 (by decide) ?_
            refine lv_goto (tgt := 81) hx hb dX11_odds_77 (by decide) ?_
            exact j81_15 1 _ _ _ h (lv_sub hl [0, 1, 2, 3, 4] rfl)
        · skip
          refine lv_iload hx hb dX11_odds_41 (lv_at hl 0 rfl) ?_
          exact x_iret E h ⟨hI7, hF7⟩ dX11_odds_43
      · skip
        refine lv_if_ne (tgt := 29) hx hb dX11_odds_24 (by decide) (fun c => absurd (by decide) c) (fun _ => ?_)
        refine lv_iconst (v := (-1)) hx hb dX11_odds_27 (by decide) ?_
        exact x_iret E h ⟨hI, hF⟩ dX11_odds_28
    · skip
      refine lv_if_eq (tgt := 27) hx hb dX11_odds_15 (by decide) (fun _ => ?_) (fun c => absurd (by decide) c)
      refine lv_iconst (v := (-1)) hx hb dX11_odds_27 (by decide) ?_
      exact x_iret E h ⟨hI, hF⟩ dX11_odds_28
  · skip
    refine lv_if_eq (tgt := 27) hx hb dX11_odds_4 (by decide) (fun _ => ?_) (fun c => absurd (by decide) c)
    refine lv_iconst (v := (-1)) hx hb dX11_odds_27 (by decide) ?_
    exact x_iret E h ⟨hI, hF⟩ dX11_odds_28
set_option maxHeartbeats 4000000 in
set_option maxRecDepth 100000 in
theorem aX11_heapOfRow_0 (l : Launch) (g : CX) (σ : ST) (hI : INV σ) (p1 : Nat) (hh0 : p1 < 48) : XM l g yX11_heapOfRow wsX11_heapOfRow { frames := 1, cells := 0, slots := 0, locals := 22 } [.ref (g.2.1 0), .int (nI p1)] σ (XQi g (fun r σ' => σ = σ')) := by
  refine x_met (own := RX11) (cc := cX11_heapOfRow) (maxL := 3) (ret := (some .int)) (lv := [(0, .ref (g.2.1 0)), (1, .int (nI p1))]) (by decide) rfl rfl (Nat.le_of_ble_eq_true rfl) rfl ?_
  intro p e s m args below meth c ls E h hl
  have hx := E.1
  have hb := E.2.1
  have hown := E.2.2.2.1
  have hts := E.2.2.2.2.1
  have hwX0 : ∀ w ∈ wsX00, w ∈ wsX11_heapOfRow := by decide +kernel
  have hwX11 : ∀ w ∈ wsX110, w ∈ wsX11_heapOfRow := by decide +kernel
  have hwX2 : ∀ w ∈ wsX20, w ∈ wsX11_heapOfRow := by decide +kernel
  have hwX4 : ∀ w ∈ wsX40, w ∈ wsX11_heapOfRow := by decide +kernel
  refine lv_aload_n hx hb dX11_heapOfRow_0 rfl (lv_at hl 0 rfl) ?_
  refine x_getR E h (fr_vh_cutting g) rfl hwX11 (by decide) (by decide +kernel) dX11_heapOfRow_1 ?_
  refine x_getRN E h (fr_cu_pieceOf g) rfl hwX2 (by decide) (by decide +kernel) dX11_heapOfRow_4 ?_
  refine lv_iload_n hx hb dX11_heapOfRow_7 rfl (lv_at hl 1 rfl) ?_
  refine x_ldI E h (ia_cu_pieceOf g) (i := nI p1) (vp_in_nI (by omega) (by decide)) (v := σ.2.2 17 p1) (congrArg (σ.2.2 17) (nI_clamp (by omega))) dX11_heapOfRow_8 ?_
  refine lv_topi (fun x1 e1 => ?_)
  refine lv_istore_n (lv' := [(2, .int x1), (0, .ref (g.2.1 0)), (1, .int (nI p1))]) hx hb dX11_heapOfRow_9 rfl hl (by decide) rfl (fun ls hl => ?_)
  refine lv_iload_n hx hb dX11_heapOfRow_10 rfl (lv_at hl 0 rfl) ?_
  refine lv_iconst (v := 0) hx hb dX11_heapOfRow_11 (by decide) ?_
  refine lv_bipush (v := 8) hx hb dX11_heapOfRow_12 (by decide) ?_
  refine x_si E h (na := 3) (As := [.int x1, .int 0, .int 8]) (aX11_within_0 l g σ hI x1 0 8) gX11_heapOfRow_X11_within rfl ⟨rfl, rfl⟩ rfl (by decide +kernel) ⟨Nat.le_of_ble_eq_true rfl, Nat.le_of_ble_eq_true rfl⟩ hl.1 rfl (Nat.le_of_ble_eq_true rfl) dX11_heapOfRow_14 ⟨Nat.le_of_ble_eq_true rfl, Nat.le_of_ble_eq_true rfl⟩ (fun r2 s2 H locs q2 h => ?_)
  obtain ⟨d2, rfl⟩ := q2
  rcases d2 with ⟨rfl, u2_0_0, u2_0_1⟩ | ⟨rfl, u2_1_0⟩
  · skip
    obtain ⟨n3, b3, rfl⟩ := y_rnlt (N := 8) (y_lo1 u2_0_0 (by decide)) u2_0_1 (by omega)
    have b4 : 0 ≤ n3 := y_nlt (a := n3) (b := 0) (by omega) (by omega) u2_0_0
    have b5 : n3 ≤ 8 := y_nlt (a := 8) (b := n3) (by omega) (by omega) u2_0_1
    refine lv_if_eq (tgt := 35) hx hb dX11_heapOfRow_17 (by decide) (fun c => absurd c (by decide)) (fun _ => ?_)
    refine lv_aload_n hx hb dX11_heapOfRow_20 rfl (lv_at hl 1 rfl) ?_
    refine x_getR E h (fr_vh_all g) rfl hwX11 (by decide) (by decide +kernel) dX11_heapOfRow_21 ?_
    refine x_getRN E h (fr_al_best g) rfl hwX0 (by decide) (by decide +kernel) dX11_heapOfRow_24 ?_
    refine x_getRN E h (fr_be_heapOf g) rfl hwX4 (by decide) (by decide +kernel) dX11_heapOfRow_27 ?_
    refine lv_iload_n hx hb dX11_heapOfRow_30 rfl (lv_at hl 0 rfl) ?_
    obtain ⟨n6, b6, e6⟩ := hI.2 41 8 rfl n3
    refine x_ldI E h (ia_be_heapOf g) (i := nI n3) (vp_in_nI (by omega) (by decide)) (v := nI n6) ((congrArg (σ.2.2 41) (nI_clamp (by omega))).trans e6) dX11_heapOfRow_31 ?_
    refine lv_goto (tgt := 37) hx hb dX11_heapOfRow_32 (by decide) ?_
    exact x_iret E h rfl dX11_heapOfRow_37
  · skip
    refine lv_if_eq (tgt := 35) hx hb dX11_heapOfRow_17 (by decide) (fun _ => ?_) (fun c => absurd (by decide) c)
    refine lv_bipush (v := (-9)) hx hb dX11_heapOfRow_35 (by decide) ?_
    exact x_iret E h rfl dX11_heapOfRow_37
set_option maxHeartbeats 4000000 in
set_option maxRecDepth 100000 in
theorem aX11_show_0 (l : Launch) (g : CX) (σ : ST) (hI : INV σ)  : XM l g yX11_show wsX11_show { frames := 16, cells := 0, slots := 0, locals := 420 } [.ref (g.2.1 0)] σ (XQi g (fun r σ' => INV σ' ∧ Fr [(3, 12), (14, 18), (21, 23)] [(8, 19), (21, 29), (31, 41), (43, 47), (65, 65)] σ σ')) := by
  refine x_met (own := RX11) (cc := cX11_show) (maxL := 2) (ret := (some .int)) (lv := [(0, .ref (g.2.1 0))]) (by decide) rfl rfl (Nat.le_of_ble_eq_true rfl) rfl ?_
  intro p e s m args below meth c ls E h hl
  have hx := E.1
  have hb := E.2.1
  have hown := E.2.2.2.1
  have hts := E.2.2.2.2.1
  have hF : Fr [(3, 12), (14, 18), (21, 23)] [(8, 19), (21, 29), (31, 41), (43, 47), (65, 65)] σ σ := Fr.refl σ
  have hwX11 : ∀ w ∈ wsX110, w ∈ wsX11_show := by decide +kernel
  have hwX7 : ∀ w ∈ wsX70, w ∈ wsX11_show := by decide +kernel
  refine lv_aload_n hx hb dX11_show_0 rfl (lv_at hl 0 rfl) ?_
  refine x_vi E h (na := 0) (As := []) (aX11_heapNow_1 l g σ hI) (oc_vh g) rfl gX11_show_X11_heapNow rfl ⟨rfl, rfl⟩ rfl (by decide +kernel) ⟨Nat.le_of_ble_eq_true rfl, Nat.le_of_ble_eq_true rfl⟩ hl.1 rfl (Nat.le_of_ble_eq_true rfl) dX11_show_1 ⟨Nat.le_of_ble_eq_true rfl, Nat.le_of_ble_eq_true rfl⟩ (fun r1 s1 H locs q1 h => ?_)
  obtain ⟨d1, hI1, f1⟩ := q1
  have hF1 := hF.call f1 (I := [(3, 12), (14, 18), (21, 23)]) (J := [(8, 19), (21, 29), (31, 41), (43, 47), (65, 65)]) rfl rfl
  rcases d1 with ⟨rfl, m1_0P, u1_0_0, u1_0_1, u1_0_2⟩ | rfl
  · skip
    refine lv_if_ne (tgt := 10) hx hb dX11_show_4 (by decide) (fun _ => ?_) (fun c => absurd c (by decide))
    refine lv_iconst (v := 0) hx hb dX11_show_10 (by decide) ?_
    refine lv_istore_n (lv' := [(1, .int 0), (0, .ref (g.2.1 0))]) hx hb dX11_show_11 rfl hl (by decide) rfl (fun ls hl => ?_)
    obtain ⟨n3, b3, e3⟩ := hI1.1 2 48 rfl
    have loop12_2 : ∀ (fu : Nat) (t2 : ST) (i2_1 : Nat), INV t2 → Fr [(3, 12), (14, 18), (21, 23)] [(8, 19), (21, 29), (31, 41), (43, 47), (65, 65)] σ t2 → t2.1 5 = nI m1_0P → t2.1 22 = 0 → t2.1 2 = nI n3 → i2_1 ≤ n3 → n3 - i2_1 < fu → ∀ (H : Heap) (locs : List Loc) (ls : Array Slot), HW g t2 s H locs → lv_has ls 2 [(1, .int (nI i2_1)), (0, .ref (g.2.1 0))] → W p l e { frames := 16, cells := 0, slots := 0, locals := 420 } s m args below meth c H locs 0 0 (MQ below (XQi g (fun r σ' => INV σ' ∧ Fr [(3, 12), (14, 18), (21, 23)] [(8, 19), (21, 29), (31, 41), (43, 47), (65, 65)] σ σ')) args s 0 0 (Aw g)) (F0 m 12 ls []) := by
      intro fu
      induction fu with
      | zero => intro t2 i2_1 hI_2 hF_2 e4 e5 e6 bi2_1 hm; exact absurd hm (Nat.not_lt_zero _)
      | succ fu ih =>
        have ih2 := ih
        clear ih
        intro t2 i2_1 hI_2 hF_2 e4 e5 e6 bi2_1 hm2 H locs ls h hl
        refine lv_iload_n hx hb dX11_show_12 rfl (lv_at hl 0 rfl) ?_
        refine lv_aload_n hx hb dX11_show_13 rfl (lv_at hl 1 rfl) ?_
        refine x_getR E h (fr_vh_book g) rfl hwX11 (by decide) (by decide +kernel) dX11_show_14 ?_
        refine x_getIN E h (fi_bk_rows g) rfl hwX7 (by decide) (by decide +kernel) (v := nI n3) e6 dX11_show_17 ?_
        refine lv_icmp_ge (tgt := 40) hx hb dX11_show_20 (by decide) (fun c7 => ?_) (fun c7 => ?_)
        · skip
          have b8 : n3 ≤ i2_1 := y_le (a := n3) (b := i2_1) (by omega) (by omega) c7
          refine lv_aload_n hx hb dX11_show_40 rfl (lv_at hl 1 rfl) ?_
          refine lv_aload_n hx hb dX11_show_41 rfl (lv_at hl 1 rfl) ?_
          refine x_getR E h (fr_vh_book g) rfl hwX11 (by decide) (by decide +kernel) dX11_show_42 ?_
          refine x_getIN E h (fi_bk_rows g) rfl hwX7 (by decide) (by decide +kernel) (v := nI n3) e6 dX11_show_45 ?_
          refine y_putI E h hI_2 hF_2 (ty := .int) (v := nI n3) (fi_vh_shownRows g) rfl hwX11 tyX11_ok nmX11 (by decide) (by decide +kernel) (by decide +kernel) (by decide +kernel) rfl rfl (ba_none rfl) rfl dX11_show_48 (fun s9 H locs q9 hI9 hF9 h => ?_)
          have e10 : s9.1 5 = nI m1_0P := (congrArg (fun t : ST => t.1 5) q9).trans e4
          have e11 : s9.1 22 = 0 := (congrArg (fun t : ST => t.1 22) q9).trans e5
          have e12 : s9.1 2 = nI n3 := (congrArg (fun t : ST => t.1 2) q9).trans e6
          have e13 : s9.1 21 = nI n3 := congrArg (fun t : ST => t.1 21) q9
          refine lv_aload_n hx hb dX11_show_51 rfl (lv_at hl 1 rfl) ?_
          refine x_getI E h (fi_vh_shownRows g) rfl hwX11 (by decide) (by decide +kernel) (v := nI n3) e13 dX11_show_52 ?_
          exact x_iret E h ⟨hI9, hF9⟩ dX11_show_55
        · skip
          have b14 : i2_1 < n3 := y_nle (a := n3) (b := i2_1) (by omega) (by omega) c7
          refine lv_aload_n hx hb dX11_show_23 rfl (lv_at hl 1 rfl) ?_
          refine x_getR E h (fr_vh_shownHeap g) rfl hwX11 (by decide) (by decide +kernel) dX11_show_24 ?_
          refine lv_iload_n hx hb dX11_show_27 rfl (lv_at hl 0 rfl) ?_
          refine lv_aload_n hx hb dX11_show_28 rfl (lv_at hl 1 rfl) ?_
          refine lv_iload_n hx hb dX11_show_29 rfl (lv_at hl 0 rfl) ?_
          refine x_vi E h (na := 1) (As := [.int (nI i2_1)]) (aX11_heapOfRow_0 l g t2 hI_2 i2_1 (by omega)) (oc_vh g) rfl gX11_show_X11_heapOfRow rfl ⟨rfl, rfl⟩ rfl (by decide +kernel) ⟨Nat.le_of_ble_eq_true rfl, Nat.le_of_ble_eq_true rfl⟩ hl.1 rfl (Nat.le_of_ble_eq_true rfl) dX11_show_30 ⟨Nat.le_of_ble_eq_true rfl, Nat.le_of_ble_eq_true rfl⟩ (fun r15 s15 H locs q15 h => ?_)
          subst q15
          refine y_stI E h hI_2 hF_2 (ia_vh_shownHeap g) (i := nI i2_1) (vp_in_nI (by omega) (by decide)) (j := i2_1) (nI_clamp (by omega)) (ba_none rfl) rfl dX11_show_33 (fun s16 H locs q16 hI16 hF16 h => ?_)
          have e17 : s16.1 5 = nI m1_0P := (congrArg (fun t : ST => t.1 5) q16).trans e4
          have e18 : s16.1 22 = 0 := (congrArg (fun t : ST => t.1 22) q16).trans e5
          have e19 : s16.1 2 = nI n3 := (congrArg (fun t : ST => t.1 2) q16).trans e6
          refine lv_iinc (v := (nI (i2_1 + 1))) (lv' := [(1, .int (nI (i2_1 + 1))), (0, .ref (g.2.1 0))]) hx hb dX11_show_34 hl (k := 0) rfl (nI_add i2_1 1) (by decide) rfl (fun ls hl => ?_)
          refine lv_goto (tgt := 12) hx hb dX11_show_37 (by decide) ?_
          exact ih2 s16 (i2_1 + 1) hI16 hF16 e17 e18 e19 (by omega) (by omega) _ _ _ h (lv_sub hl [0, 1] rfl)
    exact loop12_2 _ s1 0 hI1 hF1 u1_0_0 u1_0_2 e3 (Nat.zero_le _) (Nat.lt_succ_self _) _ _ _ h (lv_sub hl [0, 1] rfl)
  · skip
    refine lv_if_ne (tgt := 10) hx hb dX11_show_4 (by decide) (fun c => absurd (by decide) c) (fun _ => ?_)
    refine lv_bipush (v := (-2)) hx hb dX11_show_7 (by decide) ?_
    exact x_iret E h ⟨hI1, hF1⟩ dX11_show_9
set_option maxHeartbeats 4000000 in
set_option maxRecDepth 100000 in
theorem aX11_otherwise_0 (l : Launch) (g : CX) (σ : ST) (hI : INV σ)  : XM l g yX11_otherwise wsX11_otherwise { frames := 16, cells := 0, slots := 0, locals := 420 } [.ref (g.2.1 0)] σ (XQi g (fun r σ' => INV σ' ∧ Fr [(3, 12), (14, 18), (22, 23)] [(8, 19), (21, 29), (31, 41), (43, 47)] σ σ')) := by
  refine x_met (own := RX11) (cc := cX11_otherwise) (maxL := 3) (ret := (some .int)) (lv := [(0, .ref (g.2.1 0))]) (by decide) rfl rfl (Nat.le_of_ble_eq_true rfl) rfl ?_
  intro p e s m args below meth c ls E h hl
  have hx := E.1
  have hb := E.2.1
  have hown := E.2.2.2.1
  have hts := E.2.2.2.2.1
  have hF : Fr [(3, 12), (14, 18), (22, 23)] [(8, 19), (21, 29), (31, 41), (43, 47)] σ σ := Fr.refl σ
  have hwX11 : ∀ w ∈ wsX110, w ∈ wsX11_otherwise := by decide +kernel
  have hwX7 : ∀ w ∈ wsX70, w ∈ wsX11_otherwise := by decide +kernel
  refine lv_aload_n hx hb dX11_otherwise_0 rfl (lv_at hl 0 rfl) ?_
  obtain ⟨x1, e1⟩ : ∃ x, σ.1 21 = x := ⟨_, rfl⟩
  refine x_getI E h (fi_vh_shownRows g) rfl hwX11 (by decide) (by decide +kernel) (v := x1) e1 dX11_otherwise_1 ?_
  refine lv_iconst (v := (-1)) hx hb dX11_otherwise_4 (by decide) ?_
  refine lv_icmp_eq (tgt := 15) hx hb dX11_otherwise_5 (by decide) (fun c2 => ?_) (fun c2 => ?_)
  · skip
    subst c2
    refine lv_bipush (v := (-2)) hx hb dX11_otherwise_15 (by decide) ?_
    exact x_iret E h ⟨hI, hF⟩ dX11_otherwise_17
  · skip
    refine lv_aload_n hx hb dX11_otherwise_8 rfl (lv_at hl 0 rfl) ?_
    refine x_vi E h (na := 0) (As := []) (aX11_heapNow_1 l g σ hI) (oc_vh g) rfl gX11_otherwise_X11_heapNow rfl ⟨rfl, rfl⟩ rfl (by decide +kernel) ⟨Nat.le_of_ble_eq_true rfl, Nat.le_of_ble_eq_true rfl⟩ hl.1 rfl (Nat.le_of_ble_eq_true rfl) dX11_otherwise_9 ⟨Nat.le_of_ble_eq_true rfl, Nat.le_of_ble_eq_true rfl⟩ (fun r5 s5 H locs q5 h => ?_)
    obtain ⟨d5, hI5, f5⟩ := q5
    have hF5 := hF.call f5 (I := [(3, 12), (14, 18), (22, 23)]) (J := [(8, 19), (21, 29), (31, 41), (43, 47)]) rfl rfl
    have e6 : s5.1 21 = x1 := ((f5.1 21 rfl)).trans e1
    rcases d5 with ⟨rfl, m5_0P, u5_0_0, u5_0_1, u5_0_2⟩ | rfl
    · skip
      refine lv_if_ne (tgt := 18) hx hb dX11_otherwise_12 (by decide) (fun _ => ?_) (fun c => absurd c (by decide))
      refine lv_iconst (v := 0) hx hb dX11_otherwise_18 (by decide) ?_
      refine lv_istore_n (lv' := [(1, .int 0), (0, .ref (g.2.1 0))]) hx hb dX11_otherwise_19 rfl hl (by decide) rfl (fun ls hl => ?_)
      refine lv_iconst (v := 0) hx hb dX11_otherwise_20 (by decide) ?_
      refine lv_istore_n (lv' := [(2, .int 0), (1, .int 0), (0, .ref (g.2.1 0))]) hx hb dX11_otherwise_21 rfl hl (by decide) rfl (fun ls hl => ?_)
      obtain ⟨n8, b8, e8⟩ := hI5.1 2 48 rfl
      have loop22_7 : ∀ (fu : Nat) (i7_2 : Nat) (i7_1 : Int32), i7_2 ≤ n8 → n8 - i7_2 < fu → ∀ (H : Heap) (locs : List Loc) (ls : Array Slot), HW g s5 s H locs → lv_has ls 3 [(2, .int (nI i7_2)), (1, .int i7_1), (0, .ref (g.2.1 0))] → W p l e { frames := 16, cells := 0, slots := 0, locals := 420 } s m args below meth c H locs 0 0 (MQ below (XQi g (fun r σ' => INV σ' ∧ Fr [(3, 12), (14, 18), (22, 23)] [(8, 19), (21, 29), (31, 41), (43, 47)] σ σ')) args s 0 0 (Aw g)) (F0 m 22 ls []) := by
        intro fu
        induction fu with
        | zero => intro i7_2 i7_1 bi7_2 hm; exact absurd hm (Nat.not_lt_zero _)
        | succ fu ih =>
          have ih7 := ih
          clear ih
          intro i7_2 i7_1 bi7_2 hm7 H locs ls h hl
          refine lv_iload_n hx hb dX11_otherwise_22 rfl (lv_at hl 0 rfl) ?_
          refine lv_aload_n hx hb dX11_otherwise_23 rfl (lv_at hl 2 rfl) ?_
          refine x_getI E h (fi_vh_shownRows g) rfl hwX11 (by decide) (by decide +kernel) (v := x1) e6 dX11_otherwise_24 ?_
          refine lv_icmp_ge (tgt := 64) hx hb dX11_otherwise_27 (by decide) (fun c9 => ?_) (fun c9 => ?_)
          · skip
            refine lv_iload_n hx hb dX11_otherwise_64 rfl (lv_at hl 1 rfl) ?_
            exact x_iret E h ⟨hI5, hF5⟩ dX11_otherwise_65
          · skip
            refine lv_iload_n hx hb dX11_otherwise_30 rfl (lv_at hl 0 rfl) ?_
            refine lv_aload_n hx hb dX11_otherwise_31 rfl (lv_at hl 2 rfl) ?_
            refine x_getR E h (fr_vh_book g) rfl hwX11 (by decide) (by decide +kernel) dX11_otherwise_32 ?_
            refine x_getIN E h (fi_bk_rows g) rfl hwX7 (by decide) (by decide +kernel) (v := nI n8) e8 dX11_otherwise_35 ?_
            refine lv_icmp_ge (tgt := 64) hx hb dX11_otherwise_38 (by decide) (fun c12 => ?_) (fun c12 => ?_)
            · skip
              have b13 : n8 ≤ i7_2 := y_le (a := n8) (b := i7_2) (by omega) (by omega) c12
              refine lv_iload_n hx hb dX11_otherwise_64 rfl (lv_at hl 1 rfl) ?_
              exact x_iret E h ⟨hI5, hF5⟩ dX11_otherwise_65
            · skip
              have b14 : i7_2 < n8 := y_nle (a := n8) (b := i7_2) (by omega) (by omega) c12
              refine lv_aload_n hx hb dX11_otherwise_41 rfl (lv_at hl 2 rfl) ?_
              refine lv_iload_n hx hb dX11_otherwise_42 rfl (lv_at hl 0 rfl) ?_
              refine x_vi E h (na := 1) (As := [.int (nI i7_2)]) (aX11_heapOfRow_0 l g s5 hI5 i7_2 (by omega)) (oc_vh g) rfl gX11_otherwise_X11_heapOfRow rfl ⟨rfl, rfl⟩ rfl (by decide +kernel) ⟨Nat.le_of_ble_eq_true rfl, Nat.le_of_ble_eq_true rfl⟩ hl.1 rfl (Nat.le_of_ble_eq_true rfl) dX11_otherwise_43 ⟨Nat.le_of_ble_eq_true rfl, Nat.le_of_ble_eq_true rfl⟩ (fun r15 s15 H locs q15 h => ?_)
              subst q15
              refine lv_aload_n hx hb dX11_otherwise_46 rfl (lv_at hl 2 rfl) ?_
              refine x_getR E h (fr_vh_shownHeap g) rfl hwX11 (by decide) (by decide +kernel) dX11_otherwise_47 ?_
              refine lv_iload_n hx hb dX11_otherwise_50 rfl (lv_at hl 0 rfl) ?_
              refine x_ldI E h (ia_vh_shownHeap g) (i := nI i7_2) (vp_in_nI (by omega) (by decide)) (v := s5.2.2 65 i7_2) (congrArg (s5.2.2 65) (nI_clamp (by omega))) dX11_otherwise_51 ?_
              have j58_18 : ∀ (y18_l1 : Int32), ∀ (H : Heap) (locs : List Loc) (ls : Array Slot), HW g s5 s H locs → lv_has ls 3 [(2, .int (nI i7_2)), (1, .int y18_l1), (0, .ref (g.2.1 0))] → W p l e { frames := 16, cells := 0, slots := 0, locals := 420 } s m args below meth c H locs 0 0 (MQ below (XQi g (fun r σ' => INV σ' ∧ Fr [(3, 12), (14, 18), (22, 23)] [(8, 19), (21, 29), (31, 41), (43, 47)] σ σ')) args s 0 0 (Aw g)) (F0 m 58 ls []) := by
                intro y18_l1 H locs ls h hl
                refine lv_iinc (v := (nI (i7_2 + 1))) (lv' := [(2, .int (nI (i7_2 + 1))), (1, .int y18_l1), (0, .ref (g.2.1 0))]) hx hb dX11_otherwise_58 hl (k := 0) rfl (nI_add i7_2 1) (by decide) rfl (fun ls hl => ?_)
                refine lv_goto (tgt := 22) hx hb dX11_otherwise_61 (by decide) ?_
                exact ih7 (i7_2 + 1) y18_l1 (by omega) (by omega) _ _ _ h (lv_sub hl [0, 1, 2] rfl)
              refine lv_icmp_eq (tgt := 58) hx hb dX11_otherwise_52 (by decide) (fun c16 => ?_) (fun c16 => ?_)
              · skip
                exact j58_18 i7_1 _ _ _ h (lv_sub hl [0, 1, 2] rfl)
              · skip
                obtain ⟨z20, e20⟩ : ∃ y : Int32, y = i7_1 + 1 := ⟨_, rfl⟩
                refine lv_iinc (v := z20) (lv' := [(1, .int z20), (2, .int (nI i7_2)), (0, .ref (g.2.1 0))]) hx hb dX11_otherwise_55 hl (k := 1) rfl e20.symm (by decide) rfl (fun ls hl => ?_)
                exact j58_18 z20 _ _ _ h (lv_sub hl [1, 0, 2] rfl)
      exact loop22_7 _ 0 0 (Nat.zero_le _) (Nat.lt_succ_self _) _ _ _ h (lv_sub hl [0, 1, 2] rfl)
    · skip
      refine lv_if_ne (tgt := 18) hx hb dX11_otherwise_12 (by decide) (fun c => absurd (by decide) c) (fun _ => ?_)
      refine lv_bipush (v := (-2)) hx hb dX11_otherwise_15 (by decide) ?_
      exact x_iret E h ⟨hI5, hF5⟩ dX11_otherwise_17
set_option maxHeartbeats 4000000 in
set_option maxRecDepth 100000 in
theorem aX10_add_0 (l : Launch) (g : CX) (σ : ST) (hI : INV σ) (p1 : Int32) (p2 : Int32) : XM l g yX10_add wsX10_add { frames := 0, cells := 0, slots := 0, locals := 0 } [.ref (g.2.1 62), .int p1, .int p2] σ (XQi g (fun r σ' => INV σ' ∧ Fr [(20, 20)] [(52, 53)] σ σ')) := by
  refine x_met (own := RX10) (cc := cX10_add) (maxL := 3) (ret := (some .int)) (lv := [(0, .ref (g.2.1 62)), (1, .int p1), (2, .int p2)]) (by decide) rfl rfl (Nat.le_of_ble_eq_true rfl) rfl ?_
  intro p e s m args below meth c ls E h hl
  have hx := E.1
  have hb := E.2.1
  have hown := E.2.2.2.1
  have hts := E.2.2.2.2.1
  have hF : Fr [(20, 20)] [(52, 53)] σ σ := Fr.refl σ
  have hwX10 : ∀ w ∈ wsX100, w ∈ wsX10_add := by decide +kernel
  refine lv_aload_n hx hb dX10_add_0 rfl (lv_at hl 0 rfl) ?_
  obtain ⟨n1, b1, e1⟩ := hI.1 20 12 rfl
  refine x_getI E h (fi_wb_words g) rfl hwX10 (by decide) (by decide +kernel) (v := nI n1) e1 dX10_add_1 ?_
  refine lv_bipush (v := 12) hx hb dX10_add_4 (by decide) ?_
  refine lv_icmp_lt (tgt := 12) hx hb dX10_add_6 (by decide) (fun c2 => ?_) (fun c2 => ?_)
  · skip
    have b3 : n1 < 12 := y_lt (a := n1) (b := 12) (by omega) (by omega) c2
    refine lv_aload_n hx hb dX10_add_12 rfl (lv_at hl 0 rfl) ?_
    refine x_getR E h (fr_wb_from g) rfl hwX10 (by decide) (by decide +kernel) dX10_add_13 ?_
    refine lv_aload_n hx hb dX10_add_16 rfl (lv_at hl 0 rfl) ?_
    refine x_getI E h (fi_wb_words g) rfl hwX10 (by decide) (by decide +kernel) (v := nI n1) e1 dX10_add_17 ?_
    refine lv_iload_n hx hb dX10_add_20 rfl (lv_at hl 1 rfl) ?_
    refine y_stI E h hI hF (ia_wb_from g) (i := nI n1) (vp_in_nI (by omega) (by decide)) (j := n1) (nI_clamp (by omega)) (ba_none rfl) rfl dX10_add_21 (fun s4 H locs q4 hI4 hF4 h => ?_)
    have e5 : s4.1 20 = nI n1 := (congrArg (fun t : ST => t.1 20) q4).trans e1
    refine lv_aload_n hx hb dX10_add_22 rfl (lv_at hl 0 rfl) ?_
    refine x_getR E h (fr_wb_to g) rfl hwX10 (by decide) (by decide +kernel) dX10_add_23 ?_
    refine lv_aload_n hx hb dX10_add_26 rfl (lv_at hl 0 rfl) ?_
    refine x_getI E h (fi_wb_words g) rfl hwX10 (by decide) (by decide +kernel) (v := nI n1) e5 dX10_add_27 ?_
    refine lv_iload_n hx hb dX10_add_30 rfl (lv_at hl 2 rfl) ?_
    refine y_stI E h hI4 hF4 (ia_wb_to g) (i := nI n1) (vp_in_nI (by omega) (by decide)) (j := n1) (nI_clamp (by omega)) (ba_none rfl) rfl dX10_add_31 (fun s6 H locs q6 hI6 hF6 h => ?_)
    have e7 : s6.1 20 = nI n1 := (congrArg (fun t : ST => t.1 20) q6).trans e5
    refine lv_aload_n hx hb dX10_add_32 rfl (lv_at hl 0 rfl) ?_
    refine lv_dup hx hb dX10_add_33 rfl ?_
    refine x_getI E h (fi_wb_words g) rfl hwX10 (by decide) (by decide +kernel) (v := nI n1) e7 dX10_add_34 ?_
    refine lv_iconst (v := 1) hx hb dX10_add_37 (by decide) ?_
    refine lv_iadd hx hb dX10_add_38 ?_
    refine x_topI (v2 := nI (n1 + 1)) (nI_add n1 1) ?_
    refine y_putI E h hI6 hF6 (ty := .int) (v := nI (n1 + 1)) (fi_wb_words g) rfl hwX10 tyX10_ok nmX10 (by decide) (by decide +kernel) (by decide +kernel) (by decide +kernel) rfl rfl (ba_some rfl (Bd.mk (n := (n1 + 1)) (by omega))) rfl dX10_add_39 (fun s8 H locs q8 hI8 hF8 h => ?_)
    have e9 : s8.1 20 = nI (n1 + 1) := congrArg (fun t : ST => t.1 20) q8
    refine lv_aload_n hx hb dX10_add_42 rfl (lv_at hl 0 rfl) ?_
    refine x_getI E h (fi_wb_words g) rfl hwX10 (by decide) (by decide +kernel) (v := nI (n1 + 1)) e9 dX10_add_43 ?_
    refine lv_iconst (v := 1) hx hb dX10_add_46 (by decide) ?_
    refine lv_isub hx hb dX10_add_47 ?_
    exact x_iret E h ⟨hI8, hF8⟩ dX10_add_48
  · skip
    have b10 : 12 ≤ n1 := y_nlt (a := n1) (b := 12) (by omega) (by omega) c2
    refine lv_bipush (v := (-3)) hx hb dX10_add_9 (by decide) ?_
    exact x_iret E h ⟨hI, hF⟩ dX10_add_11
set_option maxHeartbeats 4000000 in
set_option maxRecDepth 100000 in
theorem aX11_word_0 (l : Launch) (g : CX) (σ : ST) (hI : INV σ) (p1 : Int32) (p2 : Int32) : XM l g yX11_word wsX11_word { frames := 1, cells := 0, slots := 0, locals := 22 } [.ref (g.2.1 0), .int p1, .int p2] σ (XQi g (fun r σ' => INV σ' ∧ Fr [(20, 20)] [(52, 53)] σ σ')) := by
  refine x_met (own := RX11) (cc := cX11_word) (maxL := 3) (ret := (some .int)) (lv := [(0, .ref (g.2.1 0)), (1, .int p1), (2, .int p2)]) (by decide) rfl rfl (Nat.le_of_ble_eq_true rfl) rfl ?_
  intro p e s m args below meth c ls E h hl
  have hx := E.1
  have hb := E.2.1
  have hown := E.2.2.2.1
  have hts := E.2.2.2.2.1
  have hF : Fr [(20, 20)] [(52, 53)] σ σ := Fr.refl σ
  have hwX11 : ∀ w ∈ wsX110, w ∈ wsX11_word := by decide +kernel
  refine lv_aload_n hx hb dX11_word_0 rfl (lv_at hl 0 rfl) ?_
  refine lv_iload_n hx hb dX11_word_1 rfl (lv_at hl 1 rfl) ?_
  refine lv_iload_n hx hb dX11_word_2 rfl (lv_at hl 2 rfl) ?_
  refine x_vi E h (na := 2) (As := [.int p1, .int p2]) (aX11_areRows_0 l g σ hI p1 p2) (oc_vh g) rfl gX11_word_X11_areRows rfl ⟨rfl, rfl⟩ rfl (by decide +kernel) ⟨Nat.le_of_ble_eq_true rfl, Nat.le_of_ble_eq_true rfl⟩ hl.1 rfl (Nat.le_of_ble_eq_true rfl) dX11_word_3 ⟨Nat.le_of_ble_eq_true rfl, Nat.le_of_ble_eq_true rfl⟩ (fun r1 s1 H locs q1 h => ?_)
  obtain ⟨d1, rfl⟩ := q1
  rcases d1 with ⟨rfl, m1_0f, m1_0t, m1_0R, u1_0_0, u1_0_1, u1_0_2, u1_0_3, rfl, rfl⟩ | rfl
  · skip
    refine lv_if_eq (tgt := 21) hx hb dX11_word_6 (by decide) (fun c => absurd c (by decide)) (fun _ => ?_)
    refine lv_aload_n hx hb dX11_word_9 rfl (lv_at hl 0 rfl) ?_
    refine x_getR E h (fr_vh_wordBook g) rfl hwX11 (by decide) (by decide +kernel) dX11_word_10 ?_
    refine lv_iload_n hx hb dX11_word_13 rfl (lv_at hl 1 rfl) ?_
    refine lv_iload_n hx hb dX11_word_14 rfl (lv_at hl 2 rfl) ?_
    refine x_vi E h (na := 2) (As := [.int (nI m1_0f), .int (nI m1_0t)]) (aX10_add_0 l g σ hI (nI m1_0f) (nI m1_0t)) (oc_wb g) rfl gX11_word_X10_add rfl ⟨rfl, rfl⟩ rfl (by decide +kernel) ⟨Nat.le_of_ble_eq_true rfl, Nat.le_of_ble_eq_true rfl⟩ hl.1 rfl (Nat.le_of_ble_eq_true rfl) dX11_word_15 ⟨Nat.le_of_ble_eq_true rfl, Nat.le_of_ble_eq_true rfl⟩ (fun r2 s2 H locs q2 h => ?_)
    obtain ⟨hI2, f2⟩ := q2
    have hF2 := hF.call f2 (I := [(20, 20)]) (J := [(52, 53)]) rfl rfl
    have e3 : s2.1 2 = nI m1_0R := ((f2.1 2 rfl)).trans u1_0_0
    refine lv_goto (tgt := 22) hx hb dX11_word_18 (by decide) ?_
    exact x_iret E h ⟨hI2, hF2⟩ dX11_word_22
  · skip
    refine lv_if_eq (tgt := 21) hx hb dX11_word_6 (by decide) (fun _ => ?_) (fun c => absurd (by decide) c)
    refine lv_iconst (v := (-1)) hx hb dX11_word_21 (by decide) ?_
    exact x_iret E h ⟨hI, hF⟩ dX11_word_22
set_option maxHeartbeats 4000000 in
set_option maxRecDepth 100000 in
theorem aX10_sharedRows_0 (l : Launch) (g : CX) (σ : ST) (hI : INV σ) (p2 : Nat) (p3 : Nat) (hh0 : p2 < 12) (hh1 : p3 < 48) : XM l g yX10_sharedRows wsX10_sharedRows { frames := 1, cells := 0, slots := 0, locals := 21 } [.ref (g.2.1 62), .ref (g.2.1 16), .int (nI p2), .int (nI p3)] σ (XQi g (fun r σ' => σ = σ')) := by
  refine x_met (own := RX10) (cc := cX10_sharedRows) (maxL := 6) (ret := (some .int)) (lv := [(0, .ref (g.2.1 62)), (1, .ref (g.2.1 16)), (2, .int (nI p2)), (3, .int (nI p3))]) (by decide) rfl rfl (Nat.le_of_ble_eq_true rfl) rfl ?_
  intro p e s m args below meth c ls E h hl
  have hx := E.1
  have hb := E.2.1
  have hown := E.2.2.2.1
  have hts := E.2.2.2.2.1
  have hwX10 : ∀ w ∈ wsX100, w ∈ wsX10_sharedRows := by decide +kernel
  have hwX2 : ∀ w ∈ wsX20, w ∈ wsX10_sharedRows := by decide +kernel
  refine lv_aload_n hx hb dX10_sharedRows_0 rfl (lv_at hl 0 rfl) ?_
  refine x_getR E h (fr_wb_from g) rfl hwX10 (by decide) (by decide +kernel) dX10_sharedRows_1 ?_
  refine lv_iload_n hx hb dX10_sharedRows_4 rfl (lv_at hl 2 rfl) ?_
  refine x_ldI E h (ia_wb_from g) (i := nI p2) (vp_in_nI (by omega) (by decide)) (v := σ.2.2 52 p2) (congrArg (σ.2.2 52) (nI_clamp (by omega))) dX10_sharedRows_5 ?_
  refine lv_aload_n hx hb dX10_sharedRows_6 rfl (lv_at hl 1 rfl) ?_
  refine x_getRN E h (fr_cu_first g) rfl hwX2 (by decide) (by decide +kernel) dX10_sharedRows_7 ?_
  refine lv_iload_n hx hb dX10_sharedRows_10 rfl (lv_at hl 3 rfl) ?_
  refine x_ldI E h (ia_cu_first g) (i := nI p3) (vp_in_nI (by omega) (by decide)) (v := σ.2.2 12 p3) (congrArg (σ.2.2 12) (nI_clamp (by omega))) dX10_sharedRows_11 ?_
  refine x_max E hl.1 (by decide +kernel) (by decide +kernel) (by decide +kernel) (by decide +kernel) ⟨Nat.le_of_ble_eq_true rfl, Nat.le_of_ble_eq_true rfl⟩ ⟨Nat.zero_le _, Nat.zero_le _⟩ dX10_sharedRows_12 ?_
  refine lv_topi (fun x1 e1 => ?_)
  refine lv_istore (lv' := [(4, .int x1), (0, .ref (g.2.1 62)), (1, .ref (g.2.1 16)), (2, .int (nI p2)), (3, .int (nI p3))]) hx hb dX10_sharedRows_15 hl (by decide) rfl (fun ls hl => ?_)
  refine lv_aload_n hx hb dX10_sharedRows_17 rfl (lv_at hl 1 rfl) ?_
  refine x_getR E h (fr_wb_to g) rfl hwX10 (by decide) (by decide +kernel) dX10_sharedRows_18 ?_
  refine lv_iload_n hx hb dX10_sharedRows_21 rfl (lv_at hl 3 rfl) ?_
  refine x_ldI E h (ia_wb_to g) (i := nI p2) (vp_in_nI (by omega) (by decide)) (v := σ.2.2 53 p2) (congrArg (σ.2.2 53) (nI_clamp (by omega))) dX10_sharedRows_22 ?_
  refine lv_aload_n hx hb dX10_sharedRows_23 rfl (lv_at hl 2 rfl) ?_
  refine x_getRN E h (fr_cu_first g) rfl hwX2 (by decide) (by decide +kernel) dX10_sharedRows_24 ?_
  refine lv_iload_n hx hb dX10_sharedRows_27 rfl (lv_at hl 4 rfl) ?_
  refine x_ldI E h (ia_cu_first g) (i := nI p3) (vp_in_nI (by omega) (by decide)) (v := σ.2.2 12 p3) (congrArg (σ.2.2 12) (nI_clamp (by omega))) dX10_sharedRows_28 ?_
  refine lv_aload_n hx hb dX10_sharedRows_29 rfl (lv_at hl 2 rfl) ?_
  refine x_getRN E h (fr_cu_size g) rfl hwX2 (by decide) (by decide +kernel) dX10_sharedRows_30 ?_
  refine lv_iload_n hx hb dX10_sharedRows_33 rfl (lv_at hl 4 rfl) ?_
  refine x_ldI E h (ia_cu_size g) (i := nI p3) (vp_in_nI (by omega) (by decide)) (v := σ.2.2 13 p3) (congrArg (σ.2.2 13) (nI_clamp (by omega))) dX10_sharedRows_34 ?_
  refine lv_iadd hx hb dX10_sharedRows_35 ?_
  refine lv_topi (fun x2 e2 => ?_)
  refine lv_iconst (v := 1) hx hb dX10_sharedRows_36 (by decide) ?_
  refine lv_isub hx hb dX10_sharedRows_37 ?_
  refine lv_topi (fun x3 e3 => ?_)
  refine x_min E hl.1 (by decide +kernel) (by decide +kernel) (by decide +kernel) (by decide +kernel) ⟨Nat.le_of_ble_eq_true rfl, Nat.le_of_ble_eq_true rfl⟩ ⟨Nat.zero_le _, Nat.zero_le _⟩ dX10_sharedRows_38 ?_
  refine lv_topi (fun x4 e4 => ?_)
  refine lv_istore (lv' := [(5, .int x4), (4, .int x1), (0, .ref (g.2.1 62)), (1, .ref (g.2.1 16)), (2, .int (nI p2)), (3, .int (nI p3))]) hx hb dX10_sharedRows_41 hl (by decide) rfl (fun ls hl => ?_)
  refine lv_iconst (v := 0) hx hb dX10_sharedRows_43 (by decide) ?_
  refine lv_iload hx hb dX10_sharedRows_44 (lv_at hl 0 rfl) ?_
  refine lv_iload hx hb dX10_sharedRows_46 (lv_at hl 1 rfl) ?_
  refine lv_isub hx hb dX10_sharedRows_48 ?_
  refine lv_topi (fun x5 e5 => ?_)
  refine lv_iconst (v := 1) hx hb dX10_sharedRows_49 (by decide) ?_
  refine lv_iadd hx hb dX10_sharedRows_50 ?_
  refine lv_topi (fun x6 e6 => ?_)
  refine x_max E hl.1 (by decide +kernel) (by decide +kernel) (by decide +kernel) (by decide +kernel) ⟨Nat.le_of_ble_eq_true rfl, Nat.le_of_ble_eq_true rfl⟩ ⟨Nat.zero_le _, Nat.zero_le _⟩ dX10_sharedRows_51 ?_
  refine lv_topi (fun x7 e7 => ?_)
  exact x_iret E h rfl dX10_sharedRows_54
set_option maxHeartbeats 4000000 in
set_option maxRecDepth 100000 in
theorem aX10_piecesWithSome_0 (l : Launch) (g : CX) (σ : ST) (hI : INV σ) (p2 : Nat) (hh0 : p2 < 12) : XM l g yX10_piecesWithSome wsX10_piecesWithSome { frames := 2, cells := 0, slots := 0, locals := 46 } [.ref (g.2.1 62), .ref (g.2.1 16), .int (nI p2)] σ (XQi g (fun r σ' => σ = σ')) := by
  refine x_met (own := RX10) (cc := cX10_piecesWithSome) (maxL := 5) (ret := (some .int)) (lv := [(0, .ref (g.2.1 62)), (1, .ref (g.2.1 16)), (2, .int (nI p2))]) (by decide) rfl rfl (Nat.le_of_ble_eq_true rfl) rfl ?_
  intro p e s m args below meth c ls E h hl
  have hx := E.1
  have hb := E.2.1
  have hown := E.2.2.2.1
  have hts := E.2.2.2.2.1
  have hwX2 : ∀ w ∈ wsX20, w ∈ wsX10_piecesWithSome := by decide +kernel
  refine lv_iconst (v := 0) hx hb dX10_piecesWithSome_0 (by decide) ?_
  refine lv_istore_n (lv' := [(3, .int 0), (0, .ref (g.2.1 62)), (1, .ref (g.2.1 16)), (2, .int (nI p2))]) hx hb dX10_piecesWithSome_1 rfl hl (by decide) rfl (fun ls hl => ?_)
  refine lv_iconst (v := 0) hx hb dX10_piecesWithSome_2 (by decide) ?_
  refine lv_istore (lv' := [(4, .int 0), (3, .int 0), (0, .ref (g.2.1 62)), (1, .ref (g.2.1 16)), (2, .int (nI p2))]) hx hb dX10_piecesWithSome_3 hl (by decide) rfl (fun ls hl => ?_)
  obtain ⟨n2, b2, e2⟩ := hI.1 5 48 rfl
  have loop5_1 : ∀ (fu : Nat) (i1_4 : Nat) (i1_3 : Int32), i1_4 ≤ n2 → n2 - i1_4 < fu → ∀ (H : Heap) (locs : List Loc) (ls : Array Slot), HW g σ s H locs → lv_has ls 5 [(4, .int (nI i1_4)), (3, .int i1_3), (0, .ref (g.2.1 62)), (1, .ref (g.2.1 16)), (2, .int (nI p2))] → W p l e { frames := 2, cells := 0, slots := 0, locals := 46 } s m args below meth c H locs 0 0 (MQ below (XQi g (fun r σ' => σ = σ')) args s 0 0 (Aw g)) (F0 m 5 ls []) := by
    intro fu
    induction fu with
    | zero => intro i1_4 i1_3 bi1_4 hm; exact absurd hm (Nat.not_lt_zero _)
    | succ fu ih =>
      have ih1 := ih
      clear ih
      intro i1_4 i1_3 bi1_4 hm1 H locs ls h hl
      refine lv_iload hx hb dX10_piecesWithSome_5 (lv_at hl 0 rfl) ?_
      refine lv_aload_n hx hb dX10_piecesWithSome_7 rfl (lv_at hl 3 rfl) ?_
      refine x_getIN E h (fi_cu_pieces g) rfl hwX2 (by decide) (by decide +kernel) (v := nI n2) e2 dX10_piecesWithSome_8 ?_
      refine lv_icmp_ge (tgt := 39) hx hb dX10_piecesWithSome_11 (by decide) (fun c3 => ?_) (fun c3 => ?_)
      · skip
        have b4 : n2 ≤ i1_4 := y_le (a := n2) (b := i1_4) (by omega) (by omega) c3
        refine lv_iload_n hx hb dX10_piecesWithSome_39 rfl (lv_at hl 1 rfl) ?_
        exact x_iret E h rfl dX10_piecesWithSome_40
      · skip
        have b5 : i1_4 < n2 := y_nle (a := n2) (b := i1_4) (by omega) (by omega) c3
        refine lv_iload_n hx hb dX10_piecesWithSome_14 rfl (lv_at hl 1 rfl) ?_
        refine lv_aload_n hx hb dX10_piecesWithSome_15 rfl (lv_at hl 2 rfl) ?_
        refine lv_aload_n hx hb dX10_piecesWithSome_16 rfl (lv_at hl 3 rfl) ?_
        refine lv_iload_n hx hb dX10_piecesWithSome_17 rfl (lv_at hl 4 rfl) ?_
        refine lv_iload hx hb dX10_piecesWithSome_18 (lv_at hl 0 rfl) ?_
        refine x_vi E h (na := 3) (As := [.ref (g.2.1 16), .int (nI p2), .int (nI i1_4)]) (aX10_sharedRows_0 l g σ hI p2 i1_4 (by omega) (by omega)) (oc_wb g) rfl gX10_piecesWithSome_X10_sharedRows rfl ⟨rfl, rfl⟩ rfl (by decide +kernel) ⟨Nat.le_of_ble_eq_true rfl, Nat.le_of_ble_eq_true rfl⟩ hl.1 rfl (Nat.le_of_ble_eq_true rfl) dX10_piecesWithSome_20 ⟨Nat.le_of_ble_eq_true rfl, Nat.le_of_ble_eq_true rfl⟩ (fun r6 s6 H locs q6 h => ?_)
        subst q6
        have j31_9 : ∀ (y9_s0 : Int32), ∀ (H : Heap) (locs : List Loc) (ls : Array Slot), HW g σ s H locs → lv_has ls 5 [(4, .int (nI i1_4)), (3, .int i1_3), (0, .ref (g.2.1 62)), (1, .ref (g.2.1 16)), (2, .int (nI p2))] → W p l e { frames := 2, cells := 0, slots := 0, locals := 46 } s m args below meth c H locs 0 0 (MQ below (XQi g (fun r σ' => σ = σ')) args s 0 0 (Aw g)) (F0 m 31 ls [.int y9_s0, .int i1_3]) := by
          intro y9_s0 H locs ls h hl
          refine lv_iadd hx hb dX10_piecesWithSome_31 ?_
          refine lv_topi (fun x10 e10 => ?_)
          refine lv_istore_n (lv' := [(3, .int x10), (4, .int (nI i1_4)), (0, .ref (g.2.1 62)), (1, .ref (g.2.1 16)), (2, .int (nI p2))]) hx hb dX10_piecesWithSome_32 rfl hl (by decide) rfl (fun ls hl => ?_)
          refine lv_iinc (v := (nI (i1_4 + 1))) (lv' := [(4, .int (nI (i1_4 + 1))), (3, .int x10), (0, .ref (g.2.1 62)), (1, .ref (g.2.1 16)), (2, .int (nI p2))]) hx hb dX10_piecesWithSome_33 hl (k := 1) rfl (nI_add i1_4 1) (by decide) rfl (fun ls hl => ?_)
          refine lv_goto (tgt := 5) hx hb dX10_piecesWithSome_36 (by decide) ?_
          exact ih1 (i1_4 + 1) x10 (by omega) (by omega) _ _ _ h (lv_sub hl [0, 1, 2, 3, 4] rfl)
        refine lv_if_le (tgt := 30) hx hb dX10_piecesWithSome_23 (by decide) (fun c7 => ?_) (fun c7 => ?_)
        · skip
          refine lv_iconst (v := 0) hx hb dX10_piecesWithSome_30 (by decide) ?_
          exact j31_9 0 _ _ _ h (lv_sub hl [0, 1, 2, 3, 4] rfl)
        · skip
          refine lv_iconst (v := 1) hx hb dX10_piecesWithSome_26 (by decide) ?_
          refine lv_goto (tgt := 31) hx hb dX10_piecesWithSome_27 (by decide) ?_
          exact j31_9 1 _ _ _ h (lv_sub hl [0, 1, 2, 3, 4] rfl)
  exact loop5_1 _ 0 0 (Nat.zero_le _) (Nat.lt_succ_self _) _ _ _ h (lv_sub hl [0, 1, 2, 3, 4] rfl)
set_option maxHeartbeats 4000000 in
set_option maxRecDepth 100000 in
theorem aX10_pieceWithMost_0 (l : Launch) (g : CX) (σ : ST) (hI : INV σ) (p2 : Nat) (hh0 : p2 < 12) : XM l g yX10_pieceWithMost wsX10_pieceWithMost { frames := 2, cells := 0, slots := 0, locals := 46 } [.ref (g.2.1 62), .ref (g.2.1 16), .int (nI p2)] σ (XQi g (fun r σ' => σ = σ')) := by
  refine x_met (own := RX10) (cc := cX10_pieceWithMost) (maxL := 7) (ret := (some .int)) (lv := [(0, .ref (g.2.1 62)), (1, .ref (g.2.1 16)), (2, .int (nI p2))]) (by decide) rfl rfl (Nat.le_of_ble_eq_true rfl) rfl ?_
  intro p e s m args below meth c ls E h hl
  have hx := E.1
  have hb := E.2.1
  have hown := E.2.2.2.1
  have hts := E.2.2.2.2.1
  have hwX2 : ∀ w ∈ wsX20, w ∈ wsX10_pieceWithMost := by decide +kernel
  refine lv_bipush (v := (-9)) hx hb dX10_pieceWithMost_0 (by decide) ?_
  refine lv_istore_n (lv' := [(3, .int (-9)), (0, .ref (g.2.1 62)), (1, .ref (g.2.1 16)), (2, .int (nI p2))]) hx hb dX10_pieceWithMost_2 rfl hl (by decide) rfl (fun ls hl => ?_)
  refine lv_iconst (v := 0) hx hb dX10_pieceWithMost_3 (by decide) ?_
  refine lv_istore (lv' := [(4, .int 0), (3, .int (-9)), (0, .ref (g.2.1 62)), (1, .ref (g.2.1 16)), (2, .int (nI p2))]) hx hb dX10_pieceWithMost_4 hl (by decide) rfl (fun ls hl => ?_)
  refine lv_iconst (v := 0) hx hb dX10_pieceWithMost_6 (by decide) ?_
  refine lv_istore (lv' := [(5, .int 0), (4, .int 0), (3, .int (-9)), (0, .ref (g.2.1 62)), (1, .ref (g.2.1 16)), (2, .int (nI p2))]) hx hb dX10_pieceWithMost_7 hl (by decide) rfl (fun ls hl => ?_)
  obtain ⟨n2, b2, e2⟩ := hI.1 5 48 rfl
  have loop9_1 : ∀ (fu : Nat) (i1_5 : Nat) (i1_4 : Int32) (i1_3 : Int32), i1_5 ≤ n2 → n2 - i1_5 < fu → ∀ (H : Heap) (locs : List Loc) (ls : Array Slot), HW g σ s H locs → lv_has ls 7 [(5, .int (nI i1_5)), (4, .int i1_4), (3, .int i1_3), (0, .ref (g.2.1 62)), (1, .ref (g.2.1 16)), (2, .int (nI p2))] → W p l e { frames := 2, cells := 0, slots := 0, locals := 46 } s m args below meth c H locs 0 0 (MQ below (XQi g (fun r σ' => σ = σ')) args s 0 0 (Aw g)) (F0 m 9 ls []) := by
    intro fu
    induction fu with
    | zero => intro i1_5 i1_4 i1_3 bi1_5 hm; exact absurd hm (Nat.not_lt_zero _)
    | succ fu ih =>
      have ih1 := ih
      clear ih
      intro i1_5 i1_4 i1_3 bi1_5 hm1 H locs ls h hl
      refine lv_iload hx hb dX10_pieceWithMost_9 (lv_at hl 0 rfl) ?_
      refine lv_aload_n hx hb dX10_pieceWithMost_11 rfl (lv_at hl 4 rfl) ?_
      refine x_getIN E h (fi_cu_pieces g) rfl hwX2 (by decide) (by decide +kernel) (v := nI n2) e2 dX10_pieceWithMost_12 ?_
      refine lv_icmp_ge (tgt := 48) hx hb dX10_pieceWithMost_15 (by decide) (fun c3 => ?_) (fun c3 => ?_)
      · skip
        have b4 : n2 ≤ i1_5 := y_le (a := n2) (b := i1_5) (by omega) (by omega) c3
        refine lv_iload_n hx hb dX10_pieceWithMost_48 rfl (lv_at hl 2 rfl) ?_
        exact x_iret E h rfl dX10_pieceWithMost_49
      · skip
        have b5 : i1_5 < n2 := y_nle (a := n2) (b := i1_5) (by omega) (by omega) c3
        refine lv_aload_n hx hb dX10_pieceWithMost_18 rfl (lv_at hl 3 rfl) ?_
        refine lv_aload_n hx hb dX10_pieceWithMost_19 rfl (lv_at hl 4 rfl) ?_
        refine lv_iload_n hx hb dX10_pieceWithMost_20 rfl (lv_at hl 5 rfl) ?_
        refine lv_iload hx hb dX10_pieceWithMost_21 (lv_at hl 0 rfl) ?_
        refine x_vi E h (na := 3) (As := [.ref (g.2.1 16), .int (nI p2), .int (nI i1_5)]) (aX10_sharedRows_0 l g σ hI p2 i1_5 (by omega) (by omega)) (oc_wb g) rfl gX10_pieceWithMost_X10_sharedRows rfl ⟨rfl, rfl⟩ rfl (by decide +kernel) ⟨Nat.le_of_ble_eq_true rfl, Nat.le_of_ble_eq_true rfl⟩ hl.1 rfl (Nat.le_of_ble_eq_true rfl) dX10_pieceWithMost_23 ⟨Nat.le_of_ble_eq_true rfl, Nat.le_of_ble_eq_true rfl⟩ (fun r6 s6 H locs q6 h => ?_)
        subst q6
        refine lv_istore (lv' := [(6, .int r6), (5, .int (nI i1_5)), (4, .int i1_4), (3, .int i1_3), (0, .ref (g.2.1 62)), (1, .ref (g.2.1 16)), (2, .int (nI p2))]) hx hb dX10_pieceWithMost_26 hl (by decide) rfl (fun ls hl => ?_)
        refine lv_iload hx hb dX10_pieceWithMost_28 (lv_at hl 0 rfl) ?_
        refine lv_iload hx hb dX10_pieceWithMost_30 (lv_at hl 2 rfl) ?_
        have j42_9 : ∀ (y9_l4 : Int32) (y9_l3 : Int32), ∀ (H : Heap) (locs : List Loc) (ls : Array Slot), HW g σ s H locs → lv_has ls 7 [(6, .int r6), (5, .int (nI i1_5)), (4, .int y9_l4), (3, .int y9_l3), (0, .ref (g.2.1 62)), (1, .ref (g.2.1 16)), (2, .int (nI p2))] → W p l e { frames := 2, cells := 0, slots := 0, locals := 46 } s m args below meth c H locs 0 0 (MQ below (XQi g (fun r σ' => σ = σ')) args s 0 0 (Aw g)) (F0 m 42 ls []) := by
          intro y9_l4 y9_l3 H locs ls h hl
          refine lv_iinc (v := (nI (i1_5 + 1))) (lv' := [(5, .int (nI (i1_5 + 1))), (6, .int r6), (4, .int y9_l4), (3, .int y9_l3), (0, .ref (g.2.1 62)), (1, .ref (g.2.1 16)), (2, .int (nI p2))]) hx hb dX10_pieceWithMost_42 hl (k := 1) rfl (nI_add i1_5 1) (by decide) rfl (fun ls hl => ?_)
          refine lv_goto (tgt := 9) hx hb dX10_pieceWithMost_45 (by decide) ?_
          exact ih1 (i1_5 + 1) y9_l4 y9_l3 (by omega) (by omega) _ _ _ h (lv_sub hl [0, 2, 3, 4, 5, 6] rfl)
        refine lv_icmp_le (tgt := 42) hx hb dX10_pieceWithMost_32 (by decide) (fun c7 => ?_) (fun c7 => ?_)
        · skip
          exact j42_9 i1_4 i1_3 _ _ _ h (lv_sub hl [0, 1, 2, 3, 4, 5, 6] rfl)
        · skip
          refine lv_iload hx hb dX10_pieceWithMost_35 (lv_at hl 0 rfl) ?_
          refine lv_istore (lv' := [(4, .int r6), (6, .int r6), (5, .int (nI i1_5)), (3, .int i1_3), (0, .ref (g.2.1 62)), (1, .ref (g.2.1 16)), (2, .int (nI p2))]) hx hb dX10_pieceWithMost_37 hl (by decide) rfl (fun ls hl => ?_)
          refine lv_iload hx hb dX10_pieceWithMost_39 (lv_at hl 2 rfl) ?_
          refine lv_istore_n (lv' := [(3, .int (nI i1_5)), (4, .int r6), (6, .int r6), (5, .int (nI i1_5)), (0, .ref (g.2.1 62)), (1, .ref (g.2.1 16)), (2, .int (nI p2))]) hx hb dX10_pieceWithMost_41 rfl hl (by decide) rfl (fun ls hl => ?_)
          exact j42_9 r6 (nI i1_5) _ _ _ h (lv_sub hl [2, 3, 1, 0, 4, 5, 6] rfl)
  exact loop9_1 _ 0 0 (-9) (Nat.zero_le _) (Nat.lt_succ_self _) _ _ _ h (lv_sub hl [0, 1, 2, 3, 4, 5] rfl)
set_option maxHeartbeats 4000000 in
set_option maxRecDepth 100000 in
theorem aX11_hung_0 (l : Launch) (g : CX) (σ : ST) (hI : INV σ) (p1 : Int32) (p2 : Int32) : XM l g yX11_hung wsX11_hung { frames := 5, cells := 0, slots := 0, locals := 121 } [.ref (g.2.1 0), .int p1, .int p2] σ (XQi g (fun r σ' => INV σ' ∧ Fr [(3, 8), (22, 22)] [(8, 19)] σ σ')) := by
  refine x_met (own := RX11) (cc := cX11_hung) (maxL := 3) (ret := (some .int)) (lv := [(0, .ref (g.2.1 0)), (1, .int p1), (2, .int p2)]) (by decide) rfl rfl (Nat.le_of_ble_eq_true rfl) rfl ?_
  intro p e s m args below meth c ls E h hl
  have hx := E.1
  have hb := E.2.1
  have hown := E.2.2.2.1
  have hts := E.2.2.2.2.1
  have hF : Fr [(3, 8), (22, 22)] [(8, 19)] σ σ := Fr.refl σ
  have hwX10 : ∀ w ∈ wsX100, w ∈ wsX11_hung := by decide +kernel
  have hwX11 : ∀ w ∈ wsX110, w ∈ wsX11_hung := by decide +kernel
  refine lv_iload_n hx hb dX11_hung_0 rfl (lv_at hl 1 rfl) ?_
  refine lv_iconst (v := 0) hx hb dX11_hung_1 (by decide) ?_
  refine lv_aload_n hx hb dX11_hung_2 rfl (lv_at hl 0 rfl) ?_
  refine x_getR E h (fr_vh_wordBook g) rfl hwX11 (by decide) (by decide +kernel) dX11_hung_3 ?_
  obtain ⟨n1, b1, e1⟩ := hI.1 20 12 rfl
  refine x_getIN E h (fi_wb_words g) rfl hwX10 (by decide) (by decide +kernel) (v := nI n1) e1 dX11_hung_6 ?_
  refine lv_iconst (v := 1) hx hb dX11_hung_9 (by decide) ?_
  refine lv_isub hx hb dX11_hung_10 ?_
  refine x_si E h (na := 3) (As := [.int p1, .int 0, .int (nI n1 - 1)]) (aX11_within_0 l g σ hI p1 0 (nI n1 - 1)) gX11_hung_X11_within rfl ⟨rfl, rfl⟩ rfl (by decide +kernel) ⟨Nat.le_of_ble_eq_true rfl, Nat.le_of_ble_eq_true rfl⟩ hl.1 rfl (Nat.le_of_ble_eq_true rfl) dX11_hung_11 ⟨Nat.le_of_ble_eq_true rfl, Nat.le_of_ble_eq_true rfl⟩ (fun r2 s2 H locs q2 h => ?_)
  obtain ⟨d2, rfl⟩ := q2
  rcases d2 with ⟨rfl, u2_0_0, u2_0_1⟩ | ⟨rfl, u2_1_0⟩
  · skip
    obtain ⟨n3, b3, rfl⟩ := y_rnltM (N := n1) (y_lo1 u2_0_0 (by decide)) u2_0_1 (by omega)
    have b4 : 0 ≤ n3 := y_nlt (a := n3) (b := 0) (by omega) (by omega) u2_0_0
    refine lv_if_eq (tgt := 26) hx hb dX11_hung_14 (by decide) (fun c => absurd c (by decide)) (fun _ => ?_)
    refine lv_iload_n hx hb dX11_hung_17 rfl (lv_at hl 2 rfl) ?_
    refine lv_iconst (v := 0) hx hb dX11_hung_18 (by decide) ?_
    refine lv_iconst (v := 1) hx hb dX11_hung_19 (by decide) ?_
    refine x_si E h (na := 3) (As := [.int p2, .int 0, .int 1]) (aX11_within_0 l g σ hI p2 0 1) gX11_hung_X11_within rfl ⟨rfl, rfl⟩ rfl (by decide +kernel) ⟨Nat.le_of_ble_eq_true rfl, Nat.le_of_ble_eq_true rfl⟩ hl.1 rfl (Nat.le_of_ble_eq_true rfl) dX11_hung_20 ⟨Nat.le_of_ble_eq_true rfl, Nat.le_of_ble_eq_true rfl⟩ (fun r5 s5 H locs q5 h => ?_)
    obtain ⟨d5, rfl⟩ := q5
    rcases d5 with ⟨rfl, u5_0_0, u5_0_1⟩ | ⟨rfl, u5_1_0⟩
    · skip
      obtain ⟨n6, b6, rfl⟩ := y_rnlt (N := 1) (y_lo1 u5_0_0 (by decide)) u5_0_1 (by omega)
      have b7 : 0 ≤ n6 := y_nlt (a := n6) (b := 0) (by omega) (by omega) u5_0_0
      have b8 : n6 ≤ 1 := y_nlt (a := 1) (b := n6) (by omega) (by omega) u5_0_1
      refine lv_if_ne (tgt := 28) hx hb dX11_hung_23 (by decide) (fun _ => ?_) (fun c => absurd c (by decide))
      refine lv_aload_n hx hb dX11_hung_28 rfl (lv_at hl 0 rfl) ?_
      refine x_vv E h (na := 0) (As := []) (aX11_cutNow_0 l g σ hI) (oc_vh g) rfl gX11_hung_X11_cutNow rfl ⟨rfl, rfl⟩ rfl (by decide +kernel) ⟨Nat.le_of_ble_eq_true rfl, Nat.le_of_ble_eq_true rfl⟩ hl.1 rfl (Nat.le_of_ble_eq_true rfl) dX11_hung_29 ⟨Nat.le_of_ble_eq_true rfl, Nat.le_of_ble_eq_true rfl⟩ (fun s9 H locs q9 h => ?_)
      obtain ⟨d9, hI9, f9⟩ := q9
      have hF9 := hF.call f9 (I := [(3, 8), (22, 22)]) (J := [(8, 19)]) rfl rfl
      have e10 : s9.1 20 = nI n1 := ((f9.1 20 rfl)).trans e1
      have u9_0_0 := d9
      refine lv_iload_n hx hb dX11_hung_32 rfl (lv_at hl 2 rfl) ?_
      refine lv_if_ne (tgt := 51) hx hb dX11_hung_33 (by decide) (fun c11 => ?_) (fun c11 => ?_)
      · skip
        have b12 : ¬ n6 = 0 := y_ne (a := n6) (b := 0) (by omega) (by omega) c11
        refine lv_aload_n hx hb dX11_hung_51 rfl (lv_at hl 0 rfl) ?_
        refine x_getR E h (fr_vh_wordBook g) rfl hwX11 (by decide) (by decide +kernel) dX11_hung_52 ?_
        refine lv_aload_n hx hb dX11_hung_55 rfl (lv_at hl 0 rfl) ?_
        refine x_getR E h (fr_vh_cutting g) rfl hwX11 (by decide) (by decide +kernel) dX11_hung_56 ?_
        refine lv_iload_n hx hb dX11_hung_59 rfl (lv_at hl 1 rfl) ?_
        refine x_vi E h (na := 2) (As := [.ref (g.2.1 16), .int (nI n3)]) (aX10_piecesWithSome_0 l g s9 hI9 n3 (by omega)) (oc_wb g) rfl gX11_hung_X10_piecesWithSome rfl ⟨rfl, rfl⟩ rfl (by decide +kernel) ⟨Nat.le_of_ble_eq_true rfl, Nat.le_of_ble_eq_true rfl⟩ hl.1 rfl (Nat.le_of_ble_eq_true rfl) dX11_hung_60 ⟨Nat.le_of_ble_eq_true rfl, Nat.le_of_ble_eq_true rfl⟩ (fun r13 s13 H locs q13 h => ?_)
        subst q13
        exact x_iret E h ⟨hI9, hF9⟩ dX11_hung_63
      · skip
        have b14 : n6 = 0 := y_eq (a := n6) (b := 0) (by omega) (by omega) c11
        refine lv_aload_n hx hb dX11_hung_36 rfl (lv_at hl 0 rfl) ?_
        refine x_getR E h (fr_vh_wordBook g) rfl hwX11 (by decide) (by decide +kernel) dX11_hung_37 ?_
        refine lv_aload_n hx hb dX11_hung_40 rfl (lv_at hl 0 rfl) ?_
        refine x_getR E h (fr_vh_cutting g) rfl hwX11 (by decide) (by decide +kernel) dX11_hung_41 ?_
        refine lv_iload_n hx hb dX11_hung_44 rfl (lv_at hl 1 rfl) ?_
        refine x_vi E h (na := 2) (As := [.ref (g.2.1 16), .int (nI n3)]) (aX10_pieceWithMost_0 l g s9 hI9 n3 (by omega)) (oc_wb g) rfl gX11_hung_X10_pieceWithMost rfl ⟨rfl, rfl⟩ rfl (by decide +kernel) ⟨Nat.le_of_ble_eq_true rfl, Nat.le_of_ble_eq_true rfl⟩ hl.1 rfl (Nat.le_of_ble_eq_true rfl) dX11_hung_45 ⟨Nat.le_of_ble_eq_true rfl, Nat.le_of_ble_eq_true rfl⟩ (fun r15 s15 H locs q15 h => ?_)
        subst q15
        refine lv_goto (tgt := 63) hx hb dX11_hung_48 (by decide) ?_
        exact x_iret E h ⟨hI9, hF9⟩ dX11_hung_63
    · skip
      refine lv_if_ne (tgt := 28) hx hb dX11_hung_23 (by decide) (fun c => absurd (by decide) c) (fun _ => ?_)
      refine lv_iconst (v := (-1)) hx hb dX11_hung_26 (by decide) ?_
      exact x_iret E h ⟨hI, hF⟩ dX11_hung_27
  · skip
    refine lv_if_eq (tgt := 26) hx hb dX11_hung_14 (by decide) (fun _ => ?_) (fun c => absurd (by decide) c)
    refine lv_iconst (v := (-1)) hx hb dX11_hung_26 (by decide) ?_
    exact x_iret E h ⟨hI, hF⟩ dX11_hung_27
set_option maxHeartbeats 4000000 in
set_option maxRecDepth 100000 in
theorem aX7_setTruth_0 (l : Launch) (g : CX) (σ : ST) (hI : INV σ) (p1 : Nat) (p2 : Nat) (p3 : Int32) (hh0 : p1 ≤ p2) (hh1 : p2 < 48) : XM l g yX7_setTruth wsX7_setTruth { frames := 1, cells := 0, slots := 0, locals := 21 } [.ref (g.2.1 5), .int (nI p1), .int (nI p2), .int p3] σ (XQi g (fun r σ' => INV σ' ∧ Fr [] [(6, 6)] σ σ')) := by
  refine x_met (own := RX7) (cc := cX7_setTruth) (maxL := 6) (ret := (some .int)) (lv := [(0, .ref (g.2.1 5)), (1, .int (nI p1)), (2, .int (nI p2)), (3, .int p3)]) (by decide) rfl rfl (Nat.le_of_ble_eq_true rfl) rfl ?_
  intro p e s m args below meth c ls E h hl
  have hx := E.1
  have hb := E.2.1
  have hown := E.2.2.2.1
  have hts := E.2.2.2.2.1
  have hF : Fr [] [(6, 6)] σ σ := Fr.refl σ
  have hwX7 : ∀ w ∈ wsX70, w ∈ wsX7_setTruth := by decide +kernel
  refine lv_iconst (v := 0) hx hb dX7_setTruth_0 (by decide) ?_
  refine lv_istore (lv' := [(4, .int 0), (0, .ref (g.2.1 5)), (1, .int (nI p1)), (2, .int (nI p2)), (3, .int p3)]) hx hb dX7_setTruth_1 hl (by decide) rfl (fun ls hl => ?_)
  refine lv_iload_n hx hb dX7_setTruth_3 rfl (lv_at hl 2 rfl) ?_
  refine lv_iconst (v := 0) hx hb dX7_setTruth_4 (by decide) ?_
  refine x_max E hl.1 (by decide +kernel) (by decide +kernel) (by decide +kernel) (by decide +kernel) ⟨Nat.le_of_ble_eq_true rfl, Nat.le_of_ble_eq_true rfl⟩ ⟨Nat.zero_le _, Nat.zero_le _⟩ dX7_setTruth_5 ?_
  obtain ⟨n1, b1, e1⟩ := y_max (a := p1) (b := 0) (by omega) (by omega)
  refine x_topI (v2 := nI n1) e1 ?_
  refine lv_istore (lv' := [(5, .int (nI n1)), (4, .int 0), (0, .ref (g.2.1 5)), (1, .int (nI p1)), (2, .int (nI p2)), (3, .int p3)]) hx hb dX7_setTruth_8 hl (by decide) rfl (fun ls hl => ?_)
  have loop10_2 : ∀ (fu : Nat) (t2 : ST) (i2_5 : Nat) (i2_4 : Int32), INV t2 → Fr [] [(6, 6)] σ t2 → i2_5 ≤ 49 → 49 - i2_5 < fu → ∀ (H : Heap) (locs : List Loc) (ls : Array Slot), HW g t2 s H locs → lv_has ls 6 [(5, .int (nI i2_5)), (4, .int i2_4), (0, .ref (g.2.1 5)), (1, .int (nI p1)), (2, .int (nI p2)), (3, .int p3)] → W p l e { frames := 1, cells := 0, slots := 0, locals := 21 } s m args below meth c H locs 0 0 (MQ below (XQi g (fun r σ' => INV σ' ∧ Fr [] [(6, 6)] σ σ')) args s 0 0 (Aw g)) (F0 m 10 ls []) := by
    intro fu
    induction fu with
    | zero => intro t2 i2_5 i2_4 hI_2 hF_2 bi2_5 hm; exact absurd hm (Nat.not_lt_zero _)
    | succ fu ih =>
      have ih2 := ih
      clear ih
      intro t2 i2_5 i2_4 hI_2 hF_2 bi2_5 hm2 H locs ls h hl
      refine lv_iload hx hb dX7_setTruth_10 (lv_at hl 0 rfl) ?_
      refine lv_iload_n hx hb dX7_setTruth_12 rfl (lv_at hl 4 rfl) ?_
      refine lv_icmp_gt (tgt := 53) hx hb dX7_setTruth_13 (by decide) (fun c3 => ?_) (fun c3 => ?_)
      · skip
        have b4 : p2 < i2_5 := y_lt (a := p2) (b := i2_5) (by omega) (by omega) c3
        refine lv_iload hx hb dX7_setTruth_53 (lv_at hl 1 rfl) ?_
        exact x_iret E h ⟨hI_2, hF_2⟩ dX7_setTruth_55
      · skip
        have b5 : i2_5 ≤ p2 := y_nlt (a := p2) (b := i2_5) (by omega) (by omega) c3
        refine lv_iload hx hb dX7_setTruth_16 (lv_at hl 0 rfl) ?_
        refine lv_aload_n hx hb dX7_setTruth_18 rfl (lv_at hl 2 rfl) ?_
        obtain ⟨n6, b6, e6⟩ := hI_2.1 2 48 rfl
        refine x_getI E h (fi_bk_rows g) rfl hwX7 (by decide) (by decide +kernel) (v := nI n6) e6 dX7_setTruth_19 ?_
        refine lv_icmp_ge (tgt := 53) hx hb dX7_setTruth_22 (by decide) (fun c7 => ?_) (fun c7 => ?_)
        · skip
          have b8 : n6 ≤ i2_5 := y_le (a := n6) (b := i2_5) (by omega) (by omega) c7
          refine lv_iload hx hb dX7_setTruth_53 (lv_at hl 1 rfl) ?_
          exact x_iret E h ⟨hI_2, hF_2⟩ dX7_setTruth_55
        · skip
          have b9 : i2_5 < n6 := y_nle (a := n6) (b := i2_5) (by omega) (by omega) c7
          refine lv_aload_n hx hb dX7_setTruth_25 rfl (lv_at hl 2 rfl) ?_
          refine x_getR E h (fr_bk_truthOf g) rfl hwX7 (by decide) (by decide +kernel) dX7_setTruth_26 ?_
          refine lv_iload hx hb dX7_setTruth_29 (lv_at hl 0 rfl) ?_
          refine x_ldI E h (ia_bk_truthOf g) (i := nI i2_5) (vp_in_nI (by omega) (by decide)) (v := t2.2.2 6 i2_5) (congrArg (t2.2.2 6) (nI_clamp (by omega))) dX7_setTruth_31 ?_
          refine lv_iload_n hx hb dX7_setTruth_32 rfl (lv_at hl 5 rfl) ?_
          have j47_12 : ∀ (t12 : ST) (y12_l4 : Int32), INV t12 → Fr [] [(6, 6)] σ t12 → t12.1 2 = nI n6 → ∀ (H : Heap) (locs : List Loc) (ls : Array Slot), HW g t12 s H locs → lv_has ls 6 [(5, .int (nI i2_5)), (4, .int y12_l4), (0, .ref (g.2.1 5)), (1, .int (nI p1)), (2, .int (nI p2)), (3, .int p3)] → W p l e { frames := 1, cells := 0, slots := 0, locals := 21 } s m args below meth c H locs 0 0 (MQ below (XQi g (fun r σ' => INV σ' ∧ Fr [] [(6, 6)] σ σ')) args s 0 0 (Aw g)) (F0 m 47 ls []) := by
            intro t12 y12_l4 hI_12 hF_12 e13 H locs ls h hl
            refine lv_iinc (v := (nI (i2_5 + 1))) (lv' := [(5, .int (nI (i2_5 + 1))), (4, .int y12_l4), (0, .ref (g.2.1 5)), (1, .int (nI p1)), (2, .int (nI p2)), (3, .int p3)]) hx hb dX7_setTruth_47 hl (k := 0) rfl (nI_add i2_5 1) (by decide) rfl (fun ls hl => ?_)
            refine lv_goto (tgt := 10) hx hb dX7_setTruth_50 (by decide) ?_
            exact ih2 t12 (i2_5 + 1) y12_l4 hI_12 hF_12 (by omega) (by omega) _ _ _ h (lv_sub hl [0, 1, 2, 3, 4, 5] rfl)
          refine lv_icmp_eq (tgt := 47) hx hb dX7_setTruth_33 (by decide) (fun c10 => ?_) (fun c10 => ?_)
          · skip
            exact j47_12 t2 i2_4 hI_2 hF_2 e6 _ _ _ h (lv_sub hl [0, 1, 2, 3, 4, 5] rfl)
          · skip
            refine lv_aload_n hx hb dX7_setTruth_36 rfl (lv_at hl 2 rfl) ?_
            refine x_getR E h (fr_bk_truthOf g) rfl hwX7 (by decide) (by decide +kernel) dX7_setTruth_37 ?_
            refine lv_iload hx hb dX7_setTruth_40 (lv_at hl 0 rfl) ?_
            refine lv_iload_n hx hb dX7_setTruth_42 rfl (lv_at hl 5 rfl) ?_
            refine y_stI E h hI_2 hF_2 (ia_bk_truthOf g) (i := nI i2_5) (vp_in_nI (by omega) (by decide)) (j := i2_5) (nI_clamp (by omega)) (ba_none rfl) rfl dX7_setTruth_43 (fun s15 H locs q15 hI15 hF15 h => ?_)
            have e16 : s15.1 2 = nI n6 := (congrArg (fun t : ST => t.1 2) q15).trans e6
            obtain ⟨z17, e17⟩ : ∃ y : Int32, y = i2_4 + 1 := ⟨_, rfl⟩
            refine lv_iinc (v := z17) (lv' := [(4, .int z17), (5, .int (nI i2_5)), (0, .ref (g.2.1 5)), (1, .int (nI p1)), (2, .int (nI p2)), (3, .int p3)]) hx hb dX7_setTruth_44 hl (k := 1) rfl e17.symm (by decide) rfl (fun ls hl => ?_)
            exact j47_12 s15 z17 hI15 hF15 e16 _ _ _ h (lv_sub hl [1, 0, 2, 3, 4, 5] rfl)
  exact loop10_2 _ σ n1 0 hI hF (by omega) (Nat.lt_succ_self _) _ _ _ h (lv_sub hl [0, 1, 2, 3, 4, 5] rfl)
set_option maxHeartbeats 4000000 in
set_option maxRecDepth 100000 in
theorem aX11_truth_0 (l : Launch) (g : CX) (σ : ST) (hI : INV σ) (p1 : Int32) (p2 : Int32) (p3 : Int32) : XM l g yX11_truth wsX11_truth { frames := 2, cells := 0, slots := 0, locals := 46 } [.ref (g.2.1 0), .int p1, .int p2, .int p3] σ (XQi g (fun r σ' => INV σ' ∧ Fr [] [(6, 6)] σ σ')) := by
  refine x_met (own := RX11) (cc := cX11_truth) (maxL := 4) (ret := (some .int)) (lv := [(0, .ref (g.2.1 0)), (1, .int p1), (2, .int p2), (3, .int p3)]) (by decide) rfl rfl (Nat.le_of_ble_eq_true rfl) rfl ?_
  intro p e s m args below meth c ls E h hl
  have hx := E.1
  have hb := E.2.1
  have hown := E.2.2.2.1
  have hts := E.2.2.2.2.1
  have hF : Fr [] [(6, 6)] σ σ := Fr.refl σ
  have hwX11 : ∀ w ∈ wsX110, w ∈ wsX11_truth := by decide +kernel
  refine lv_aload_n hx hb dX11_truth_0 rfl (lv_at hl 0 rfl) ?_
  refine lv_iload_n hx hb dX11_truth_1 rfl (lv_at hl 1 rfl) ?_
  refine lv_iload_n hx hb dX11_truth_2 rfl (lv_at hl 2 rfl) ?_
  refine x_vi E h (na := 2) (As := [.int p1, .int p2]) (aX11_areRows_0 l g σ hI p1 p2) (oc_vh g) rfl gX11_truth_X11_areRows rfl ⟨rfl, rfl⟩ rfl (by decide +kernel) ⟨Nat.le_of_ble_eq_true rfl, Nat.le_of_ble_eq_true rfl⟩ hl.1 rfl (Nat.le_of_ble_eq_true rfl) dX11_truth_3 ⟨Nat.le_of_ble_eq_true rfl, Nat.le_of_ble_eq_true rfl⟩ (fun r1 s1 H locs q1 h => ?_)
  obtain ⟨d1, rfl⟩ := q1
  rcases d1 with ⟨rfl, m1_0f, m1_0t, m1_0R, u1_0_0, u1_0_1, u1_0_2, u1_0_3, rfl, rfl⟩ | rfl
  · skip
    refine lv_if_eq (tgt := 31) hx hb dX11_truth_6 (by decide) (fun c => absurd c (by decide)) (fun _ => ?_)
    refine lv_iload_n hx hb dX11_truth_9 rfl (lv_at hl 3 rfl) ?_
    refine lv_iconst (v := 0) hx hb dX11_truth_10 (by decide) ?_
    refine lv_iconst (v := 5) hx hb dX11_truth_11 (by decide) ?_
    refine x_si E h (na := 3) (As := [.int p3, .int 0, .int 5]) (aX11_within_0 l g σ hI p3 0 5) gX11_truth_X11_within rfl ⟨rfl, rfl⟩ rfl (by decide +kernel) ⟨Nat.le_of_ble_eq_true rfl, Nat.le_of_ble_eq_true rfl⟩ hl.1 rfl (Nat.le_of_ble_eq_true rfl) dX11_truth_12 ⟨Nat.le_of_ble_eq_true rfl, Nat.le_of_ble_eq_true rfl⟩ (fun r2 s2 H locs q2 h => ?_)
    obtain ⟨d2, rfl⟩ := q2
    rcases d2 with ⟨rfl, u2_0_0, u2_0_1⟩ | ⟨rfl, u2_1_0⟩
    · skip
      obtain ⟨n3, b3, rfl⟩ := y_rnlt (N := 5) (y_lo1 u2_0_0 (by decide)) u2_0_1 (by omega)
      have b4 : 0 ≤ n3 := y_nlt (a := n3) (b := 0) (by omega) (by omega) u2_0_0
      have b5 : n3 ≤ 5 := y_nlt (a := 5) (b := n3) (by omega) (by omega) u2_0_1
      refine lv_if_eq (tgt := 31) hx hb dX11_truth_15 (by decide) (fun c => absurd c (by decide)) (fun _ => ?_)
      refine lv_aload_n hx hb dX11_truth_18 rfl (lv_at hl 0 rfl) ?_
      refine x_getR E h (fr_vh_book g) rfl hwX11 (by decide) (by decide +kernel) dX11_truth_19 ?_
      refine lv_iload_n hx hb dX11_truth_22 rfl (lv_at hl 1 rfl) ?_
      refine lv_iload_n hx hb dX11_truth_23 rfl (lv_at hl 2 rfl) ?_
      refine lv_iload_n hx hb dX11_truth_24 rfl (lv_at hl 3 rfl) ?_
      refine x_vi E h (na := 3) (As := [.int (nI m1_0f), .int (nI m1_0t), .int (nI n3)]) (aX7_setTruth_0 l g σ hI m1_0f m1_0t (nI n3) (by omega) (by omega)) (oc_bk g) rfl gX11_truth_X7_setTruth rfl ⟨rfl, rfl⟩ rfl (by decide +kernel) ⟨Nat.le_of_ble_eq_true rfl, Nat.le_of_ble_eq_true rfl⟩ hl.1 rfl (Nat.le_of_ble_eq_true rfl) dX11_truth_25 ⟨Nat.le_of_ble_eq_true rfl, Nat.le_of_ble_eq_true rfl⟩ (fun r6 s6 H locs q6 h => ?_)
      obtain ⟨hI6, f6⟩ := q6
      have hF6 := hF.call f6 (I := []) (J := [(6, 6)]) rfl rfl
      have e7 : s6.1 2 = nI m1_0R := ((f6.1 2 rfl)).trans u1_0_0
      refine lv_goto (tgt := 32) hx hb dX11_truth_28 (by decide) ?_
      exact x_iret E h ⟨hI6, hF6⟩ dX11_truth_32
    · skip
      refine lv_if_eq (tgt := 31) hx hb dX11_truth_15 (by decide) (fun _ => ?_) (fun c => absurd (by decide) c)
      refine lv_iconst (v := (-1)) hx hb dX11_truth_31 (by decide) ?_
      exact x_iret E h ⟨hI, hF⟩ dX11_truth_32
  · skip
    refine lv_if_eq (tgt := 31) hx hb dX11_truth_6 (by decide) (fun _ => ?_) (fun c => absurd (by decide) c)
    refine lv_iconst (v := (-1)) hx hb dX11_truth_31 (by decide) ?_
    exact x_iret E h ⟨hI, hF⟩ dX11_truth_32
set_option maxHeartbeats 4000000 in
set_option maxRecDepth 100000 in
theorem aX9_countTogether_0 (l : Launch) (g : CX) (σ : ST) (hI : INV σ)  : XM l g yX9_countTogether wsX9_countTogether { frames := 1, cells := 0, slots := 0, locals := 23 } [.ref (g.2.1 65), .ref (g.2.1 5), .ref (g.2.1 16), .ref (g.2.1 48)] σ (XQi g (fun r σ' => INV σ' ∧ Fr [] [(55, 63)] σ σ')) := by
  refine x_met (own := RX9) (cc := cX9_countTogether) (maxL := 8) (ret := (some .int)) (lv := [(0, .ref (g.2.1 65)), (1, .ref (g.2.1 5)), (2, .ref (g.2.1 16)), (3, .ref (g.2.1 48))]) (by decide) rfl rfl (Nat.le_of_ble_eq_true rfl) rfl ?_
  intro p e s m args below meth c ls E h hl
  have hx := E.1
  have hb := E.2.1
  have hown := E.2.2.2.1
  have hts := E.2.2.2.2.1
  have hF : Fr [] [(55, 63)] σ σ := Fr.refl σ
  have hwX2 : ∀ w ∈ wsX20, w ∈ wsX9_countTogether := by decide +kernel
  have hwX4 : ∀ w ∈ wsX40, w ∈ wsX9_countTogether := by decide +kernel
  have hwX7 : ∀ w ∈ wsX70, w ∈ wsX9_countTogether := by decide +kernel
  have hwX9 : ∀ w ∈ wsX90, w ∈ wsX9_countTogether := by decide +kernel
  refine lv_iconst (v := 0) hx hb dX9_countTogether_0 (by decide) ?_
  refine lv_istore (lv' := [(4, .int 0), (0, .ref (g.2.1 65)), (1, .ref (g.2.1 5)), (2, .ref (g.2.1 16)), (3, .ref (g.2.1 48))]) hx hb dX9_countTogether_1 hl (by decide) rfl (fun ls hl => ?_)
  have loop3_1 : ∀ (fu : Nat) (t1 : ST) (i1_4 : Nat), INV t1 → Fr [] [(55, 63)] σ t1 → i1_4 ≤ 9 → 9 - i1_4 < fu → ∀ (H : Heap) (locs : List Loc) (ls : Array Slot), HW g t1 s H locs → lv_has ls 8 [(4, .int (nI i1_4)), (0, .ref (g.2.1 65)), (1, .ref (g.2.1 5)), (2, .ref (g.2.1 16)), (3, .ref (g.2.1 48))] → W p l e { frames := 1, cells := 0, slots := 0, locals := 23 } s m args below meth c H locs 0 0 (MQ below (XQi g (fun r σ' => INV σ' ∧ Fr [] [(55, 63)] σ σ')) args s 0 0 (Aw g)) (F0 m 3 ls []) := by
    intro fu
    induction fu with
    | zero => intro t1 i1_4 hI_1 hF_1 bi1_4 hm; exact absurd hm (Nat.not_lt_zero _)
    | succ fu ih =>
      have ih1 := ih
      clear ih
      intro t1 i1_4 hI_1 hF_1 bi1_4 hm1 H locs ls h hl
      refine lv_iload hx hb dX9_countTogether_3 (lv_at hl 0 rfl) ?_
      refine lv_bipush (v := 9) hx hb dX9_countTogether_5 (by decide) ?_
      refine lv_icmp_ge (tgt := 27) hx hb dX9_countTogether_7 (by decide) (fun c2 => ?_) (fun c2 => ?_)
      · skip
        have b3 : 9 ≤ i1_4 := y_le (a := 9) (b := i1_4) (by omega) (by omega) c2
        refine lv_iconst (v := 0) hx hb dX9_countTogether_27 (by decide) ?_
        refine lv_istore (lv' := [(4, .int 0), (0, .ref (g.2.1 65)), (1, .ref (g.2.1 5)), (2, .ref (g.2.1 16)), (3, .ref (g.2.1 48))]) hx hb dX9_countTogether_28 hl (by decide) rfl (fun ls hl => ?_)
        refine lv_iconst (v := 0) hx hb dX9_countTogether_30 (by decide) ?_
        refine lv_istore (lv' := [(5, .int 0), (4, .int 0), (0, .ref (g.2.1 65)), (1, .ref (g.2.1 5)), (2, .ref (g.2.1 16)), (3, .ref (g.2.1 48))]) hx hb dX9_countTogether_31 hl (by decide) rfl (fun ls hl => ?_)
        obtain ⟨n5, b5, e5⟩ := hI_1.1 2 48 rfl
        have loop33_4 : ∀ (fu : Nat) (t4 : ST) (i4_5 : Nat) (i4_4 : Int32), INV t4 → Fr [] [(55, 63)] σ t4 → t4.1 2 = nI n5 → i4_5 ≤ n5 → n5 - i4_5 < fu → ∀ (H : Heap) (locs : List Loc) (ls : Array Slot), HW g t4 s H locs → lv_has ls 8 [(5, .int (nI i4_5)), (4, .int i4_4), (0, .ref (g.2.1 65)), (1, .ref (g.2.1 5)), (2, .ref (g.2.1 16)), (3, .ref (g.2.1 48))] → W p l e { frames := 1, cells := 0, slots := 0, locals := 23 } s m args below meth c H locs 0 0 (MQ below (XQi g (fun r σ' => INV σ' ∧ Fr [] [(55, 63)] σ σ')) args s 0 0 (Aw g)) (F0 m 33 ls []) := by
          intro fu
          induction fu with
          | zero => intro t4 i4_5 i4_4 hI_4 hF_4 e6 bi4_5 hm; exact absurd hm (Nat.not_lt_zero _)
          | succ fu ih =>
            have ih4 := ih
            clear ih
            intro t4 i4_5 i4_4 hI_4 hF_4 e6 bi4_5 hm4 H locs ls h hl
            refine lv_iload hx hb dX9_countTogether_33 (lv_at hl 0 rfl) ?_
            refine lv_aload_n hx hb dX9_countTogether_35 rfl (lv_at hl 3 rfl) ?_
            refine x_getIN E h (fi_bk_rows g) rfl hwX7 (by decide) (by decide +kernel) (v := nI n5) e6 dX9_countTogether_36 ?_
            refine lv_icmp_ge (tgt := 113) hx hb dX9_countTogether_39 (by decide) (fun c7 => ?_) (fun c7 => ?_)
            · skip
              have b8 : n5 ≤ i4_5 := y_le (a := n5) (b := i4_5) (by omega) (by omega) c7
              refine lv_iload hx hb dX9_countTogether_113 (lv_at hl 1 rfl) ?_
              exact x_iret E h ⟨hI_4, hF_4⟩ dX9_countTogether_115
            · skip
              have b9 : i4_5 < n5 := y_nle (a := n5) (b := i4_5) (by omega) (by omega) c7
              refine lv_aload_n hx hb dX9_countTogether_42 rfl (lv_at hl 4 rfl) ?_
              refine x_getRN E h (fr_cu_pieceOf g) rfl hwX2 (by decide) (by decide +kernel) dX9_countTogether_43 ?_
              refine lv_iload hx hb dX9_countTogether_46 (lv_at hl 0 rfl) ?_
              refine x_ldI E h (ia_cu_pieceOf g) (i := nI i4_5) (vp_in_nI (by omega) (by decide)) (v := t4.2.2 17 i4_5) (congrArg (t4.2.2 17) (nI_clamp (by omega))) dX9_countTogether_48 ?_
              refine lv_topi (fun x10 e10 => ?_)
              refine lv_istore (lv' := [(6, .int x10), (5, .int (nI i4_5)), (4, .int i4_4), (0, .ref (g.2.1 65)), (1, .ref (g.2.1 5)), (2, .ref (g.2.1 16)), (3, .ref (g.2.1 48))]) hx hb dX9_countTogether_49 hl (by decide) rfl (fun ls hl => ?_)
              refine lv_aload_n hx hb dX9_countTogether_51 rfl (lv_at hl 4 rfl) ?_
              refine x_getRN E h (fr_bk_truthOf g) rfl hwX7 (by decide) (by decide +kernel) dX9_countTogether_52 ?_
              refine lv_iload hx hb dX9_countTogether_55 (lv_at hl 1 rfl) ?_
              refine x_ldI E h (ia_bk_truthOf g) (i := nI i4_5) (vp_in_nI (by omega) (by decide)) (v := t4.2.2 6 i4_5) (congrArg (t4.2.2 6) (nI_clamp (by omega))) dX9_countTogether_57 ?_
              refine lv_iconst (v := 1) hx hb dX9_countTogether_58 (by decide) ?_
              refine lv_isub hx hb dX9_countTogether_59 ?_
              refine lv_topi (fun x11 e11 => ?_)
              refine lv_istore (lv' := [(7, .int x11), (6, .int x10), (5, .int (nI i4_5)), (4, .int i4_4), (0, .ref (g.2.1 65)), (1, .ref (g.2.1 5)), (2, .ref (g.2.1 16)), (3, .ref (g.2.1 48))]) hx hb dX9_countTogether_60 hl (by decide) rfl (fun ls hl => ?_)
              refine lv_iload hx hb dX9_countTogether_62 (lv_at hl 1 rfl) ?_
              have j107_14 : ∀ (t14 : ST) (y14_l4 : Int32), INV t14 → Fr [] [(55, 63)] σ t14 → t14.1 2 = nI n5 → ∀ (H : Heap) (locs : List Loc) (ls : Array Slot), HW g t14 s H locs → lv_has ls 8 [(7, .int x11), (6, .int x10), (5, .int (nI i4_5)), (4, .int y14_l4), (0, .ref (g.2.1 65)), (1, .ref (g.2.1 5)), (2, .ref (g.2.1 16)), (3, .ref (g.2.1 48))] → W p l e { frames := 1, cells := 0, slots := 0, locals := 23 } s m args below meth c H locs 0 0 (MQ below (XQi g (fun r σ' => INV σ' ∧ Fr [] [(55, 63)] σ σ')) args s 0 0 (Aw g)) (F0 m 107 ls []) := by
                intro t14 y14_l4 hI_14 hF_14 e15 H locs ls h hl
                refine lv_iinc (v := (nI (i4_5 + 1))) (lv' := [(5, .int (nI (i4_5 + 1))), (7, .int x11), (6, .int x10), (4, .int y14_l4), (0, .ref (g.2.1 65)), (1, .ref (g.2.1 5)), (2, .ref (g.2.1 16)), (3, .ref (g.2.1 48))]) hx hb dX9_countTogether_107 hl (k := 2) rfl (nI_add i4_5 1) (by decide) rfl (fun ls hl => ?_)
                refine lv_goto (tgt := 33) hx hb dX9_countTogether_110 (by decide) ?_
                exact ih4 t14 (i4_5 + 1) y14_l4 hI_14 hF_14 e15 (by omega) (by omega) _ _ _ h (lv_sub hl [0, 3, 4, 5, 6, 7] rfl)
              refine lv_if_lt (tgt := 107) hx hb dX9_countTogether_64 (by decide) (fun c12 => ?_) (fun c12 => ?_)
              · skip
                exact j107_14 t4 i4_4 hI_4 hF_4 e6 _ _ _ h (lv_sub hl [0, 1, 2, 3, 4, 5, 6, 7] rfl)
              · skip
                refine lv_iload hx hb dX9_countTogether_67 (lv_at hl 1 rfl) ?_
                refine lv_bipush (v := 9) hx hb dX9_countTogether_69 (by decide) ?_
                refine lv_icmp_ge (tgt := 107) hx hb dX9_countTogether_71 (by decide) (fun c17 => ?_) (fun c17 => ?_)
                · skip
                  exact j107_14 t4 i4_4 hI_4 hF_4 e6 _ _ _ h (lv_sub hl [0, 1, 2, 3, 4, 5, 6, 7] rfl)
                · skip
                  obtain ⟨n20, b20, rfl⟩ := y_rnle (N := 9) (y_lo1 c12 (by decide)) c17 (by omega)
                  have b21 : 0 ≤ n20 := y_nlt (a := n20) (b := 0) (by omega) (by omega) c12
                  have b22 : n20 < 9 := y_nle (a := 9) (b := n20) (by omega) (by omega) c17
                  refine lv_iload hx hb dX9_countTogether_74 (lv_at hl 0 rfl) ?_
                  refine lv_if_lt (tgt := 107) hx hb dX9_countTogether_76 (by decide) (fun c23 => ?_) (fun c23 => ?_)
                  · skip
                    exact j107_14 t4 i4_4 hI_4 hF_4 e6 _ _ _ h (lv_sub hl [0, 1, 2, 3, 4, 5, 6, 7] rfl)
                  · skip
                    refine lv_iload hx hb dX9_countTogether_79 (lv_at hl 0 rfl) ?_
                    refine lv_iconst (v := 5) hx hb dX9_countTogether_81 (by decide) ?_
                    refine lv_icmp_ge (tgt := 107) hx hb dX9_countTogether_82 (by decide) (fun c26 => ?_) (fun c26 => ?_)
                    · skip
                      exact j107_14 t4 i4_4 hI_4 hF_4 e6 _ _ _ h (lv_sub hl [0, 1, 2, 3, 4, 5, 6, 7] rfl)
                    · skip
                      obtain ⟨n29, b29, rfl⟩ := y_rnle (N := 5) (y_lo1 c23 (by decide)) c26 (by omega)
                      have b30 : 0 ≤ n29 := y_nlt (a := n29) (b := 0) (by omega) (by omega) c23
                      have b31 : n29 < 5 := y_nle (a := 5) (b := n29) (by omega) (by omega) c26
                      refine lv_aload_n hx hb dX9_countTogether_85 rfl (lv_at hl 4 rfl) ?_
                      refine x_getR E h (fr_ve_together g) rfl hwX9 (by decide) (by decide +kernel) dX9_countTogether_86 ?_
                      refine lv_aload_n hx hb dX9_countTogether_89 rfl (lv_at hl 7 rfl) ?_
                      refine x_getRN E h (fr_be_heapOf g) rfl hwX4 (by decide) (by decide +kernel) dX9_countTogether_90 ?_
                      refine lv_iload hx hb dX9_countTogether_93 (lv_at hl 1 rfl) ?_
                      obtain ⟨n32, b32, e32⟩ := hI_4.2 41 8 rfl n20
                      refine x_ldI E h (ia_be_heapOf g) (i := nI n20) (vp_in_nI (by omega) (by decide)) (v := nI n32) ((congrArg (t4.2.2 41) (nI_clamp (by omega))).trans e32) dX9_countTogether_95 ?_
                      refine x_row E h (fg_ve_together g) (i := nI n32) (vp_in_nI (by omega) (by decide)) (kr := 67 + n32) (by rw [nI_clamp (by omega)]) dX9_countTogether_96 ?_
                      refine lv_iload hx hb dX9_countTogether_97 (lv_at hl 0 rfl) ?_
                      refine lv_dup2_11 hx hb dX9_countTogether_99 rfl rfl ?_
                      refine x_ldI E h (gi_ve_together g n32 (by omega)) (i := nI n29) (vp_in_nI (by omega) (by decide)) (v := t4.2.2 (55 + n32) n29) (congrArg (t4.2.2 (55 + n32)) (nI_clamp (by omega))) dX9_countTogether_100 ?_
                      refine lv_iconst (v := 1) hx hb dX9_countTogether_101 (by decide) ?_
                      refine lv_iadd hx hb dX9_countTogether_102 ?_
                      refine lv_topi (fun x33 e33 => ?_)
                      refine y_stI E h hI_4 hF_4 (gi_ve_together g n32 (by omega)) (i := nI n29) (vp_in_nI (by omega) (by decide)) (j := n29) (nI_clamp (by omega)) (ba_none ((gb_ve_together n32) (by omega))) (gr_ve_together n32 [(55, 63)] (by omega) rfl) dX9_countTogether_103 (fun s34 H locs q34 hI34 hF34 h => ?_)
                      have e35 : s34.1 2 = nI n5 := (congrArg (fun t : ST => t.1 2) q34).trans e6
                      obtain ⟨z36, e36⟩ : ∃ y : Int32, y = i4_4 + 1 := ⟨_, rfl⟩
                      refine lv_iinc (v := z36) (lv' := [(4, .int z36), (7, .int (nI n29)), (6, .int (nI n20)), (5, .int (nI i4_5)), (0, .ref (g.2.1 65)), (1, .ref (g.2.1 5)), (2, .ref (g.2.1 16)), (3, .ref (g.2.1 48))]) hx hb dX9_countTogether_104 hl (k := 3) rfl e36.symm (by decide) rfl (fun ls hl => ?_)
                      exact j107_14 s34 z36 hI34 hF34 e35 _ _ _ h (lv_sub hl [1, 2, 3, 0, 4, 5, 6, 7] rfl)
        exact loop33_4 _ t1 0 0 hI_1 hF_1 e5 (Nat.zero_le _) (Nat.lt_succ_self _) _ _ _ h (lv_sub hl [0, 1, 2, 3, 4, 5] rfl)
      · skip
        have b37 : i1_4 < 9 := y_nle (a := 9) (b := i1_4) (by omega) (by omega) c2
        refine lv_aload_n hx hb dX9_countTogether_10 rfl (lv_at hl 1 rfl) ?_
        refine x_getR E h (fr_ve_together g) rfl hwX9 (by decide) (by decide +kernel) dX9_countTogether_11 ?_
        refine lv_iload hx hb dX9_countTogether_14 (lv_at hl 0 rfl) ?_
        refine x_row E h (fg_ve_together g) (i := nI i1_4) (vp_in_nI (by omega) (by decide)) (kr := 67 + i1_4) (by rw [nI_clamp (by omega)]) dX9_countTogether_16 ?_
        refine lv_iconst (v := 0) hx hb dX9_countTogether_17 (by decide) ?_
        refine x_sv E h (na := 2) (As := [.ref (g.2.1 (67 + i1_4)), .int 0]) (k_fill l g _ (67 + i1_4) 5 (55 + i1_4) (gi_ve_together g i1_4 (by omega)) (by decide) 0) gX9_countTogether_J7_fill_53178 rfl ⟨rfl, rfl⟩ rfl (by decide +kernel) ⟨Nat.le_of_ble_eq_true rfl, Nat.le_of_ble_eq_true rfl⟩ hl.1 rfl (Nat.le_of_ble_eq_true rfl) dX9_countTogether_18 ⟨Nat.le_of_ble_eq_true rfl, Nat.le_of_ble_eq_true rfl⟩ (fun s38 H locs q38 h => ?_)
        have hI38 : INV s38 := by rw [← q38]; exact hI_1.fill (gb_ve_together i1_4 (by omega)) _
        have hF38 : Fr [] [(55, 63)] σ s38 := by rw [← q38]; exact hF_1.putA (gr_ve_together i1_4 [(55, 63)] (by omega) rfl)
        refine lv_iinc (v := (nI (i1_4 + 1))) (lv' := [(4, .int (nI (i1_4 + 1))), (0, .ref (g.2.1 65)), (1, .ref (g.2.1 5)), (2, .ref (g.2.1 16)), (3, .ref (g.2.1 48))]) hx hb dX9_countTogether_21 hl (k := 0) rfl (nI_add i1_4 1) (by decide) rfl (fun ls hl => ?_)
        refine lv_goto (tgt := 3) hx hb dX9_countTogether_24 (by decide) ?_
        exact ih1 s38 (i1_4 + 1) hI38 hF38 (by omega) (by omega) _ _ _ h (lv_sub hl [0, 1, 2, 3, 4] rfl)
  exact loop3_1 _ σ 0 hI hF (Nat.zero_le _) (Nat.lt_succ_self _) _ _ _ h (lv_sub hl [0, 1, 2, 3, 4] rfl)
