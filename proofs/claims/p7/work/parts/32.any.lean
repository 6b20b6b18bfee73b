set_option maxHeartbeats 4000000 in
set_option maxRecDepth 100000 in
theorem aX11_like_0 (l : Launch) (g : CX) (σ : ST) (hI : INV σ) (p1 : Int32) (p2 : Int32) : XM l g yX11_like wsX11_like { frames := 6, cells := 0, slots := 0, locals := 142 } [.ref (g.2.1 0), .int p1, .int p2] σ (XQi g (fun r σ' => INV σ' ∧ Fr [(3, 8), (22, 22)] [(8, 19)] σ σ')) := by
  refine x_met (own := RX11) (cc := cX11_like) (maxL := 3) (ret := (some .int)) (lv := [(0, .ref (g.2.1 0)), (1, .int p1), (2, .int p2)]) (by decide) rfl rfl (Nat.le_of_ble_eq_true rfl) rfl ?_
  intro p e s m args below meth c ls E h hl
  have hx := E.1
  have hb := E.2.1
  have hown := E.2.2.2.1
  have hts := E.2.2.2.2.1
  have hF : Fr [(3, 8), (22, 22)] [(8, 19)] σ σ := Fr.refl σ
  have hwX11 : ∀ w ∈ wsX110, w ∈ wsX11_like := by decide +kernel
  refine lv_aload_n hx hb dX11_like_0 rfl (lv_at hl 0 rfl) ?_
  refine lv_iload_n hx hb dX11_like_1 rfl (lv_at hl 1 rfl) ?_
  refine x_vi E h (na := 1) (As := [.int p1]) (aX11_isPiece_0 l g σ hI p1) (oc_vh g) rfl gX11_like_X11_isPiece rfl ⟨rfl, rfl⟩ rfl (by decide +kernel) ⟨Nat.le_of_ble_eq_true rfl, Nat.le_of_ble_eq_true rfl⟩ hl.1 rfl (Nat.le_of_ble_eq_true rfl) dX11_like_2 ⟨Nat.le_of_ble_eq_true rfl, Nat.le_of_ble_eq_true rfl⟩ (fun r1 s1 H locs q1 h => ?_)
  obtain ⟨d1, hI1, f1⟩ := q1
  have hF1 := hF.call f1 (I := [(3, 8), (22, 22)]) (J := [(8, 19)]) rfl rfl
  rcases d1 with ⟨rfl, m1_0n, m1_0P, u1_0_0, u1_0_1, u1_0_2, u1_0_3, rfl⟩ | rfl
  · skip
    refine lv_if_eq (tgt := 21) hx hb dX11_like_5 (by decide) (fun c => absurd c (by decide)) (fun _ => ?_)
    refine lv_aload_n hx hb dX11_like_8 rfl (lv_at hl 0 rfl) ?_
    refine lv_iload_n hx hb dX11_like_9 rfl (lv_at hl 2 rfl) ?_
    refine x_vi E h (na := 1) (As := [.int p2]) (aX11_isPiece_1 l g s1 hI1 p2 u1_0_0) (oc_vh g) rfl gX11_like_X11_isPiece rfl ⟨rfl, rfl⟩ rfl (by decide +kernel) ⟨Nat.le_of_ble_eq_true rfl, Nat.le_of_ble_eq_true rfl⟩ hl.1 rfl (Nat.le_of_ble_eq_true rfl) dX11_like_10 ⟨Nat.le_of_ble_eq_true rfl, Nat.le_of_ble_eq_true rfl⟩ (fun r2 s2 H locs q2 h => ?_)
    obtain ⟨d2, hI2, f2⟩ := q2
    have hF2 := hF1.call f2 (I := [(3, 8), (22, 22)]) (J := [(8, 19)]) rfl rfl
    have e3 : s2.1 22 = 0 := ((f2.1 22 rfl)).trans u1_0_0
    have e4 : s2.1 5 = nI m1_0P := ((f2.1 5 rfl)).trans u1_0_1
    rcases d2 with ⟨rfl, m2_0n, m2_0P, u2_0_0, u2_0_1, u2_0_2, u2_0_3, rfl⟩ | rfl
    · skip
      obtain rfl : m1_0P = m2_0P := y_eq (by omega) (by omega) ((e4).symm.trans u2_0_1)
      refine lv_if_eq (tgt := 21) hx hb dX11_like_13 (by decide) (fun c => absurd c (by decide)) (fun _ => ?_)
      refine lv_iload_n hx hb dX11_like_16 rfl (lv_at hl 1 rfl) ?_
      refine lv_iload_n hx hb dX11_like_17 rfl (lv_at hl 2 rfl) ?_
      refine lv_icmp_ne (tgt := 24) hx hb dX11_like_18 (by decide) (fun c5 => ?_) (fun c5 => ?_)
      · skip
        have b6 : ¬ m1_0n = m2_0n := y_ne (a := m1_0n) (b := m2_0n) (by omega) (by omega) c5
        refine lv_aload_n hx hb dX11_like_24 rfl (lv_at hl 0 rfl) ?_
        refine x_getR E h (fr_vh_cutting g) rfl hwX11 (by decide) (by decide +kernel) dX11_like_25 ?_
        refine lv_iload_n hx hb dX11_like_28 rfl (lv_at hl 1 rfl) ?_
        refine lv_iload_n hx hb dX11_like_29 rfl (lv_at hl 2 rfl) ?_
        refine lv_aload_n hx hb dX11_like_30 rfl (lv_at hl 0 rfl) ?_
        refine x_getR E h (fr_vh_ruleText g) rfl hwX11 (by decide) (by decide +kernel) dX11_like_31 ?_
        refine lv_iconst (v := 2) hx hb dX11_like_34 (by decide) ?_
        refine x_vi E h (na := 1) (As := [.int 2]) (aX8_ruleNow_0 l g s2 hI2 2) (oc_rt g) rfl gX11_like_X8_ruleNow rfl ⟨rfl, rfl⟩ rfl (by decide +kernel) ⟨Nat.le_of_ble_eq_true rfl, Nat.le_of_ble_eq_true rfl⟩ hl.1 rfl (Nat.le_of_ble_eq_true rfl) dX11_like_35 ⟨Nat.le_of_ble_eq_true rfl, Nat.le_of_ble_eq_true rfl⟩ (fun r7 s7 H locs q7 h => ?_)
        subst q7
        refine x_vi E h (na := 3) (As := [.int (nI m1_0n), .int (nI m2_0n), .int r7]) (aX2_likeness_0 l g s2 hI2 m1_0n m2_0n r7 (by omega) (by omega)) (oc_cu g) rfl gX11_like_X2_likeness rfl ⟨rfl, rfl⟩ rfl (by decide +kernel) ⟨Nat.le_of_ble_eq_true rfl, Nat.le_of_ble_eq_true rfl⟩ hl.1 rfl (Nat.le_of_ble_eq_true rfl) dX11_like_38 ⟨Nat.le_of_ble_eq_true rfl, Nat.le_of_ble_eq_true rfl⟩ (fun r8 s8 H locs q8 h => ?_)
        subst q8
        exact x_iret E h ⟨hI2, hF2⟩ dX11_like_41
      · skip
        have b9 : m1_0n = m2_0n := y_eq (a := m1_0n) (b := m2_0n) (by omega) (by omega) c5
        refine lv_ldc (v := (-1000000)) hx hb hown (hts (.constant RX11 185 (-1000000)) (by decide +kernel)) dX11_like_21 ?_
        exact x_iret E h ⟨hI2, hF2⟩ dX11_like_23
    · skip
      refine lv_if_eq (tgt := 21) hx hb dX11_like_13 (by decide) (fun _ => ?_) (fun c => absurd (by decide) c)
      refine lv_ldc (v := (-1000000)) hx hb hown (hts (.constant RX11 185 (-1000000)) (by decide +kernel)) dX11_like_21 ?_
      exact x_iret E h ⟨hI2, hF2⟩ dX11_like_23
  · skip
    refine lv_if_eq (tgt := 21) hx hb dX11_like_5 (by decide) (fun _ => ?_) (fun c => absurd (by decide) c)
    refine lv_ldc (v := (-1000000)) hx hb hown (hts (.constant RX11 185 (-1000000)) (by decide +kernel)) dX11_like_21 ?_
    exact x_iret E h ⟨hI1, hF1⟩ dX11_like_23
set_option maxHeartbeats 4000000 in
set_option maxRecDepth 100000 in
theorem aX1_fillGains_0 (l : Launch) (g : CX) (σ : ST) (hI : INV σ) (p1 : Nat) (hh0 : p1 < 9) : XM l g yX1_fillGains wsX1_fillGains { frames := 0, cells := 0, slots := 0, locals := 0 } [.ref (g.2.1 25), .int (nI p1)] σ (XQv g (fun σ' => INV σ' ∧ Fr [] [(40, 40)] σ σ')) := by
  refine x_met (own := RX1) (cc := cX1_fillGains) (maxL := 6) (ret := none) (lv := [(0, .ref (g.2.1 25)), (1, .int (nI p1))]) (by decide) rfl rfl (Nat.le_of_ble_eq_true rfl) rfl ?_
  intro p e s m args below meth c ls E h hl
  have hx := E.1
  have hb := E.2.1
  have hown := E.2.2.2.1
  have hts := E.2.2.2.2.1
  have hF : Fr [] [(40, 40)] σ σ := Fr.refl σ
  have hwX1 : ∀ w ∈ wsX10, w ∈ wsX1_fillGains := by decide +kernel
  refine lv_iconst (v := 1) hx hb dX1_fillGains_0 (by decide) ?_
  refine lv_iload_n hx hb dX1_fillGains_1 rfl (lv_at hl 1 rfl) ?_
  refine lv_ishl hx hb dX1_fillGains_2 ?_
  refine x_topI (v2 := nI (2 ^ p1)) (y_shl1 (by omega)) ?_
  have b1 := y_pow (p := p1) (by omega)
  refine lv_istore_n (lv' := [(2, .int (nI (2 ^ p1))), (0, .ref (g.2.1 25)), (1, .int (nI p1))]) hx hb dX1_fillGains_3 rfl hl (by decide) rfl (fun ls hl => ?_)
  refine lv_aload_n hx hb dX1_fillGains_4 rfl (lv_at hl 1 rfl) ?_
  refine x_getR E h (fr_bo_gain g) rfl hwX1 (by decide) (by decide +kernel) dX1_fillGains_5 ?_
  refine lv_iload_n hx hb dX1_fillGains_8 rfl (lv_at hl 0 rfl) ?_
  refine lv_iconst (v := 0) hx hb dX1_fillGains_9 (by decide) ?_
  refine y_stI E h hI hF (ia_bo_gain g) (i := nI (2 ^ p1)) (vp_in_nI (by omega) (by decide)) (j := (2 ^ p1)) (nI_clamp (by omega)) (ba_none rfl) rfl dX1_fillGains_10 (fun s2 H locs q2 hI2 hF2 h => ?_)
  refine lv_iconst (v := 0) hx hb dX1_fillGains_11 (by decide) ?_
  refine lv_istore_n (lv' := [(3, .int 0), (2, .int (nI (2 ^ p1))), (0, .ref (g.2.1 25)), (1, .int (nI p1))]) hx hb dX1_fillGains_12 rfl hl (by decide) rfl (fun ls hl => ?_)
  have loop13_3 : ∀ (fu : Nat) (t3 : ST) (i3_3 : Nat), INV t3 → Fr [] [(40, 40)] σ t3 → i3_3 ≤ p1 → p1 - i3_3 < fu → ∀ (H : Heap) (locs : List Loc) (ls : Array Slot), HW g t3 s H locs → lv_has ls 6 [(3, .int (nI i3_3)), (2, .int (nI (2 ^ p1))), (0, .ref (g.2.1 25)), (1, .int (nI p1))] → W p l e { frames := 0, cells := 0, slots := 0, locals := 0 } s m args below meth c H locs 0 0 (MQ below (XQv g (fun σ' => INV σ' ∧ Fr [] [(40, 40)] σ σ')) args s 0 0 (Aw g)) (F0 m 13 ls []) := by
    intro fu
    induction fu with
    | zero => intro t3 i3_3 hI_3 hF_3 bi3_3 hm; exact absurd hm (Nat.not_lt_zero _)
    | succ fu ih =>
      have ih3 := ih
      clear ih
      intro t3 i3_3 hI_3 hF_3 bi3_3 hm3 H locs ls h hl
      refine lv_iload_n hx hb dX1_fillGains_13 rfl (lv_at hl 0 rfl) ?_
      refine lv_iload_n hx hb dX1_fillGains_14 rfl (lv_at hl 3 rfl) ?_
      refine lv_icmp_ge (tgt := 75) hx hb dX1_fillGains_15 (by decide) (fun c4 => ?_) (fun c4 => ?_)
      · skip
        have b5 : p1 ≤ i3_3 := y_le (a := p1) (b := i3_3) (by omega) (by omega) c4
        exact x_vret E h ⟨hI_3, hF_3⟩ dX1_fillGains_75
      · skip
        have b6 : i3_3 < p1 := y_nle (a := p1) (b := i3_3) (by omega) (by omega) c4
        refine lv_iconst (v := 1) hx hb dX1_fillGains_18 (by decide) ?_
        refine lv_iload_n hx hb dX1_fillGains_19 rfl (lv_at hl 0 rfl) ?_
        refine lv_ishl hx hb dX1_fillGains_20 ?_
        refine x_topI (v2 := nI (2 ^ i3_3)) (y_shl1 (by omega)) ?_
        have b7 := y_pow (p := i3_3) (by omega)
        refine lv_istore (lv' := [(4, .int (nI (2 ^ i3_3))), (3, .int (nI i3_3)), (2, .int (nI (2 ^ p1))), (0, .ref (g.2.1 25)), (1, .int (nI p1))]) hx hb dX1_fillGains_21 hl (by decide) rfl (fun ls hl => ?_)
        refine lv_iconst (v := 0) hx hb dX1_fillGains_23 (by decide) ?_
        refine lv_istore (lv' := [(5, .int 0), (4, .int (nI (2 ^ i3_3))), (3, .int (nI i3_3)), (2, .int (nI (2 ^ p1))), (0, .ref (g.2.1 25)), (1, .int (nI p1))]) hx hb dX1_fillGains_24 hl (by decide) rfl (fun ls hl => ?_)
        have loop26_8 : ∀ (fu : Nat) (t8 : ST) (i8_5 : Nat), INV t8 → Fr [] [(40, 40)] σ t8 → i8_5 ≤ (2 ^ i3_3) → (2 ^ i3_3) - i8_5 < fu → ∀ (H : Heap) (locs : List Loc) (ls : Array Slot), HW g t8 s H locs → lv_has ls 6 [(5, .int (nI i8_5)), (4, .int (nI (2 ^ i3_3))), (3, .int (nI i3_3)), (2, .int (nI (2 ^ p1))), (0, .ref (g.2.1 25)), (1, .int (nI p1))] → W p l e { frames := 0, cells := 0, slots := 0, locals := 0 } s m args below meth c H locs 0 0 (MQ below (XQv g (fun σ' => INV σ' ∧ Fr [] [(40, 40)] σ σ')) args s 0 0 (Aw g)) (F0 m 26 ls []) := by
          intro fu
          induction fu with
          | zero => intro t8 i8_5 hI_8 hF_8 bi8_5 hm; exact absurd hm (Nat.not_lt_zero _)
          | succ fu ih =>
            have ih8 := ih
            clear ih
            intro t8 i8_5 hI_8 hF_8 bi8_5 hm8 H locs ls h hl
            refine lv_iload hx hb dX1_fillGains_26 (lv_at hl 0 rfl) ?_
            refine lv_iload hx hb dX1_fillGains_28 (lv_at hl 1 rfl) ?_
            refine lv_icmp_ge (tgt := 69) hx hb dX1_fillGains_30 (by decide) (fun c9 => ?_) (fun c9 => ?_)
            · skip
              have b10 : (2 ^ i3_3) ≤ i8_5 := y_le (a := (2 ^ i3_3)) (b := i8_5) (by omega) (by omega) c9
              refine lv_iinc (v := (nI (i3_3 + 1))) (lv' := [(3, .int (nI (i3_3 + 1))), (5, .int (nI i8_5)), (4, .int (nI (2 ^ i3_3))), (2, .int (nI (2 ^ p1))), (0, .ref (g.2.1 25)), (1, .int (nI p1))]) hx hb dX1_fillGains_69 hl (k := 2) rfl (nI_add i3_3 1) (by decide) rfl (fun ls hl => ?_)
              refine lv_goto (tgt := 13) hx hb dX1_fillGains_72 (by decide) ?_
              exact ih3 t8 (i3_3 + 1) hI_8 hF_8 (by omega) (by omega) _ _ _ h (lv_sub hl [0, 3, 4, 5] rfl)
            · skip
              have b11 : i8_5 < (2 ^ i3_3) := y_nle (a := (2 ^ i3_3)) (b := i8_5) (by omega) (by omega) c9
              refine lv_aload_n hx hb dX1_fillGains_33 rfl (lv_at hl 4 rfl) ?_
              refine x_getR E h (fr_bo_gain g) rfl hwX1 (by decide) (by decide +kernel) dX1_fillGains_34 ?_
              refine lv_iload_n hx hb dX1_fillGains_37 rfl (lv_at hl 3 rfl) ?_
              refine lv_iload hx hb dX1_fillGains_38 (lv_at hl 1 rfl) ?_
              refine lv_ior hx hb dX1_fillGains_40 ?_
              refine x_topI (v2 := nI ((2 ^ p1) ||| (2 ^ i3_3))) (y_or (2 ^ p1) (2 ^ i3_3)) ?_
              have b12 : ((2 ^ p1) ||| (2 ^ i3_3)) < 512 := y_or9 (by omega) (by omega)
              refine lv_iload hx hb dX1_fillGains_41 (lv_at hl 0 rfl) ?_
              refine lv_ior hx hb dX1_fillGains_43 ?_
              refine x_topI (v2 := nI (((2 ^ p1) ||| (2 ^ i3_3)) ||| i8_5)) (y_or ((2 ^ p1) ||| (2 ^ i3_3)) i8_5) ?_
              have b13 : (((2 ^ p1) ||| (2 ^ i3_3)) ||| i8_5) < 512 := y_or9 (by omega) (by omega)
              refine lv_aload_n hx hb dX1_fillGains_44 rfl (lv_at hl 4 rfl) ?_
              refine x_getR E h (fr_bo_gain g) rfl hwX1 (by decide) (by decide +kernel) dX1_fillGains_45 ?_
              refine lv_iload_n hx hb dX1_fillGains_48 rfl (lv_at hl 3 rfl) ?_
              refine lv_iload hx hb dX1_fillGains_49 (lv_at hl 0 rfl) ?_
              refine lv_ior hx hb dX1_fillGains_51 ?_
              refine x_topI (v2 := nI ((2 ^ p1) ||| i8_5)) (y_or (2 ^ p1) i8_5) ?_
              have b14 : ((2 ^ p1) ||| i8_5) < 512 := y_or9 (by omega) (by omega)
              refine x_ldI E h (ia_bo_gain g) (i := nI ((2 ^ p1) ||| i8_5)) (vp_in_nI (by omega) (by decide)) (v := t8.2.2 40 ((2 ^ p1) ||| i8_5)) (congrArg (t8.2.2 40) (nI_clamp (by omega))) dX1_fillGains_52 ?_
              refine lv_aload_n hx hb dX1_fillGains_53 rfl (lv_at hl 4 rfl) ?_
              refine x_getR E h (fr_bo_bond g) rfl hwX1 (by decide) (by decide +kernel) dX1_fillGains_54 ?_
              refine lv_iload_n hx hb dX1_fillGains_57 rfl (lv_at hl 2 rfl) ?_
              refine x_row E h (fg_bo_bond g) (i := nI i3_3) (vp_in_nI (by omega) (by decide)) (kr := 27 + i3_3) (by rw [nI_clamp (by omega)]) dX1_fillGains_58 ?_
              refine lv_iload_n hx hb dX1_fillGains_59 rfl (lv_at hl 5 rfl) ?_
              refine x_ldI E h (gi_bo_bond g i3_3 (by omega)) (i := nI p1) (vp_in_nI (by omega) (by decide)) (v := t8.2.2 (21 + i3_3) p1) (congrArg (t8.2.2 (21 + i3_3)) (nI_clamp (by omega))) dX1_fillGains_60 ?_
              refine lv_iadd hx hb dX1_fillGains_61 ?_
              refine lv_topi (fun x15 e15 => ?_)
              refine y_stI E h hI_8 hF_8 (ia_bo_gain g) (i := nI (((2 ^ p1) ||| (2 ^ i3_3)) ||| i8_5)) (vp_in_nI (by omega) (by decide)) (j := (((2 ^ p1) ||| (2 ^ i3_3)) ||| i8_5)) (nI_clamp (by omega)) (ba_none rfl) rfl dX1_fillGains_62 (fun s16 H locs q16 hI16 hF16 h => ?_)
              refine lv_iinc (v := (nI (i8_5 + 1))) (lv' := [(5, .int (nI (i8_5 + 1))), (4, .int (nI (2 ^ i3_3))), (3, .int (nI i3_3)), (2, .int (nI (2 ^ p1))), (0, .ref (g.2.1 25)), (1, .int (nI p1))]) hx hb dX1_fillGains_63 hl (k := 0) rfl (nI_add i8_5 1) (by decide) rfl (fun ls hl => ?_)
              refine lv_goto (tgt := 26) hx hb dX1_fillGains_66 (by decide) ?_
              exact ih8 s16 (i8_5 + 1) hI16 hF16 (by omega) (by omega) _ _ _ h (lv_sub hl [0, 1, 2, 3, 4, 5] rfl)
        exact loop26_8 _ t3 0 hI_3 hF_3 (Nat.zero_le _) (Nat.lt_succ_self _) _ _ _ h (lv_sub hl [0, 1, 2, 3, 4, 5] rfl)
  exact loop13_3 _ s2 0 hI2 hF2 (Nat.zero_le _) (Nat.lt_succ_self _) _ _ _ h (lv_sub hl [0, 1, 2, 3] rfl)
set_option maxHeartbeats 4000000 in
set_option maxRecDepth 100000 in
theorem aX2_doTouch_0 (l : Launch) (g : CX) (σ : ST) (hI : INV σ) (p1 : Nat) (p2 : Nat) (hh0 : p1 < 48) (hh1 : p2 < 48) : XM l g yX2_doTouch wsX2_doTouch { frames := 1, cells := 0, slots := 0, locals := 21 } [.ref (g.2.1 16), .int (nI p1), .int (nI p2)] σ (XQi g (fun r σ' => σ = σ')) := by
  refine x_met (own := RX2) (cc := cX2_doTouch) (maxL := 3) (ret := (some .boolean)) (lv := [(0, .ref (g.2.1 16)), (1, .int (nI p1)), (2, .int (nI p2))]) (by decide) rfl rfl (Nat.le_of_ble_eq_true rfl) rfl ?_
  intro p e s m args below meth c ls E h hl
  have hx := E.1
  have hb := E.2.1
  have hown := E.2.2.2.1
  have hts := E.2.2.2.2.1
  have hwX2 : ∀ w ∈ wsX20, w ∈ wsX2_doTouch := by decide +kernel
  refine lv_iload_n hx hb dX2_doTouch_0 rfl (lv_at hl 1 rfl) ?_
  refine lv_iload_n hx hb dX2_doTouch_1 rfl (lv_at hl 2 rfl) ?_
  refine lv_isub hx hb dX2_doTouch_2 ?_
  refine x_abs E hl.1 (by decide +kernel) (by decide +kernel) (by decide +kernel) (by decide +kernel) ⟨Nat.le_of_ble_eq_true rfl, Nat.le_of_ble_eq_true rfl⟩ ⟨Nat.zero_le _, Nat.zero_le _⟩ dX2_doTouch_3 ?_
  refine lv_topi (fun x1 e1 => ?_)
  refine lv_iconst (v := 1) hx hb dX2_doTouch_6 (by decide) ?_
  refine lv_icmp_ne (tgt := 29) hx hb dX2_doTouch_7 (by decide) (fun c2 => ?_) (fun c2 => ?_)
  · skip
    refine lv_iconst (v := 0) hx hb dX2_doTouch_29 (by decide) ?_
    exact x_zret E h rfl rfl dX2_doTouch_30
  · skip
    subst c2
    refine lv_aload_n hx hb dX2_doTouch_10 rfl (lv_at hl 0 rfl) ?_
    refine x_getR E h (fr_cu_stretchOf g) rfl hwX2 (by decide) (by decide +kernel) dX2_doTouch_11 ?_
    refine lv_iload_n hx hb dX2_doTouch_14 rfl (lv_at hl 1 rfl) ?_
    refine x_ldI E h (ia_cu_stretchOf g) (i := nI p1) (vp_in_nI (by omega) (by decide)) (v := σ.2.2 16 p1) (congrArg (σ.2.2 16) (nI_clamp (by omega))) dX2_doTouch_15 ?_
    refine lv_aload_n hx hb dX2_doTouch_16 rfl (lv_at hl 0 rfl) ?_
    refine x_getR E h (fr_cu_stretchOf g) rfl hwX2 (by decide) (by decide +kernel) dX2_doTouch_17 ?_
    refine lv_iload_n hx hb dX2_doTouch_20 rfl (lv_at hl 2 rfl) ?_
    refine x_ldI E h (ia_cu_stretchOf g) (i := nI p2) (vp_in_nI (by omega) (by decide)) (v := σ.2.2 16 p2) (congrArg (σ.2.2 16) (nI_clamp (by omega))) dX2_doTouch_21 ?_
    refine lv_icmp_ne (tgt := 29) hx hb dX2_doTouch_22 (by decide) (fun c5 => ?_) (fun c5 => ?_)
    · skip
      refine lv_iconst (v := 0) hx hb dX2_doTouch_29 (by decide) ?_
      exact x_zret E h rfl rfl dX2_doTouch_30
    · skip
      refine lv_iconst (v := 1) hx hb dX2_doTouch_25 (by decide) ?_
      refine lv_goto (tgt := 30) hx hb dX2_doTouch_26 (by decide) ?_
      exact x_zret E h rfl rfl dX2_doTouch_30
set_option maxHeartbeats 4000000 in
set_option maxRecDepth 100000 in
theorem aX1_tie_0 (l : Launch) (g : CX) (σ : ST) (hI : INV σ) (p2 : Int32) (p3 : Int32) : XM l g yX1_tie wsX1_tie { frames := 3, cells := 0, slots := 0, locals := 69 } [.ref (g.2.1 25), .ref (g.2.1 16), .int p2, .int p3] σ (XQv g (fun σ' => INV σ' ∧ Fr [(9, 9)] [(21, 29), (40, 40)] σ σ')) := by
  refine x_met (own := RX1) (cc := cX1_tie) (maxL := 7) (ret := none) (lv := [(0, .ref (g.2.1 25)), (1, .ref (g.2.1 16)), (2, .int p2), (3, .int p3)]) (by decide) rfl rfl (Nat.le_of_ble_eq_true rfl) rfl ?_
  intro p e s m args below meth c ls E h hl
  have hx := E.1
  have hb := E.2.1
  have hown := E.2.2.2.1
  have hts := E.2.2.2.2.1
  have hF : Fr [(9, 9)] [(21, 29), (40, 40)] σ σ := Fr.refl σ
  have hwX1 : ∀ w ∈ wsX10, w ∈ wsX1_tie := by decide +kernel
  have hwX2 : ∀ w ∈ wsX20, w ∈ wsX1_tie := by decide +kernel
  refine lv_aload_n hx hb dX1_tie_0 rfl (lv_at hl 0 rfl) ?_
  refine lv_aload_n hx hb dX1_tie_1 rfl (lv_at hl 1 rfl) ?_
  obtain ⟨n1, b1, e1⟩ := hI.1 5 48 rfl
  refine x_getIN E h (fi_cu_pieces g) rfl hwX2 (by decide) (by decide +kernel) (v := nI n1) e1 dX1_tie_2 ?_
  refine lv_bipush (v := 9) hx hb dX1_tie_5 (by decide) ?_
  refine x_min E hl.1 (by decide +kernel) (by decide +kernel) (by decide +kernel) (by decide +kernel) ⟨Nat.le_of_ble_eq_true rfl, Nat.le_of_ble_eq_true rfl⟩ ⟨Nat.zero_le _, Nat.zero_le _⟩ dX1_tie_7 ?_
  obtain ⟨n2, b2, e2⟩ := y_min (a := n1) (b := 9) (by omega) (by omega)
  refine x_topI (v2 := nI n2) e2 ?_
  refine y_putI E h hI hF (ty := .int) (v := nI n2) (fi_bo_pieces g) rfl hwX1 tyX1_ok nmX1 (by decide) (by decide +kernel) (by decide +kernel) (by decide +kernel) rfl rfl (ba_some rfl (Bd.mk (n := n2) (by omega))) rfl dX1_tie_10 (fun s3 H locs q3 hI3 hF3 h => ?_)
  have e4 : s3.1 5 = nI n1 := (congrArg (fun t : ST => t.1 5) q3).trans e1
  have e5 : s3.1 9 = nI n2 := congrArg (fun t : ST => t.1 9) q3
  refine lv_iconst (v := 0) hx hb dX1_tie_13 (by decide) ?_
  refine lv_istore (lv' := [(4, .int 0), (0, .ref (g.2.1 25)), (1, .ref (g.2.1 16)), (2, .int p2), (3, .int p3)]) hx hb dX1_tie_14 hl (by decide) rfl (fun ls hl => ?_)
  have loop16_6 : ∀ (fu : Nat) (t6 : ST) (i6_4 : Nat), INV t6 → Fr [(9, 9)] [(21, 29), (40, 40)] σ t6 → t6.1 5 = nI n1 → t6.1 9 = nI n2 → i6_4 ≤ n2 → n2 - i6_4 < fu → ∀ (H : Heap) (locs : List Loc) (ls : Array Slot), HW g t6 s H locs → lv_has ls 7 [(4, .int (nI i6_4)), (0, .ref (g.2.1 25)), (1, .ref (g.2.1 16)), (2, .int p2), (3, .int p3)] → W p l e { frames := 3, cells := 0, slots := 0, locals := 69 } s m args below meth c H locs 0 0 (MQ below (XQv g (fun σ' => INV σ' ∧ Fr [(9, 9)] [(21, 29), (40, 40)] σ σ')) args s 0 0 (Aw g)) (F0 m 16 ls []) := by
    intro fu
    induction fu with
    | zero => intro t6 i6_4 hI_6 hF_6 e7 e8 bi6_4 hm; exact absurd hm (Nat.not_lt_zero _)
    | succ fu ih =>
      have ih6 := ih
      clear ih
      intro t6 i6_4 hI_6 hF_6 e7 e8 bi6_4 hm6 H locs ls h hl
      refine lv_iload hx hb dX1_tie_16 (lv_at hl 0 rfl) ?_
      refine lv_aload_n hx hb dX1_tie_18 rfl (lv_at hl 1 rfl) ?_
      refine x_getI E h (fi_bo_pieces g) rfl hwX1 (by decide) (by decide +kernel) (v := nI n2) e8 dX1_tie_19 ?_
      refine lv_icmp_ge (tgt := 104) hx hb dX1_tie_22 (by decide) (fun c9 => ?_) (fun c9 => ?_)
      · skip
        have b10 : n2 ≤ i6_4 := y_le (a := n2) (b := i6_4) (by omega) (by omega) c9
        refine lv_iconst (v := 0) hx hb dX1_tie_104 (by decide) ?_
        refine lv_istore (lv' := [(4, .int 0), (0, .ref (g.2.1 25)), (1, .ref (g.2.1 16)), (2, .int p2), (3, .int p3)]) hx hb dX1_tie_105 hl (by decide) rfl (fun ls hl => ?_)
        have loop107_11 : ∀ (fu : Nat) (t11 : ST) (i11_4 : Nat), INV t11 → Fr [(9, 9)] [(21, 29), (40, 40)] σ t11 → t11.1 5 = nI n1 → t11.1 9 = nI n2 → i11_4 ≤ n2 → n2 - i11_4 < fu → ∀ (H : Heap) (locs : List Loc) (ls : Array Slot), HW g t11 s H locs → lv_has ls 7 [(4, .int (nI i11_4)), (0, .ref (g.2.1 25)), (1, .ref (g.2.1 16)), (2, .int p2), (3, .int p3)] → W p l e { frames := 3, cells := 0, slots := 0, locals := 69 } s m args below meth c H locs 0 0 (MQ below (XQv g (fun σ' => INV σ' ∧ Fr [(9, 9)] [(21, 29), (40, 40)] σ σ')) args s 0 0 (Aw g)) (F0 m 107 ls []) := by
          intro fu
          induction fu with
          | zero => intro t11 i11_4 hI_11 hF_11 e12 e13 bi11_4 hm; exact absurd hm (Nat.not_lt_zero _)
          | succ fu ih =>
            have ih11 := ih
            clear ih
            intro t11 i11_4 hI_11 hF_11 e12 e13 bi11_4 hm11 H locs ls h hl
            refine lv_iload hx hb dX1_tie_107 (lv_at hl 0 rfl) ?_
            refine lv_aload_n hx hb dX1_tie_109 rfl (lv_at hl 1 rfl) ?_
            refine x_getI E h (fi_bo_pieces g) rfl hwX1 (by decide) (by decide +kernel) (v := nI n2) e13 dX1_tie_110 ?_
            refine lv_icmp_ge (tgt := 128) hx hb dX1_tie_113 (by decide) (fun c14 => ?_) (fun c14 => ?_)
            · skip
              have b15 : n2 ≤ i11_4 := y_le (a := n2) (b := i11_4) (by omega) (by omega) c14
              exact x_vret E h ⟨hI_11, hF_11⟩ dX1_tie_128
            · skip
              have b16 : i11_4 < n2 := y_nle (a := n2) (b := i11_4) (by omega) (by omega) c14
              refine lv_aload_n hx hb dX1_tie_116 rfl (lv_at hl 1 rfl) ?_
              refine lv_iload hx hb dX1_tie_117 (lv_at hl 0 rfl) ?_
              refine x_vv E h (na := 1) (As := [.int (nI i11_4)]) (aX1_fillGains_0 l g t11 hI_11 i11_4 (by omega)) (oc_bo g) rfl gX1_tie_X1_fillGains rfl ⟨rfl, rfl⟩ rfl (by decide +kernel) ⟨Nat.le_of_ble_eq_true rfl, Nat.le_of_ble_eq_true rfl⟩ hl.1 rfl (Nat.le_of_ble_eq_true rfl) dX1_tie_119 ⟨Nat.le_of_ble_eq_true rfl, Nat.le_of_ble_eq_true rfl⟩ (fun s17 H locs q17 h => ?_)
              obtain ⟨hI17, f17⟩ := q17
              have hF17 := hF_11.call f17 (I := [(9, 9)]) (J := [(21, 29), (40, 40)]) rfl rfl
              have e18 : s17.1 5 = nI n1 := ((f17.1 5 rfl)).trans e12
              have e19 : s17.1 9 = nI n2 := ((f17.1 9 rfl)).trans e13
              refine lv_iinc (v := (nI (i11_4 + 1))) (lv' := [(4, .int (nI (i11_4 + 1))), (0, .ref (g.2.1 25)), (1, .ref (g.2.1 16)), (2, .int p2), (3, .int p3)]) hx hb dX1_tie_122 hl (k := 0) rfl (nI_add i11_4 1) (by decide) rfl (fun ls hl => ?_)
              refine lv_goto (tgt := 107) hx hb dX1_tie_125 (by decide) ?_
              exact ih11 s17 (i11_4 + 1) hI17 hF17 e18 e19 (by omega) (by omega) _ _ _ h (lv_sub hl [0, 1, 2, 3, 4] rfl)
        exact loop107_11 _ t6 0 hI_6 hF_6 e7 e8 (Nat.zero_le _) (Nat.lt_succ_self _) _ _ _ h (lv_sub hl [0, 1, 2, 3, 4] rfl)
      · skip
        have b20 : i6_4 < n2 := y_nle (a := n2) (b := i6_4) (by omega) (by omega) c9
        refine lv_iload hx hb dX1_tie_25 (lv_at hl 0 rfl) ?_
        refine lv_iconst (v := 1) hx hb dX1_tie_27 (by decide) ?_
        refine lv_iadd hx hb dX1_tie_28 ?_
        refine x_topI (v2 := nI (i6_4 + 1)) (nI_add i6_4 1) ?_
        refine lv_istore (lv' := [(5, .int (nI (i6_4 + 1))), (4, .int (nI i6_4)), (0, .ref (g.2.1 25)), (1, .ref (g.2.1 16)), (2, .int p2), (3, .int p3)]) hx hb dX1_tie_29 hl (by decide) rfl (fun ls hl => ?_)
        have loop31_21 : ∀ (fu : Nat) (t21 : ST) (i21_5 : Nat), INV t21 → Fr [(9, 9)] [(21, 29), (40, 40)] σ t21 → t21.1 5 = nI n1 → t21.1 9 = nI n2 → i21_5 ≤ n2 → n2 - i21_5 < fu → ∀ (H : Heap) (locs : List Loc) (ls : Array Slot), HW g t21 s H locs → lv_has ls 7 [(5, .int (nI i21_5)), (4, .int (nI i6_4)), (0, .ref (g.2.1 25)), (1, .ref (g.2.1 16)), (2, .int p2), (3, .int p3)] → W p l e { frames := 3, cells := 0, slots := 0, locals := 69 } s m args below meth c H locs 0 0 (MQ below (XQv g (fun σ' => INV σ' ∧ Fr [(9, 9)] [(21, 29), (40, 40)] σ σ')) args s 0 0 (Aw g)) (F0 m 31 ls []) := by
          intro fu
          induction fu with
          | zero => intro t21 i21_5 hI_21 hF_21 e22 e23 bi21_5 hm; exact absurd hm (Nat.not_lt_zero _)
          | succ fu ih =>
            have ih21 := ih
            clear ih
            intro t21 i21_5 hI_21 hF_21 e22 e23 bi21_5 hm21 H locs ls h hl
            refine lv_iload hx hb dX1_tie_31 (lv_at hl 0 rfl) ?_
            refine lv_aload_n hx hb dX1_tie_33 rfl (lv_at hl 2 rfl) ?_
            refine x_getI E h (fi_bo_pieces g) rfl hwX1 (by decide) (by decide +kernel) (v := nI n2) e23 dX1_tie_34 ?_
            refine lv_icmp_ge (tgt := 98) hx hb dX1_tie_37 (by decide) (fun c24 => ?_) (fun c24 => ?_)
            · skip
              have b25 : n2 ≤ i21_5 := y_le (a := n2) (b := i21_5) (by omega) (by omega) c24
              refine lv_iinc (v := (nI (i6_4 + 1))) (lv' := [(4, .int (nI (i6_4 + 1))), (5, .int (nI i21_5)), (0, .ref (g.2.1 25)), (1, .ref (g.2.1 16)), (2, .int p2), (3, .int p3)]) hx hb dX1_tie_98 hl (k := 1) rfl (nI_add i6_4 1) (by decide) rfl (fun ls hl => ?_)
              refine lv_goto (tgt := 16) hx hb dX1_tie_101 (by decide) ?_
              exact ih6 t21 (i6_4 + 1) hI_21 hF_21 e22 e23 (by omega) (by omega) _ _ _ h (lv_sub hl [0, 2, 3, 4, 5] rfl)
            · skip
              have b26 : i21_5 < n2 := y_nle (a := n2) (b := i21_5) (by omega) (by omega) c24
              refine lv_aload_n hx hb dX1_tie_40 rfl (lv_at hl 3 rfl) ?_
              refine lv_iload hx hb dX1_tie_41 (lv_at hl 1 rfl) ?_
              refine lv_iload hx hb dX1_tie_43 (lv_at hl 0 rfl) ?_
              refine lv_iload_n hx hb dX1_tie_45 rfl (lv_at hl 4 rfl) ?_
              refine x_vi E h (na := 3) (As := [.int (nI i6_4), .int (nI i21_5), .int p2]) (aX2_likeness_0 l g t21 hI_21 i6_4 i21_5 p2 (by omega) (by omega)) (oc_cu g) rfl gX1_tie_X2_likeness rfl ⟨rfl, rfl⟩ rfl (by decide +kernel) ⟨Nat.le_of_ble_eq_true rfl, Nat.le_of_ble_eq_true rfl⟩ hl.1 rfl (Nat.le_of_ble_eq_true rfl) dX1_tie_46 ⟨Nat.le_of_ble_eq_true rfl, Nat.le_of_ble_eq_true rfl⟩ (fun r27 s27 H locs q27 h => ?_)
              subst q27
              refine lv_aload_n hx hb dX1_tie_49 rfl (lv_at hl 3 rfl) ?_
              refine lv_iload hx hb dX1_tie_50 (lv_at hl 1 rfl) ?_
              refine lv_iload hx hb dX1_tie_52 (lv_at hl 0 rfl) ?_
              refine x_vi E h (na := 2) (As := [.int (nI i6_4), .int (nI i21_5)]) (aX2_doTouch_0 l g t21 hI_21 i6_4 i21_5 (by omega) (by omega)) (oc_cu g) rfl gX1_tie_X2_doTouch rfl ⟨rfl, rfl⟩ rfl (by decide +kernel) ⟨Nat.le_of_ble_eq_true rfl, Nat.le_of_ble_eq_true rfl⟩ hl.1 rfl (Nat.le_of_ble_eq_true rfl) dX1_tie_54 ⟨Nat.le_of_ble_eq_true rfl, Nat.le_of_ble_eq_true rfl⟩ (fun r28 s28 H locs q28 h => ?_)
              subst q28
              have j65_31 : ∀ (y31_s0 : Int32), ∀ (H : Heap) (locs : List Loc) (ls : Array Slot), HW g t21 s H locs → lv_has ls 7 [(5, .int (nI i21_5)), (4, .int (nI i6_4)), (0, .ref (g.2.1 25)), (1, .ref (g.2.1 16)), (2, .int p2), (3, .int p3)] → W p l e { frames := 3, cells := 0, slots := 0, locals := 69 } s m args below meth c H locs 0 0 (MQ below (XQv g (fun σ' => INV σ' ∧ Fr [(9, 9)] [(21, 29), (40, 40)] σ σ')) args s 0 0 (Aw g)) (F0 m 65 ls [.int y31_s0, .int r27]) := by
                intro y31_s0 H locs ls h hl
                refine lv_isub hx hb dX1_tie_65 ?_
                refine lv_topi (fun x32 e32 => ?_)
                refine lv_istore (lv' := [(6, .int x32), (5, .int (nI i21_5)), (4, .int (nI i6_4)), (0, .ref (g.2.1 25)), (1, .ref (g.2.1 16)), (2, .int p2), (3, .int p3)]) hx hb dX1_tie_66 hl (by decide) rfl (fun ls hl => ?_)
                refine lv_aload_n hx hb dX1_tie_68 rfl (lv_at hl 3 rfl) ?_
                refine x_getR E h (fr_bo_bond g) rfl hwX1 (by decide) (by decide +kernel) dX1_tie_69 ?_
                refine lv_iload hx hb dX1_tie_72 (lv_at hl 2 rfl) ?_
                refine x_row E h (fg_bo_bond g) (i := nI i6_4) (vp_in_nI (by omega) (by decide)) (kr := 27 + i6_4) (by rw [nI_clamp (by omega)]) dX1_tie_74 ?_
                refine lv_iload hx hb dX1_tie_75 (lv_at hl 1 rfl) ?_
                refine lv_iload hx hb dX1_tie_77 (lv_at hl 0 rfl) ?_
                refine y_stI E h hI_21 hF_21 (gi_bo_bond g i6_4 (by omega)) (i := nI i21_5) (vp_in_nI (by omega) (by decide)) (j := i21_5) (nI_clamp (by omega)) (ba_none ((gb_bo_bond i6_4) (by omega))) (gr_bo_bond i6_4 [(21, 29), (40, 40)] (by omega) rfl) dX1_tie_79 (fun s33 H locs q33 hI33 hF33 h => ?_)
                have e34 : s33.1 5 = nI n1 := (congrArg (fun t : ST => t.1 5) q33).trans e22
                have e35 : s33.1 9 = nI n2 := (congrArg (fun t : ST => t.1 9) q33).trans e23
                refine lv_aload_n hx hb dX1_tie_80 rfl (lv_at hl 3 rfl) ?_
                refine x_getR E h (fr_bo_bond g) rfl hwX1 (by decide) (by decide +kernel) dX1_tie_81 ?_
                refine lv_iload hx hb dX1_tie_84 (lv_at hl 1 rfl) ?_
                refine x_row E h (fg_bo_bond g) (i := nI i21_5) (vp_in_nI (by omega) (by decide)) (kr := 27 + i21_5) (by rw [nI_clamp (by omega)]) dX1_tie_86 ?_
                refine lv_iload hx hb dX1_tie_87 (lv_at hl 2 rfl) ?_
                refine lv_iload hx hb dX1_tie_89 (lv_at hl 0 rfl) ?_
                refine y_stI E h hI33 hF33 (gi_bo_bond g i21_5 (by omega)) (i := nI i6_4) (vp_in_nI (by omega) (by decide)) (j := i6_4) (nI_clamp (by omega)) (ba_none ((gb_bo_bond i21_5) (by omega))) (gr_bo_bond i21_5 [(21, 29), (40, 40)] (by omega) rfl) dX1_tie_91 (fun s36 H locs q36 hI36 hF36 h => ?_)
                have e37 : s36.1 5 = nI n1 := (congrArg (fun t : ST => t.1 5) q36).trans e34
                have e38 : s36.1 9 = nI n2 := (congrArg (fun t : ST => t.1 9) q36).trans e35
                refine lv_iinc (v := (nI (i21_5 + 1))) (lv' := [(5, .int (nI (i21_5 + 1))), (6, .int x32), (4, .int (nI i6_4)), (0, .ref (g.2.1 25)), (1, .ref (g.2.1 16)), (2, .int p2), (3, .int p3)]) hx hb dX1_tie_92 hl (k := 1) rfl (nI_add i21_5 1) (by decide) rfl (fun ls hl => ?_)
                refine lv_goto (tgt := 31) hx hb dX1_tie_95 (by decide) ?_
                exact ih21 s36 (i21_5 + 1) hI36 hF36 e37 e38 (by omega) (by omega) _ _ _ h (lv_sub hl [0, 2, 3, 4, 5, 6] rfl)
              refine lv_if_eq (tgt := 64) hx hb dX1_tie_57 (by decide) (fun c29 => ?_) (fun c29 => ?_)
              · skip
                subst c29
                refine lv_iconst (v := 0) hx hb dX1_tie_64 (by decide) ?_
                exact j65_31 0 _ _ _ h (lv_sub hl [0, 1, 2, 3, 4, 5] rfl)
              · skip
                refine lv_iload_n hx hb dX1_tie_60 rfl (lv_at hl 5 rfl) ?_
                refine lv_goto (tgt := 65) hx hb dX1_tie_61 (by decide) ?_
                exact j65_31 p3 _ _ _ h (lv_sub hl [0, 1, 2, 3, 4, 5] rfl)
        exact loop31_21 _ t6 (i6_4 + 1) hI_6 hF_6 e7 e8 (by omega) (Nat.lt_succ_self _) _ _ _ h (lv_sub hl [0, 1, 2, 3, 4, 5] rfl)
  exact loop16_6 _ s3 0 hI3 hF3 e4 e5 (Nat.zero_le _) (Nat.lt_succ_self _) _ _ _ h (lv_sub hl [0, 1, 2, 3, 4] rfl)
set_option maxHeartbeats 4000000 in
set_option maxRecDepth 100000 in
theorem aX0_meetNear_0 (l : Launch) (g : CX) (σ : ST) (hI : INV σ) (p1 : Int32) (p2 : Int32) (p3 : Int64) : XM l g yX0_meetNear wsX0_meetNear { frames := 1, cells := 0, slots := 0, locals := 21 } [.ref (g.2.1 47), .int p1, .int p2, .long p3] σ (XQv g (fun σ' => INV σ' ∧ Fr [(14, 16)] [] σ σ')) := by
  refine x_met (own := RX0) (cc := cX0_meetNear) (maxL := 5) (ret := none) (lv := [(0, .ref (g.2.1 47)), (1, .int p1), (2, .int p2), (3, .long p3)]) (by decide) rfl rfl (Nat.le_of_ble_eq_true rfl) rfl ?_
  intro p e s m args below meth c ls E h hl
  have hx := E.1
  have hb := E.2.1
  have hown := E.2.2.2.1
  have hts := E.2.2.2.2.1
  have hF : Fr [(14, 16)] [] σ σ := Fr.refl σ
  have hwX0 : ∀ w ∈ wsX00, w ∈ wsX0_meetNear := by decide +kernel
  refine lv_iload_n hx hb dX0_meetNear_0 rfl (lv_at hl 2 rfl) ?_
  refine lv_aload_n hx hb dX0_meetNear_1 rfl (lv_at hl 0 rfl) ?_
  obtain ⟨x1, e1⟩ : ∃ x, σ.1 13 = x := ⟨_, rfl⟩
  refine x_getI E h (fi_al_least g) rfl hwX0 (by decide) (by decide +kernel) (v := x1) e1 dX0_meetNear_2 ?_
  refine lv_icmp_lt (tgt := 62) hx hb dX0_meetNear_5 (by decide) (fun c2 => ?_) (fun c2 => ?_)
  · skip
    exact x_vret E h ⟨hI, hF⟩ dX0_meetNear_62
  · skip
    refine lv_aload_n hx hb dX0_meetNear_8 rfl (lv_at hl 0 rfl) ?_
    refine lv_dup hx hb dX0_meetNear_9 rfl ?_
    obtain ⟨x5, e5⟩ : ∃ x, σ.1 14 = x := ⟨_, rfl⟩
    refine x_getI E h (fi_al_nearOnes g) rfl hwX0 (by decide) (by decide +kernel) (v := x5) e5 dX0_meetNear_10 ?_
    refine lv_iconst (v := 1) hx hb dX0_meetNear_13 (by decide) ?_
    refine lv_iadd hx hb dX0_meetNear_14 ?_
    refine lv_topi (fun x6 e6 => ?_)
    refine y_putI E h hI hF (ty := .int) (v := x6) (fi_al_nearOnes g) rfl hwX0 tyX0_ok nmX0 (by decide) (by decide +kernel) (by decide +kernel) (by decide +kernel) rfl rfl (ba_none rfl) rfl dX0_meetNear_15 (fun s7 H locs q7 hI7 hF7 h => ?_)
    have e8 : s7.1 13 = x1 := (congrArg (fun t : ST => t.1 13) q7).trans e1
    have e9 : s7.1 14 = x6 := congrArg (fun t : ST => t.1 14) q7
    refine lv_aload_n hx hb dX0_meetNear_18 rfl (lv_at hl 0 rfl) ?_
    refine lv_aload_n hx hb dX0_meetNear_19 rfl (lv_at hl 0 rfl) ?_
    obtain ⟨x10, e10⟩ : ∃ x, s7.1 15 = x := ⟨_, rfl⟩
    refine x_getI E h (fi_al_fewest g) rfl hwX0 (by decide) (by decide +kernel) (v := x10) e10 dX0_meetNear_20 ?_
    refine lv_iload_n hx hb dX0_meetNear_23 rfl (lv_at hl 1 rfl) ?_
    refine x_min E hl.1 (by decide +kernel) (by decide +kernel) (by decide +kernel) (by decide +kernel) ⟨Nat.le_of_ble_eq_true rfl, Nat.le_of_ble_eq_true rfl⟩ ⟨Nat.zero_le _, Nat.zero_le _⟩ dX0_meetNear_24 ?_
    refine lv_topi (fun x11 e11 => ?_)
    refine y_putI E h hI7 hF7 (ty := .int) (v := x11) (fi_al_fewest g) rfl hwX0 tyX0_ok nmX0 (by decide) (by decide +kernel) (by decide +kernel) (by decide +kernel) rfl rfl (ba_none rfl) rfl dX0_meetNear_27 (fun s12 H locs q12 hI12 hF12 h => ?_)
    have e13 : s12.1 13 = x1 := (congrArg (fun t : ST => t.1 13) q12).trans e8
    have e14 : s12.1 14 = x6 := (congrArg (fun t : ST => t.1 14) q12).trans e9
    have e15 : s12.1 15 = x11 := congrArg (fun t : ST => t.1 15) q12
    refine lv_aload_n hx hb dX0_meetNear_30 rfl (lv_at hl 0 rfl) ?_
    refine lv_aload_n hx hb dX0_meetNear_31 rfl (lv_at hl 0 rfl) ?_
    obtain ⟨x16, e16⟩ : ∃ x, s12.1 16 = x := ⟨_, rfl⟩
    refine x_getI E h (fi_al_most g) rfl hwX0 (by decide) (by decide +kernel) (v := x16) e16 dX0_meetNear_32 ?_
    refine lv_iload_n hx hb dX0_meetNear_35 rfl (lv_at hl 1 rfl) ?_
    refine x_max E hl.1 (by decide +kernel) (by decide +kernel) (by decide +kernel) (by decide +kernel) ⟨Nat.le_of_ble_eq_true rfl, Nat.le_of_ble_eq_true rfl⟩ ⟨Nat.zero_le _, Nat.zero_le _⟩ dX0_meetNear_36 ?_
    refine lv_topi (fun x17 e17 => ?_)
    refine y_putI E h hI12 hF12 (ty := .int) (v := x17) (fi_al_most g) rfl hwX0 tyX0_ok nmX0 (by decide) (by decide +kernel) (by decide +kernel) (by decide +kernel) rfl rfl (ba_none rfl) rfl dX0_meetNear_39 (fun s18 H locs q18 hI18 hF18 h => ?_)
    have e19 : s18.1 13 = x1 := (congrArg (fun t : ST => t.1 13) q18).trans e13
    have e20 : s18.1 14 = x6 := (congrArg (fun t : ST => t.1 14) q18).trans e14
    have e21 : s18.1 15 = x11 := (congrArg (fun t : ST => t.1 15) q18).trans e15
    have e22 : s18.1 16 = x17 := congrArg (fun t : ST => t.1 16) q18
    refine lv_aload_n hx hb dX0_meetNear_42 rfl (lv_at hl 0 rfl) ?_
    refine lv_dup hx hb dX0_meetNear_43 rfl ?_
    refine x_getL E h (fl_al_always g) rfl hwX0 (by decide) (by decide +kernel) rfl dX0_meetNear_44 ?_
    refine lv_lload_n hx hb dX0_meetNear_47 rfl (lv_at hl 3 rfl) ?_
    refine lv_land hx hb dX0_meetNear_48 ?_
    refine lv_topl (fun y23 e23 => ?_)
    refine y_putL E h hI18 hF18 (ty := .long) (v := y23) (fl_al_always g) rfl hwX0 tyX0_ok nmX0 (by decide) (by decide +kernel) (by decide +kernel) (by decide +kernel) rfl rfl dX0_meetNear_49 (fun s24 H locs q24 hI24 hF24 h => ?_)
    have e25 : s24.1 13 = x1 := (congrArg (fun t : ST => t.1 13) q24).trans e19
    have e26 : s24.1 14 = x6 := (congrArg (fun t : ST => t.1 14) q24).trans e20
    have e27 : s24.1 15 = x11 := (congrArg (fun t : ST => t.1 15) q24).trans e21
    have e28 : s24.1 16 = x17 := (congrArg (fun t : ST => t.1 16) q24).trans e22
    refine lv_aload_n hx hb dX0_meetNear_52 rfl (lv_at hl 0 rfl) ?_
    refine lv_dup hx hb dX0_meetNear_53 rfl ?_
    refine x_getL E h (fl_al_ever g) rfl hwX0 (by decide) (by decide +kernel) rfl dX0_meetNear_54 ?_
    refine lv_lload_n hx hb dX0_meetNear_57 rfl (lv_at hl 3 rfl) ?_
    refine lv_lor hx hb dX0_meetNear_58 ?_
    refine lv_topl (fun y29 e29 => ?_)
    refine y_putL E h hI24 hF24 (ty := .long) (v := y29) (fl_al_ever g) rfl hwX0 tyX0_ok nmX0 (by decide) (by decide +kernel) (by decide +kernel) (by decide +kernel) rfl rfl dX0_meetNear_59 (fun s30 H locs q30 hI30 hF30 h => ?_)
    have e31 : s30.1 13 = x1 := (congrArg (fun t : ST => t.1 13) q30).trans e25
    have e32 : s30.1 14 = x6 := (congrArg (fun t : ST => t.1 14) q30).trans e26
    have e33 : s30.1 15 = x11 := (congrArg (fun t : ST => t.1 15) q30).trans e27
    have e34 : s30.1 16 = x17 := (congrArg (fun t : ST => t.1 16) q30).trans e28
    exact x_vret E h ⟨hI30, hF30⟩ dX0_meetNear_62
set_option maxHeartbeats 4000000 in
set_option maxRecDepth 100000 in
theorem aX0_meet_0 (l : Launch) (g : CX) (σ : ST) (hI : INV σ) (p1 : Int32) (p2 : Nat) (p3 : Int32) (p4 : Int64) (hh0 : p2 ≤ 9) : XM l g yX0_meet wsX0_meet { frames := 2, cells := 0, slots := 0, locals := 45 } [.ref (g.2.1 47), .int p1, .int (nI p2), .int p3, .long p4] σ (XQv g (fun σ' => INV σ' ∧ Fr [(10, 11), (14, 16)] [(41, 41)] σ σ')) := by
  refine x_met (own := RX0) (cc := cX0_meet) (maxL := 7) (ret := none) (lv := [(0, .ref (g.2.1 47)), (1, .int p1), (2, .int (nI p2)), (3, .int p3), (4, .long p4)]) (by decide) rfl rfl (Nat.le_of_ble_eq_true rfl) rfl ?_
  intro p e s m args below meth c ls E h hl
  have hx := E.1
  have hb := E.2.1
  have hown := E.2.2.2.1
  have hts := E.2.2.2.2.1
  have hF : Fr [(10, 11), (14, 16)] [(41, 41)] σ σ := Fr.refl σ
  have hwX0 : ∀ w ∈ wsX00, w ∈ wsX0_meet := by decide +kernel
  have hwX4 : ∀ w ∈ wsX40, w ∈ wsX0_meet := by decide +kernel
  refine lv_aload_n hx hb dX0_meet_0 rfl (lv_at hl 0 rfl) ?_
  obtain ⟨x1, e1⟩ : ∃ x, σ.1 12 = x := ⟨_, rfl⟩
  refine x_getI E h (fi_al_isForNear g) rfl hwX0 (by decide) (by decide +kernel) (v := x1) e1 dX0_meet_1 ?_
  refine lv_if_eq (tgt := 18) hx hb dX0_meet_4 (by decide) (fun c2 => ?_) (fun c2 => ?_)
  · skip
    subst c2
    refine lv_iload_n hx hb dX0_meet_18 rfl (lv_at hl 3 rfl) ?_
    refine lv_aload_n hx hb dX0_meet_19 rfl (lv_at hl 0 rfl) ?_
    refine x_getR E h (fr_al_best g) rfl hwX0 (by decide) (by decide +kernel) dX0_meet_20 ?_
    obtain ⟨x4, e4⟩ : ∃ x, σ.1 11 = x := ⟨_, rfl⟩
    refine x_getIN E h (fi_be_value g) rfl hwX4 (by decide) (by decide +kernel) (v := x4) e4 dX0_meet_23 ?_
    refine lv_icmp_le (tgt := 84) hx hb dX0_meet_26 (by decide) (fun c5 => ?_) (fun c5 => ?_)
    · skip
      exact x_vret E h ⟨hI, hF⟩ dX0_meet_84
    · skip
      refine lv_aload_n hx hb dX0_meet_29 rfl (lv_at hl 0 rfl) ?_
      refine x_getR E h (fr_al_best g) rfl hwX0 (by decide) (by decide +kernel) dX0_meet_30 ?_
      refine lv_iload_n hx hb dX0_meet_33 rfl (lv_at hl 3 rfl) ?_
      refine y_putIN E h hI hF (ty := .int) (v := p3) (fi_be_value g) rfl hwX4 tyX4_ok nmX4 (by decide) (by decide +kernel) (by decide +kernel) (by decide +kernel) rfl rfl (ba_none rfl) rfl dX0_meet_34 (fun s8 H locs q8 hI8 hF8 h => ?_)
      have e9 : s8.1 12 = 0 := (congrArg (fun t : ST => t.1 12) q8).trans e1
      have e10 : s8.1 11 = p3 := congrArg (fun t : ST => t.1 11) q8
      refine lv_aload_n hx hb dX0_meet_37 rfl (lv_at hl 0 rfl) ?_
      refine x_getR E h (fr_al_best g) rfl hwX0 (by decide) (by decide +kernel) dX0_meet_38 ?_
      refine lv_iload_n hx hb dX0_meet_41 rfl (lv_at hl 2 rfl) ?_
      refine y_putIN E h hI8 hF8 (ty := .int) (v := nI p2) (fi_be_heaps g) rfl hwX4 tyX4_ok nmX4 (by decide) (by decide +kernel) (by decide +kernel) (by decide +kernel) rfl rfl (ba_some rfl (Bd.mk (n := p2) (by omega))) rfl dX0_meet_42 (fun s11 H locs q11 hI11 hF11 h => ?_)
      have e12 : s11.1 12 = 0 := (congrArg (fun t : ST => t.1 12) q11).trans e9
      have e13 : s11.1 11 = p3 := (congrArg (fun t : ST => t.1 11) q11).trans e10
      have e14 : s11.1 10 = nI p2 := congrArg (fun t : ST => t.1 10) q11
      refine lv_iconst (v := 0) hx hb dX0_meet_45 (by decide) ?_
      refine lv_istore (lv' := [(6, .int 0), (0, .ref (g.2.1 47)), (1, .int p1), (2, .int (nI p2)), (3, .int p3), (4, .long p4)]) hx hb dX0_meet_46 hl (by decide) rfl (fun ls hl => ?_)
      have loop48_15 : ∀ (fu : Nat) (t15 : ST) (i15_6 : Nat), INV t15 → Fr [(10, 11), (14, 16)] [(41, 41)] σ t15 → t15.1 12 = 0 → t15.1 11 = p3 → t15.1 10 = nI p2 → i15_6 ≤ 9 → 9 - i15_6 < fu → ∀ (H : Heap) (locs : List Loc) (ls : Array Slot), HW g t15 s H locs → lv_has ls 7 [(6, .int (nI i15_6)), (0, .ref (g.2.1 47)), (1, .int p1), (2, .int (nI p2)), (3, .int p3), (4, .long p4)] → W p l e { frames := 2, cells := 0, slots := 0, locals := 45 } s m args below meth c H locs 0 0 (MQ below (XQv g (fun σ' => INV σ' ∧ Fr [(10, 11), (14, 16)] [(41, 41)] σ σ')) args s 0 0 (Aw g)) (F0 m 48 ls []) := by
        intro fu
        induction fu with
        | zero => intro t15 i15_6 hI_15 hF_15 e16 e17 e18 bi15_6 hm; exact absurd hm (Nat.not_lt_zero _)
        | succ fu ih =>
          have ih15 := ih
          clear ih
          intro t15 i15_6 hI_15 hF_15 e16 e17 e18 bi15_6 hm15 H locs ls h hl
          refine lv_iload hx hb dX0_meet_48 (lv_at hl 0 rfl) ?_
          refine lv_iload_n hx hb dX0_meet_50 rfl (lv_at hl 2 rfl) ?_
          refine lv_icmp_ge (tgt := 84) hx hb dX0_meet_51 (by decide) (fun c19 => ?_) (fun c19 => ?_)
          · skip
            exact x_vret E h ⟨hI_15, hF_15⟩ dX0_meet_84
          · skip
            refine lv_iload hx hb dX0_meet_54 (lv_at hl 0 rfl) ?_
            refine lv_bipush (v := 9) hx hb dX0_meet_56 (by decide) ?_
            refine lv_icmp_ge (tgt := 84) hx hb dX0_meet_58 (by decide) (fun c22 => ?_) (fun c22 => ?_)
            · skip
              have b23 : 9 ≤ i15_6 := y_le (a := 9) (b := i15_6) (by omega) (by omega) c22
              exact x_vret E h ⟨hI_15, hF_15⟩ dX0_meet_84
            · skip
              have b24 : i15_6 < 9 := y_nle (a := 9) (b := i15_6) (by omega) (by omega) c22
              refine lv_aload_n hx hb dX0_meet_61 rfl (lv_at hl 1 rfl) ?_
              refine x_getR E h (fr_al_best g) rfl hwX0 (by decide) (by decide +kernel) dX0_meet_62 ?_
              refine x_getRN E h (fr_be_heapOf g) rfl hwX4 (by decide) (by decide +kernel) dX0_meet_65 ?_
              refine lv_iload hx hb dX0_meet_68 (lv_at hl 0 rfl) ?_
              refine lv_aload_n hx hb dX0_meet_70 rfl (lv_at hl 1 rfl) ?_
              refine x_getR E h (fr_al_heapOf g) rfl hwX0 (by decide) (by decide +kernel) dX0_meet_71 ?_
              refine lv_iload hx hb dX0_meet_74 (lv_at hl 0 rfl) ?_
              obtain ⟨n25, b25, e25⟩ := hI_15.2 44 8 rfl i15_6
              refine x_ldI E h (ia_al_heapOf g) (i := nI i15_6) (vp_in_nI (by omega) (by decide)) (v := nI n25) ((congrArg (t15.2.2 44) (nI_clamp (by omega))).trans e25) dX0_meet_76 ?_
              refine y_stI E h hI_15 hF_15 (ia_be_heapOf g) (i := nI i15_6) (vp_in_nI (by omega) (by decide)) (j := i15_6) (nI_clamp (by omega)) (ba_some rfl (Bd.mk (n := n25) (by omega))) rfl dX0_meet_77 (fun s26 H locs q26 hI26 hF26 h => ?_)
              have e27 : s26.1 12 = 0 := (congrArg (fun t : ST => t.1 12) q26).trans e16
              have e28 : s26.1 11 = p3 := (congrArg (fun t : ST => t.1 11) q26).trans e17
              have e29 : s26.1 10 = nI p2 := (congrArg (fun t : ST => t.1 10) q26).trans e18
              refine lv_iinc (v := (nI (i15_6 + 1))) (lv' := [(6, .int (nI (i15_6 + 1))), (0, .ref (g.2.1 47)), (1, .int p1), (2, .int (nI p2)), (3, .int p3), (4, .long p4)]) hx hb dX0_meet_78 hl (k := 0) rfl (nI_add i15_6 1) (by decide) rfl (fun ls hl => ?_)
              refine lv_goto (tgt := 48) hx hb dX0_meet_81 (by decide) ?_
              exact ih15 s26 (i15_6 + 1) hI26 hF26 e27 e28 e29 (by omega) (by omega) _ _ _ h (lv_sub hl [0, 1, 2, 3, 4, 5] rfl)
      exact loop48_15 _ s11 0 hI11 hF11 e12 e13 e14 (Nat.zero_le _) (Nat.lt_succ_self _) _ _ _ h (lv_sub hl [0, 1, 2, 3, 4, 5] rfl)
  · skip
    refine lv_aload_n hx hb dX0_meet_7 rfl (lv_at hl 0 rfl) ?_
    refine lv_iload_n hx hb dX0_meet_8 rfl (lv_at hl 2 rfl) ?_
    refine lv_iload_n hx hb dX0_meet_9 rfl (lv_at hl 3 rfl) ?_
    refine lv_lload hx hb dX0_meet_10 (lv_at hl 4 rfl) ?_
    refine x_vv E h (na := 3) (As := [.int (nI p2), .int p3, .long p4]) (aX0_meetNear_0 l g σ hI (nI p2) p3 p4) (oc_al g) rfl gX0_meet_X0_meetNear rfl ⟨rfl, rfl⟩ rfl (by decide +kernel) ⟨Nat.le_of_ble_eq_true rfl, Nat.le_of_ble_eq_true rfl⟩ hl.1 rfl (Nat.le_of_ble_eq_true rfl) dX0_meet_12 ⟨Nat.le_of_ble_eq_true rfl, Nat.le_of_ble_eq_true rfl⟩ (fun s31 H locs q31 h => ?_)
    obtain ⟨hI31, f31⟩ := q31
    have hF31 := hF.call f31 (I := [(10, 11), (14, 16)]) (J := [(41, 41)]) rfl rfl
    have e32 : s31.1 12 = x1 := ((f31.1 12 rfl)).trans e1
    refine lv_goto (tgt := 84) hx hb dX0_meet_15 (by decide) ?_
    exact x_vret E h ⟨hI31, hF31⟩ dX0_meet_84
set_option maxHeartbeats 4000000 in
set_option maxRecDepth 100000 in
theorem aX1_gainOf_0 (l : Launch) (g : CX) (σ : ST) (hI : INV σ) (p1 : Int32) (p2 : Int32) : XM l g yX1_gainOf wsX1_gainOf { frames := 0, cells := 0, slots := 0, locals := 0 } [.ref (g.2.1 25), .int p1, .int p2] σ (XQi g (fun r σ' => σ = σ')) := by
  refine x_met (own := RX1) (cc := cX1_gainOf) (maxL := 4) (ret := (some .int)) (lv := [(0, .ref (g.2.1 25)), (1, .int p1), (2, .int p2)]) (by decide) rfl rfl (Nat.le_of_ble_eq_true rfl) rfl ?_
  intro p e s m args below meth c ls E h hl
  have hx := E.1
  have hb := E.2.1
  have hown := E.2.2.2.1
  have hts := E.2.2.2.2.1
  have hwX1 : ∀ w ∈ wsX10, w ∈ wsX1_gainOf := by decide +kernel
  refine lv_iconst (v := 1) hx hb dX1_gainOf_0 (by decide) ?_
  refine lv_iload_n hx hb dX1_gainOf_1 rfl (lv_at hl 1 rfl) ?_
  refine lv_ishl hx hb dX1_gainOf_2 ?_
  refine lv_topi (fun x1 e1 => ?_)
  refine lv_iload_n hx hb dX1_gainOf_3 rfl (lv_at hl 2 rfl) ?_
  refine lv_ior hx hb dX1_gainOf_4 ?_
  refine lv_topi (fun x2 e2 => ?_)
  refine lv_istore_n (lv' := [(3, .int x2), (0, .ref (g.2.1 25)), (1, .int p1), (2, .int p2)]) hx hb dX1_gainOf_5 rfl hl (by decide) rfl (fun ls hl => ?_)
  refine lv_iload_n hx hb dX1_gainOf_6 rfl (lv_at hl 0 rfl) ?_
  refine lv_if_lt (tgt := 28) hx hb dX1_gainOf_7 (by decide) (fun c3 => ?_) (fun c3 => ?_)
  · skip
    refine lv_iconst (v := 0) hx hb dX1_gainOf_28 (by decide) ?_
    exact x_iret E h rfl dX1_gainOf_29
  · skip
    refine lv_iload_n hx hb dX1_gainOf_10 rfl (lv_at hl 0 rfl) ?_
    refine lv_aload_n hx hb dX1_gainOf_11 rfl (lv_at hl 1 rfl) ?_
    refine x_getR E h (fr_bo_gain g) rfl hwX1 (by decide) (by decide +kernel) dX1_gainOf_12 ?_
    refine x_len E h (ia_bo_gain g) (v := 512) (by decide) dX1_gainOf_15 ?_
    refine lv_icmp_ge (tgt := 28) hx hb dX1_gainOf_16 (by decide) (fun c6 => ?_) (fun c6 => ?_)
    · skip
      refine lv_iconst (v := 0) hx hb dX1_gainOf_28 (by decide) ?_
      exact x_iret E h rfl dX1_gainOf_29
    · skip
      obtain ⟨n9, b9, rfl⟩ := y_rnle (N := 512) (y_lo1 c3 (by decide)) c6 (by omega)
      have b10 : 0 ≤ n9 := y_nlt (a := n9) (b := 0) (by omega) (by omega) c3
      have b11 : n9 < 512 := y_nle (a := 512) (b := n9) (by omega) (by omega) c6
      refine lv_aload_n hx hb dX1_gainOf_19 rfl (lv_at hl 1 rfl) ?_
      refine x_getR E h (fr_bo_gain g) rfl hwX1 (by decide) (by decide +kernel) dX1_gainOf_20 ?_
      refine lv_iload_n hx hb dX1_gainOf_23 rfl (lv_at hl 0 rfl) ?_
      refine x_ldI E h (ia_bo_gain g) (i := nI n9) (vp_in_nI (by omega) (by decide)) (v := σ.2.2 40 n9) (congrArg (σ.2.2 40) (nI_clamp (by omega))) dX1_gainOf_24 ?_
      refine lv_goto (tgt := 29) hx hb dX1_gainOf_25 (by decide) ?_
      exact x_iret E h rfl dX1_gainOf_29
set_option maxHeartbeats 4000000 in
set_option maxRecDepth 100000 in
theorem aX0_placeOfPairs_0 (l : Launch) (g : CX) (σ : ST) (hI : INV σ) (p0 : Int32) : XM l g yX0_placeOfPairs wsX0_placeOfPairs { frames := 0, cells := 0, slots := 0, locals := 0 } [.int p0] σ (XQi g (fun r σ' => σ = σ')) := by
  refine x_met (own := RX0) (cc := cX0_placeOfPairs) (maxL := 1) (ret := (some .int)) (lv := [(0, .int p0)]) (by decide) rfl rfl (Nat.le_of_ble_eq_true rfl) rfl ?_
  intro p e s m args below meth c ls E h hl
  have hx := E.1
  have hb := E.2.1
  have hown := E.2.2.2.1
  have hts := E.2.2.2.2.1
  refine lv_iload_n hx hb dX0_placeOfPairs_0 rfl (lv_at hl 0 rfl) ?_
  refine lv_iload_n hx hb dX0_placeOfPairs_1 rfl (lv_at hl 0 rfl) ?_
  refine lv_iconst (v := 1) hx hb dX0_placeOfPairs_2 (by decide) ?_
  refine lv_isub hx hb dX0_placeOfPairs_3 ?_
  refine lv_topi (fun x1 e1 => ?_)
  refine lv_imul hx hb dX0_placeOfPairs_4 ?_
  refine lv_topi (fun x2 e2 => ?_)
  refine lv_iconst (v := 2) hx hb dX0_placeOfPairs_5 (by decide) ?_
  refine lv_idiv hx hb dX0_placeOfPairs_6 (by decide) ?_
  refine lv_topi (fun x3 e3 => ?_)
  exact x_iret E h rfl dX0_placeOfPairs_7
set_option maxHeartbeats 4000000 in
set_option maxRecDepth 100000 in
theorem aX0_deal_0r (l : Launch) (g : CX) : ∀ (d : Nat) (σ : ST) (hI : INV σ) (p2 : Nat) (p3 : Nat) (p4 : Int32) (p5 : Int64) (hh0 : p2 ≤ 9) (hh1 : p3 ≤ 9) (hd : 9 - p2 < d), XM l g yX0_deal wsX0_deal { frames := d + 3, cells := 0, slots := 0, locals := d * 28 + 71 } [.ref (g.2.1 47), .ref (g.2.1 25), .int (nI p2), .int (nI p3), .int p4, .long p5] σ (XQv g (fun σ' => INV σ' ∧ Fr [(10, 11), (14, 16)] [(41, 41), (44, 45)] σ σ')) := by
  intro d
  induction d with
  | zero => intro σ hI p2 p3 p4 p5 hh0 hh1 hd; exact absurd hd (Nat.not_lt_zero _)
  | succ d ih =>
  intro σ hI p2 p3 p4 p5 hh0 hh1 hd
  refine x_met (own := RX0) (cc := cX0_deal) (maxL := 9) (ret := none) (lv := [(0, .ref (g.2.1 47)), (1, .ref (g.2.1 25)), (2, .int (nI p2)), (3, .int (nI p3)), (4, .int p4), (5, .long p5)]) (by decide) rfl rfl (Nat.le_of_ble_eq_true rfl) rfl ?_
  intro p e s m args below meth c ls E h hl
  have hx := E.1
  have hb := E.2.1
  have hown := E.2.2.2.1
  have hts := E.2.2.2.2.1
  have hF : Fr [(10, 11), (14, 16)] [(41, 41), (44, 45)] σ σ := Fr.refl σ
  have hwX0 : ∀ w ∈ wsX00, w ∈ wsX0_deal := by decide +kernel
  have hwX1 : ∀ w ∈ wsX10, w ∈ wsX0_deal := by decide +kernel
  refine lv_iload_n hx hb dX0_deal_0 rfl (lv_at hl 2 rfl) ?_
  refine lv_aload_n hx hb dX0_deal_1 rfl (lv_at hl 1 rfl) ?_
  obtain ⟨n1, b1, e1⟩ := hI.1 9 9 rfl
  refine x_getIN E h (fi_bo_pieces g) rfl hwX1 (by decide) (by decide +kernel) (v := nI n1) e1 dX0_deal_2 ?_
  refine lv_icmp_ge (tgt := 14) hx hb dX0_deal_5 (by decide) (fun c2 => ?_) (fun c2 => ?_)
  · skip
    have b3 : n1 ≤ p2 := y_le (a := n1) (b := p2) (by omega) (by omega) c2
    refine lv_aload_n hx hb dX0_deal_14 rfl (lv_at hl 0 rfl) ?_
    refine lv_aload_n hx hb dX0_deal_15 rfl (lv_at hl 1 rfl) ?_
    refine x_getIN E h (fi_bo_pieces g) rfl hwX1 (by decide) (by decide +kernel) (v := nI n1) e1 dX0_deal_16 ?_
    refine lv_iload_n hx hb dX0_deal_19 rfl (lv_at hl 3 rfl) ?_
    refine lv_iload hx hb dX0_deal_20 (lv_at hl 4 rfl) ?_
    refine lv_lload hx hb dX0_deal_22 (lv_at hl 5 rfl) ?_
    refine x_vv E h (na := 4) (As := [.int (nI n1), .int (nI p3), .int p4, .long p5]) (aX0_meet_0 l g σ hI (nI n1) p3 p4 p5 (by omega)) (oc_al g) rfl gX0_deal_X0_meet rfl ⟨rfl, rfl⟩ rfl (by decide +kernel) ⟨by dsimp only; omega, Nat.le_trans (m := 71) (Nat.le_of_ble_eq_true rfl) (by dsimp only; omega)⟩ hl.1 rfl (Nat.le_of_ble_eq_true rfl) dX0_deal_24 ⟨Nat.le_of_ble_eq_true rfl, Nat.le_of_ble_eq_true rfl⟩ (fun s4 H locs q4 h => ?_)
    obtain ⟨hI4, f4⟩ := q4
    have hF4 := hF.call f4 (I := [(10, 11), (14, 16)]) (J := [(41, 41), (44, 45)]) rfl rfl
    have e5 : s4.1 9 = nI n1 := ((f4.1 9 rfl)).trans e1
    exact x_vret E h ⟨hI4, hF4⟩ dX0_deal_27
  · skip
    have b6 : p2 < n1 := y_nle (a := n1) (b := p2) (by omega) (by omega) c2
    refine lv_iload_n hx hb dX0_deal_8 rfl (lv_at hl 2 rfl) ?_
    refine lv_bipush (v := 9) hx hb dX0_deal_9 (by decide) ?_
    refine lv_icmp_lt (tgt := 28) hx hb dX0_deal_11 (by decide) (fun c7 => ?_) (fun c7 => ?_)
    · skip
      have b8 : p2 < 9 := y_lt (a := p2) (b := 9) (by omega) (by omega) c7
      refine lv_iconst (v := 0) hx hb dX0_deal_28 (by decide) ?_
      refine lv_istore (lv' := [(7, .int 0), (0, .ref (g.2.1 47)), (1, .ref (g.2.1 25)), (2, .int (nI p2)), (3, .int (nI p3)), (4, .int p4), (5, .long p5)]) hx hb dX0_deal_29 hl (by decide) rfl (fun ls hl => ?_)
      have loop31_9 : ∀ (fu : Nat) (t9 : ST) (i9_7 : Nat), INV t9 → Fr [(10, 11), (14, 16)] [(41, 41), (44, 45)] σ t9 → t9.1 9 = nI n1 → i9_7 ≤ 9 → 9 - i9_7 < fu → ∀ (H : Heap) (locs : List Loc) (ls : Array Slot), HW g t9 s H locs → lv_has ls 9 [(7, .int (nI i9_7)), (0, .ref (g.2.1 47)), (1, .ref (g.2.1 25)), (2, .int (nI p2)), (3, .int (nI p3)), (4, .int p4), (5, .long p5)] → W p l e { frames := (d + 1) + 3, cells := 0, slots := 0, locals := (d + 1) * 28 + 71 } s m args below meth c H locs 0 0 (MQ below (XQv g (fun σ' => INV σ' ∧ Fr [(10, 11), (14, 16)] [(41, 41), (44, 45)] σ σ')) args s 0 0 (Aw g)) (F0 m 31 ls []) := by
        intro fu
        induction fu with
        | zero => intro t9 i9_7 hI_9 hF_9 e10 bi9_7 hm; exact absurd hm (Nat.not_lt_zero _)
        | succ fu ih =>
          have ih9 := ih
          clear ih
          intro t9 i9_7 hI_9 hF_9 e10 bi9_7 hm9 H locs ls h hl
          refine lv_iload hx hb dX0_deal_31 (lv_at hl 0 rfl) ?_
          refine lv_iload_n hx hb dX0_deal_33 rfl (lv_at hl 4 rfl) ?_
          refine lv_icmp_gt (tgt := 126) hx hb dX0_deal_34 (by decide) (fun c11 => ?_) (fun c11 => ?_)
          · skip
            have b12 : p3 < i9_7 := y_lt (a := p3) (b := i9_7) (by omega) (by omega) c11
            exact x_vret E h ⟨hI_9, hF_9⟩ dX0_deal_126
          · skip
            have b13 : i9_7 ≤ p3 := y_nlt (a := p3) (b := i9_7) (by omega) (by omega) c11
            refine lv_iload hx hb dX0_deal_37 (lv_at hl 0 rfl) ?_
            refine lv_bipush (v := 9) hx hb dX0_deal_39 (by decide) ?_
            refine lv_icmp_ge (tgt := 126) hx hb dX0_deal_41 (by decide) (fun c14 => ?_) (fun c14 => ?_)
            · skip
              have b15 : 9 ≤ i9_7 := y_le (a := 9) (b := i9_7) (by omega) (by omega) c14
              exact x_vret E h ⟨hI_9, hF_9⟩ dX0_deal_126
            · skip
              have b16 : i9_7 < 9 := y_nle (a := 9) (b := i9_7) (by omega) (by omega) c14
              refine lv_aload_n hx hb dX0_deal_44 rfl (lv_at hl 1 rfl) ?_
              refine x_getR E h (fr_al_members g) rfl hwX0 (by decide) (by decide +kernel) dX0_deal_45 ?_
              refine lv_iload hx hb dX0_deal_48 (lv_at hl 0 rfl) ?_
              refine x_ldI E h (ia_al_members g) (i := nI i9_7) (vp_in_nI (by omega) (by decide)) (v := t9.2.2 45 i9_7) (congrArg (t9.2.2 45) (nI_clamp (by omega))) dX0_deal_50 ?_
              refine lv_topi (fun x17 e17 => ?_)
              refine lv_istore (lv' := [(8, .int x17), (7, .int (nI i9_7)), (0, .ref (g.2.1 47)), (1, .ref (g.2.1 25)), (2, .int (nI p2)), (3, .int (nI p3)), (4, .int p4), (5, .long p5)]) hx hb dX0_deal_51 hl (by decide) rfl (fun ls hl => ?_)
              refine lv_aload_n hx hb dX0_deal_53 rfl (lv_at hl 2 rfl) ?_
              refine x_getR E h (fr_al_heapOf g) rfl hwX0 (by decide) (by decide +kernel) dX0_deal_54 ?_
              refine lv_iload_n hx hb dX0_deal_57 rfl (lv_at hl 4 rfl) ?_
              refine lv_iload hx hb dX0_deal_58 (lv_at hl 1 rfl) ?_
              refine y_stI E h hI_9 hF_9 (ia_al_heapOf g) (i := nI p2) (vp_in_nI (by omega) (by decide)) (j := p2) (nI_clamp (by omega)) (ba_some rfl (Bd.mk (n := i9_7) (by omega))) rfl dX0_deal_60 (fun s18 H locs q18 hI18 hF18 h => ?_)
              have e19 : s18.1 9 = nI n1 := (congrArg (fun t : ST => t.1 9) q18).trans e10
              refine lv_aload_n hx hb dX0_deal_61 rfl (lv_at hl 2 rfl) ?_
              refine x_getR E h (fr_al_members g) rfl hwX0 (by decide) (by decide +kernel) dX0_deal_62 ?_
              refine lv_iload hx hb dX0_deal_65 (lv_at hl 1 rfl) ?_
              refine lv_iload hx hb dX0_deal_67 (lv_at hl 0 rfl) ?_
              refine lv_iconst (v := 1) hx hb dX0_deal_69 (by decide) ?_
              refine lv_iload_n hx hb dX0_deal_70 rfl (lv_at hl 4 rfl) ?_
              refine lv_ishl hx hb dX0_deal_71 ?_
              refine x_topI (v2 := nI (2 ^ p2)) (y_shl1 (by omega)) ?_
              have b20 := y_pow (p := p2) (by omega)
              refine lv_ior hx hb dX0_deal_72 ?_
              refine lv_topi (fun x21 e21 => ?_)
              refine y_stI E h hI18 hF18 (ia_al_members g) (i := nI i9_7) (vp_in_nI (by omega) (by decide)) (j := i9_7) (nI_clamp (by omega)) (ba_none rfl) rfl dX0_deal_73 (fun s22 H locs q22 hI22 hF22 h => ?_)
              have e23 : s22.1 9 = nI n1 := (congrArg (fun t : ST => t.1 9) q22).trans e19
              refine lv_aload_n hx hb dX0_deal_74 rfl (lv_at hl 2 rfl) ?_
              refine lv_aload_n hx hb dX0_deal_75 rfl (lv_at hl 3 rfl) ?_
              refine lv_iload_n hx hb dX0_deal_76 rfl (lv_at hl 4 rfl) ?_
              refine lv_iconst (v := 1) hx hb dX0_deal_77 (by decide) ?_
              refine lv_iadd hx hb dX0_deal_78 ?_
              refine x_topI (v2 := nI (p2 + 1)) (nI_add p2 1) ?_
              refine lv_iload_n hx hb dX0_deal_79 rfl (lv_at hl 5 rfl) ?_
              refine lv_iload hx hb dX0_deal_80 (lv_at hl 1 rfl) ?_
              refine lv_iconst (v := 1) hx hb dX0_deal_82 (by decide) ?_
              refine lv_iadd hx hb dX0_deal_83 ?_
              refine x_topI (v2 := nI (i9_7 + 1)) (nI_add i9_7 1) ?_
              refine x_max E hl.1 (by decide +kernel) (by decide +kernel) (by decide +kernel) (by decide +kernel) ⟨by dsimp only; omega, Nat.le_trans (m := 71) (Nat.le_of_ble_eq_true rfl) (by dsimp only; omega)⟩ ⟨Nat.zero_le _, Nat.zero_le _⟩ dX0_deal_84 ?_
              obtain ⟨n24, b24, e24⟩ := y_max (a := p3) (b := (i9_7 + 1)) (by omega) (by omega)
              refine x_topI (v2 := nI n24) e24 ?_
              refine lv_iload hx hb dX0_deal_87 (lv_at hl 6 rfl) ?_
              refine lv_aload_n hx hb dX0_deal_89 rfl (lv_at hl 3 rfl) ?_
              refine lv_iload_n hx hb dX0_deal_90 rfl (lv_at hl 4 rfl) ?_
              refine lv_iload hx hb dX0_deal_91 (lv_at hl 0 rfl) ?_
              refine x_vi E h (na := 2) (As := [.int (nI p2), .int x17]) (aX1_gainOf_0 l g s22 hI22 (nI p2) x17) (oc_bo g) rfl gX0_deal_X1_gainOf rfl ⟨rfl, rfl⟩ rfl (by decide +kernel) ⟨by dsimp only; omega, Nat.le_trans (m := 71) (Nat.le_of_ble_eq_true rfl) (by dsimp only; omega)⟩ hl.1 rfl (Nat.le_of_ble_eq_true rfl) dX0_deal_93 ⟨Nat.le_of_ble_eq_true rfl, Nat.le_of_ble_eq_true rfl⟩ (fun r25 s25 H locs q25 h => ?_)
              subst q25
              refine lv_iadd hx hb dX0_deal_96 ?_
              refine lv_topi (fun x26 e26 => ?_)
              refine lv_lload hx hb dX0_deal_97 (lv_at hl 7 rfl) ?_
              refine lv_iload hx hb dX0_deal_99 (lv_at hl 0 rfl) ?_
              refine lv_i2l hx hb dX0_deal_101 rfl ?_
              refine lv_topl (fun y27 e27 => ?_)
              refine lv_iload_n hx hb dX0_deal_102 rfl (lv_at hl 4 rfl) ?_
              refine x_si16 E h (na := 1) (As := [.int (nI p2)]) (aX0_placeOfPairs_0 l g s22 hI22 (nI p2)) gX0_deal_X0_placeOfPairs rfl ⟨rfl, rfl⟩ rfl (by decide +kernel) ⟨by dsimp only; omega, Nat.le_trans (m := 71) (Nat.le_of_ble_eq_true rfl) (by dsimp only; omega)⟩ hl.1 rfl (Nat.le_of_ble_eq_true rfl) dX0_deal_103 ⟨Nat.le_of_ble_eq_true rfl, Nat.le_of_ble_eq_true rfl⟩ (fun r28 s28 H locs q28 h => ?_)
              subst q28
              refine lv_lshl hx hb dX0_deal_106 rfl ?_
              refine lv_topl (fun y29 e29 => ?_)
              refine lv_lor hx hb dX0_deal_107 ?_
              refine lv_topl (fun y30 e30 => ?_)
              refine x_sv E h (na := 6) (As := [.ref (g.2.1 47), .ref (g.2.1 25), .int (nI (p2 + 1)), .int (nI n24), .int x26, .long y30]) (ih s22 hI22 (p2 + 1) n24 x26 y30 (by omega) (by omega) (by omega)) gX0_deal_X0_deal rfl ⟨rfl, rfl⟩ rfl (by decide +kernel) ⟨by dsimp only; omega, by dsimp only; omega⟩ hl.1 rfl (Nat.le_of_ble_eq_true rfl) dX0_deal_108 ⟨Nat.le_of_ble_eq_true rfl, Nat.le_of_ble_eq_true rfl⟩ (fun s31 H locs q31 h => ?_)
              obtain ⟨hI31, f31⟩ := q31
              have hF31 := hF22.call f31 (I := [(10, 11), (14, 16)]) (J := [(41, 41), (44, 45)]) rfl rfl
              have e32 : s31.1 9 = nI n1 := ((f31.1 9 rfl)).trans e23
              refine lv_aload_n hx hb dX0_deal_111 rfl (lv_at hl 2 rfl) ?_
              refine x_getR E h (fr_al_members g) rfl hwX0 (by decide) (by decide +kernel) dX0_deal_112 ?_
              refine lv_iload hx hb dX0_deal_115 (lv_at hl 1 rfl) ?_
              refine lv_iload hx hb dX0_deal_117 (lv_at hl 0 rfl) ?_
              refine y_stI E h hI31 hF31 (ia_al_members g) (i := nI i9_7) (vp_in_nI (by omega) (by decide)) (j := i9_7) (nI_clamp (by omega)) (ba_none rfl) rfl dX0_deal_119 (fun s33 H locs q33 hI33 hF33 h => ?_)
              have e34 : s33.1 9 = nI n1 := (congrArg (fun t : ST => t.1 9) q33).trans e32
              refine lv_iinc (v := (nI (i9_7 + 1))) (lv' := [(7, .int (nI (i9_7 + 1))), (8, .int x17), (0, .ref (g.2.1 47)), (1, .ref (g.2.1 25)), (2, .int (nI p2)), (3, .int (nI p3)), (4, .int p4), (5, .long p5)]) hx hb dX0_deal_120 hl (k := 1) rfl (nI_add i9_7 1) (by decide) rfl (fun ls hl => ?_)
              refine lv_goto (tgt := 31) hx hb dX0_deal_123 (by decide) ?_
              exact ih9 s33 (i9_7 + 1) hI33 hF33 e34 (by omega) (by omega) _ _ _ h (lv_sub hl [0, 2, 3, 4, 5, 6, 7] rfl)
      exact loop31_9 _ σ 0 hI hF e1 (Nat.zero_le _) (Nat.lt_succ_self _) _ _ _ h (lv_sub hl [0, 1, 2, 3, 4, 5, 6] rfl)
    · skip
      have b35 : 9 ≤ p2 := y_nlt (a := p2) (b := 9) (by omega) (by omega) c7
      refine lv_aload_n hx hb dX0_deal_14 rfl (lv_at hl 0 rfl) ?_
      refine lv_aload_n hx hb dX0_deal_15 rfl (lv_at hl 1 rfl) ?_
      refine x_getIN E h (fi_bo_pieces g) rfl hwX1 (by decide) (by decide +kernel) (v := nI n1) e1 dX0_deal_16 ?_
      refine lv_iload_n hx hb dX0_deal_19 rfl (lv_at hl 3 rfl) ?_
      refine lv_iload hx hb dX0_deal_20 (lv_at hl 4 rfl) ?_
      refine lv_lload hx hb dX0_deal_22 (lv_at hl 5 rfl) ?_
      refine x_vv E h (na := 4) (As := [.int (nI n1), .int (nI p3), .int p4, .long p5]) (aX0_meet_0 l g σ hI (nI n1) p3 p4 p5 (by omega)) (oc_al g) rfl gX0_deal_X0_meet rfl ⟨rfl, rfl⟩ rfl (by decide +kernel) ⟨by dsimp only; omega, Nat.le_trans (m := 71) (Nat.le_of_ble_eq_true rfl) (by dsimp only; omega)⟩ hl.1 rfl (Nat.le_of_ble_eq_true rfl) dX0_deal_24 ⟨Nat.le_of_ble_eq_true rfl, Nat.le_of_ble_eq_true rfl⟩ (fun s36 H locs q36 h => ?_)
      obtain ⟨hI36, f36⟩ := q36
      have hF36 := hF.call f36 (I := [(10, 11), (14, 16)]) (J := [(41, 41), (44, 45)]) rfl rfl
      have e37 : s36.1 9 = nI n1 := ((f36.1 9 rfl)).trans e1
      exact x_vret E h ⟨hI36, hF36⟩ dX0_deal_27
set_option maxHeartbeats 4000000 in
set_option maxRecDepth 100000 in
theorem aX0_deal_0 (l : Launch) (g : CX) (σ : ST) (hI : INV σ) (p2 : Nat) (p3 : Nat) (p4 : Int32) (p5 : Int64) (hh0 : p2 ≤ 9) (hh1 : p3 ≤ 9) : XM l g yX0_deal wsX0_deal { frames := 13, cells := 0, slots := 0, locals := 351 } [.ref (g.2.1 47), .ref (g.2.1 25), .int (nI p2), .int (nI p3), .int p4, .long p5] σ (XQv g (fun σ' => INV σ' ∧ Fr [(10, 11), (14, 16)] [(41, 41), (44, 45)] σ σ')) :=
  aX0_deal_0r l g 10 σ hI p2 p3 p4 p5 hh0 hh1 (by omega)
set_option maxHeartbeats 4000000 in
set_option maxRecDepth 100000 in
theorem aX0_findBest_0 (l : Launch) (g : CX) (σ : ST) (hI : INV σ)  : XM l g yX0_findBest wsX0_findBest { frames := 14, cells := 0, slots := 0, locals := 379 } [.ref (g.2.1 47), .ref (g.2.1 25)] σ (XQv g (fun σ' => INV σ' ∧ Fr [(10, 12), (14, 16)] [(41, 41), (44, 45)] σ σ')) := by
  refine x_met (own := RX0) (cc := cX0_findBest) (maxL := 2) (ret := none) (lv := [(0, .ref (g.2.1 47)), (1, .ref (g.2.1 25))]) (by decide) rfl rfl (Nat.le_of_ble_eq_true rfl) rfl ?_
  intro p e s m args below meth c ls E h hl
  have hx := E.1
  have hb := E.2.1
  have hown := E.2.2.2.1
  have hts := E.2.2.2.2.1
  have hF : Fr [(10, 12), (14, 16)] [(41, 41), (44, 45)] σ σ := Fr.refl σ
  have hwX0 : ∀ w ∈ wsX00, w ∈ wsX0_findBest := by decide +kernel
  have hwX4 : ∀ w ∈ wsX40, w ∈ wsX0_findBest := by decide +kernel
  refine lv_aload_n hx hb dX0_findBest_0 rfl (lv_at hl 0 rfl) ?_
  refine lv_iconst (v := 0) hx hb dX0_findBest_1 (by decide) ?_
  refine y_putI E h hI hF (ty := .boolean) (v := 0) (fi_al_isForNear g) rfl hwX0 tyX0_ok nmX0 (by decide) (by decide +kernel) (by decide +kernel) (by decide +kernel) rfl rfl (ba_none rfl) rfl dX0_findBest_2 (fun s1 H locs q1 hI1 hF1 h => ?_)
  have e2 : s1.1 12 = 0 := congrArg (fun t : ST => t.1 12) q1
  refine lv_aload_n hx hb dX0_findBest_5 rfl (lv_at hl 0 rfl) ?_
  refine x_getR E h (fr_al_best g) rfl hwX0 (by decide) (by decide +kernel) dX0_findBest_6 ?_
  refine lv_ldc (v := (-1000000000)) hx hb hown (hts (.constant RX0 29 (-1000000000)) (by decide +kernel)) dX0_findBest_9 ?_
  refine y_putIN E h hI1 hF1 (ty := .int) (v := (-1000000000)) (fi_be_value g) rfl hwX4 tyX4_ok nmX4 (by decide) (by decide +kernel) (by decide +kernel) (by decide +kernel) rfl rfl (ba_none rfl) rfl dX0_findBest_11 (fun s3 H locs q3 hI3 hF3 h => ?_)
  have e4 : s3.1 12 = 0 := (congrArg (fun t : ST => t.1 12) q3).trans e2
  have e5 : s3.1 11 = (-1000000000) := congrArg (fun t : ST => t.1 11) q3
  refine lv_aload_n hx hb dX0_findBest_14 rfl (lv_at hl 0 rfl) ?_
  refine x_getR E h (fr_al_members g) rfl hwX0 (by decide) (by decide +kernel) dX0_findBest_15 ?_
  refine lv_iconst (v := 0) hx hb dX0_findBest_18 (by decide) ?_
  refine x_sv E h (na := 2) (As := [.ref (g.2.1 53), .int 0]) (k_fill l g _ 53 9 45 (ia_al_members g) (by decide) 0) gX0_findBest_J7_fill_53178 rfl ⟨rfl, rfl⟩ rfl (by decide +kernel) ⟨Nat.le_of_ble_eq_true rfl, Nat.le_of_ble_eq_true rfl⟩ hl.1 rfl (Nat.le_of_ble_eq_true rfl) dX0_findBest_19 ⟨Nat.le_of_ble_eq_true rfl, Nat.le_of_ble_eq_true rfl⟩ (fun s6 H locs q6 h => ?_)
  have hI6 : INV s6 := by rw [← q6]; exact hI3.fill rfl _
  have hF6 : Fr [(10, 12), (14, 16)] [(41, 41), (44, 45)] σ s6 := by rw [← q6]; exact hF3.putA rfl
  have e7 : s6.1 12 = 0 := ((congrArg (fun t : ST => t.1 12) q6).symm).trans e4
  have e8 : s6.1 11 = (-1000000000) := ((congrArg (fun t : ST => t.1 11) q6).symm).trans e5
  refine lv_aload_n hx hb dX0_findBest_22 rfl (lv_at hl 0 rfl) ?_
  refine lv_aload_n hx hb dX0_findBest_23 rfl (lv_at hl 1 rfl) ?_
  refine lv_iconst (v := 0) hx hb dX0_findBest_24 (by decide) ?_
  refine lv_iconst (v := 0) hx hb dX0_findBest_25 (by decide) ?_
  refine lv_iconst (v := 0) hx hb dX0_findBest_26 (by decide) ?_
  refine lv_lconst (v := 0) hx hb dX0_findBest_27 (by decide) ?_
  refine x_sv E h (na := 6) (As := [.ref (g.2.1 47), .ref (g.2.1 25), .int (nI 0), .int (nI 0), .int 0, .long 0]) (aX0_deal_0 l g s6 hI6 0 0 0 0 (by omega) (by omega)) gX0_findBest_X0_deal rfl ⟨rfl, rfl⟩ rfl (by decide +kernel) ⟨Nat.le_of_ble_eq_true rfl, Nat.le_of_ble_eq_true rfl⟩ hl.1 rfl (Nat.le_of_ble_eq_true rfl) dX0_findBest_28 ⟨Nat.le_of_ble_eq_true rfl, Nat.le_of_ble_eq_true rfl⟩ (fun s9 H locs q9 h => ?_)
  obtain ⟨hI9, f9⟩ := q9
  have hF9 := hF6.call f9 (I := [(10, 12), (14, 16)]) (J := [(41, 41), (44, 45)]) rfl rfl
  have e10 : s9.1 12 = 0 := ((f9.1 12 rfl)).trans e7
  exact x_vret E h ⟨hI9, hF9⟩ dX0_findBest_31
set_option maxHeartbeats 4000000 in
set_option maxRecDepth 100000 in
theorem aX3_writeMiddle_1 (l : Launch) (g : CX) (σ : ST) (hI : INV σ) (p2 : Int32) : XM l g yX3_writeMiddle wsX3_writeMiddle { frames := 0, cells := 0, slots := 0, locals := 0 } [.ref (g.2.1 10), .ref (g.2.1 51), .int p2] σ (XQv g (fun σ' => INV σ' ∧ Fr [] [(43, 43)] σ σ')) := by
  refine x_met (own := RX3) (cc := cX3_writeMiddle) (maxL := 4) (ret := none) (lv := [(0, .ref (g.2.1 10)), (1, .ref (g.2.1 51)), (2, .int p2)]) (by decide) rfl rfl (Nat.le_of_ble_eq_true rfl) rfl ?_
  intro p e s m args below meth c ls E h hl
  have hx := E.1
  have hb := E.2.1
  have hown := E.2.2.2.1
  have hts := E.2.2.2.2.1
  have hF : Fr [] [(43, 43)] σ σ := Fr.refl σ
  have hwX3 : ∀ w ∈ wsX30, w ∈ wsX3_writeMiddle := by decide +kernel
  refine lv_aload_n hx hb dX3_writeMiddle_0 rfl (lv_at hl 0 rfl) ?_
  obtain ⟨n1, b1, e1⟩ := hI.1 3 48 rfl
  refine x_getI E h (fi_ga_rows g) rfl hwX3 (by decide) (by decide +kernel) (v := nI n1) e1 dX3_writeMiddle_1 ?_
  refine lv_if_eq (tgt := 19) hx hb dX3_writeMiddle_4 (by decide) (fun c2 => ?_) (fun c2 => ?_)
  · skip
    have b3 : n1 = 0 := y_eq (a := n1) (b := 0) (by omega) (by omega) c2
    exact x_vret E h ⟨hI, hF⟩ dX3_writeMiddle_19
  · skip
    have b4 : ¬ n1 = 0 := y_ne (a := n1) (b := 0) (by omega) (by omega) c2
    refine lv_iload_n hx hb dX3_writeMiddle_7 rfl (lv_at hl 2 rfl) ?_
    refine lv_if_lt (tgt := 19) hx hb dX3_writeMiddle_8 (by decide) (fun c5 => ?_) (fun c5 => ?_)
    · skip
      exact x_vret E h ⟨hI, hF⟩ dX3_writeMiddle_19
    · skip
      refine lv_iload_n hx hb dX3_writeMiddle_11 rfl (lv_at hl 2 rfl) ?_
      refine lv_aload_n hx hb dX3_writeMiddle_12 rfl (lv_at hl 1 rfl) ?_
      refine x_len E h (ia_be_middles g) (v := 36) (by decide) dX3_writeMiddle_13 ?_
      refine lv_iconst (v := 4) hx hb dX3_writeMiddle_14 (by decide) ?_
      refine lv_isub hx hb dX3_writeMiddle_15 ?_
      refine x_topI (v2 := 32) (by decide) ?_
      refine lv_icmp_le (tgt := 20) hx hb dX3_writeMiddle_16 (by decide) (fun c8 => ?_) (fun c8 => ?_)
      · skip
        obtain ⟨n10, b10, rfl⟩ := y_rle (N := 32) (y_lo1 c5 (by decide)) c8 (by omega)
        have b11 : 0 ≤ n10 := y_nlt (a := n10) (b := 0) (by omega) (by omega) c5
        have b12 : n10 ≤ 32 := y_le (a := n10) (b := 32) (by omega) (by omega) c8
        refine lv_iconst (v := 0) hx hb dX3_writeMiddle_20 (by decide) ?_
        refine lv_istore_n (lv' := [(3, .int 0), (0, .ref (g.2.1 10)), (1, .ref (g.2.1 51)), (2, .int (nI n10))]) hx hb dX3_writeMiddle_21 rfl hl (by decide) rfl (fun ls hl => ?_)
        have loop22_13 : ∀ (fu : Nat) (t13 : ST) (i13_3 : Nat), INV t13 → Fr [] [(43, 43)] σ t13 → t13.1 3 = nI n1 → i13_3 ≤ 4 → 4 - i13_3 < fu → ∀ (H : Heap) (locs : List Loc) (ls : Array Slot), HW g t13 s H locs → lv_has ls 4 [(3, .int (nI i13_3)), (0, .ref (g.2.1 10)), (1, .ref (g.2.1 51)), (2, .int (nI n10))] → W p l e { frames := 0, cells := 0, slots := 0, locals := 0 } s m args below meth c H locs 0 0 (MQ below (XQv g (fun σ' => INV σ' ∧ Fr [] [(43, 43)] σ σ')) args s 0 0 (Aw g)) (F0 m 22 ls []) := by
          intro fu
          induction fu with
          | zero => intro t13 i13_3 hI_13 hF_13 e14 bi13_3 hm; exact absurd hm (Nat.not_lt_zero _)
          | succ fu ih =>
            have ih13 := ih
            clear ih
            intro t13 i13_3 hI_13 hF_13 e14 bi13_3 hm13 H locs ls h hl
            refine lv_iload_n hx hb dX3_writeMiddle_22 rfl (lv_at hl 0 rfl) ?_
            refine lv_iconst (v := 4) hx hb dX3_writeMiddle_23 (by decide) ?_
            refine lv_icmp_ge (tgt := 53) hx hb dX3_writeMiddle_24 (by decide) (fun c15 => ?_) (fun c15 => ?_)
            · skip
              have b16 : 4 ≤ i13_3 := y_le (a := 4) (b := i13_3) (by omega) (by omega) c15
              exact x_vret E h ⟨hI_13, hF_13⟩ dX3_writeMiddle_53
            · skip
              have b17 : i13_3 < 4 := y_nle (a := 4) (b := i13_3) (by omega) (by omega) c15
              refine lv_aload_n hx hb dX3_writeMiddle_27 rfl (lv_at hl 2 rfl) ?_
              refine lv_iload_n hx hb dX3_writeMiddle_28 rfl (lv_at hl 3 rfl) ?_
              refine lv_iload_n hx hb dX3_writeMiddle_29 rfl (lv_at hl 0 rfl) ?_
              refine lv_iadd hx hb dX3_writeMiddle_30 ?_
              refine x_topI (v2 := nI (n10 + i13_3)) (nI_add n10 i13_3) ?_
              refine lv_aload_n hx hb dX3_writeMiddle_31 rfl (lv_at hl 1 rfl) ?_
              refine x_getR E h (fr_ga_sorted g) rfl hwX3 (by decide) (by decide +kernel) dX3_writeMiddle_32 ?_
              refine lv_iload_n hx hb dX3_writeMiddle_35 rfl (lv_at hl 0 rfl) ?_
              refine x_row E h (fg_ga_sorted g) (i := nI i13_3) (vp_in_nI (by omega) (by decide)) (kr := 12 + i13_3) (by rw [nI_clamp (by omega)]) dX3_writeMiddle_36 ?_
              refine lv_aload_n hx hb dX3_writeMiddle_37 rfl (lv_at hl 1 rfl) ?_
              refine x_getI E h (fi_ga_rows g) rfl hwX3 (by decide) (by decide +kernel) (v := nI n1) e14 dX3_writeMiddle_38 ?_
              refine lv_iconst (v := 1) hx hb dX3_writeMiddle_41 (by decide) ?_
              refine lv_isub hx hb dX3_writeMiddle_42 ?_
              refine x_topI (v2 := nI (n1 - 1)) (pk_sub (a := n1) (b := 1) (by omega)) ?_
              refine lv_iconst (v := 2) hx hb dX3_writeMiddle_43 (by decide) ?_
              refine lv_idiv hx hb dX3_writeMiddle_44 (by decide) ?_
              refine x_topI (v2 := nI ((n1 - 1) / 2)) (pk_div (a := n1 - 1) (d := 2) (by omega) (by decide) (by decide)) ?_
              refine x_ldI E h (gi_ga_sorted g i13_3 (by omega)) (i := nI ((n1 - 1) / 2)) (vp_in_nI (by omega) (by decide)) (v := t13.2.2 (8 + i13_3) ((n1 - 1) / 2)) (congrArg (t13.2.2 (8 + i13_3)) (nI_clamp (by omega))) dX3_writeMiddle_45 ?_
              refine y_stI E h hI_13 hF_13 (ia_be_middles g) (i := nI (n10 + i13_3)) (vp_in_nI (by omega) (by decide)) (j := (n10 + i13_3)) (nI_clamp (by omega)) (ba_none rfl) rfl dX3_writeMiddle_46 (fun s18 H locs q18 hI18 hF18 h => ?_)
              have e19 : s18.1 3 = nI n1 := (congrArg (fun t : ST => t.1 3) q18).trans e14
              refine lv_iinc (v := (nI (i13_3 + 1))) (lv' := [(3, .int (nI (i13_3 + 1))), (0, .ref (g.2.1 10)), (1, .ref (g.2.1 51)), (2, .int (nI n10))]) hx hb dX3_writeMiddle_47 hl (k := 0) rfl (nI_add i13_3 1) (by decide) rfl (fun ls hl => ?_)
              refine lv_goto (tgt := 22) hx hb dX3_writeMiddle_50 (by decide) ?_
              exact ih13 s18 (i13_3 + 1) hI18 hF18 e19 (by omega) (by omega) _ _ _ h (lv_sub hl [0, 1, 2, 3] rfl)
        exact loop22_13 _ σ 0 hI hF e1 (Nat.zero_le _) (Nat.lt_succ_self _) _ _ _ h (lv_sub hl [0, 1, 2, 3] rfl)
      · skip
        exact x_vret E h ⟨hI, hF⟩ dX3_writeMiddle_19
set_option maxHeartbeats 4000000 in
set_option maxRecDepth 100000 in
theorem aX4_findMiddles_0 (l : Launch) (g : CX) (σ : ST) (hI : INV σ)  : XM l g yX4_findMiddles wsX4_findMiddles { frames := 2, cells := 0, slots := 0, locals := 47 } [.ref (g.2.1 48), .ref (g.2.1 5), .ref (g.2.1 10), .ref (g.2.1 16)] σ (XQv g (fun σ' => INV σ' ∧ Fr [(3, 4)] [(8, 11), (43, 43)] σ σ')) := by
  refine x_met (own := RX4) (cc := cX4_findMiddles) (maxL := 7) (ret := none) (lv := [(0, .ref (g.2.1 48)), (1, .ref (g.2.1 5)), (2, .ref (g.2.1 10)), (3, .ref (g.2.1 16))]) (by decide) rfl rfl (Nat.le_of_ble_eq_true rfl) rfl ?_
  intro p e s m args below meth c ls E h hl
  have hx := E.1
  have hb := E.2.1
  have hown := E.2.2.2.1
  have hts := E.2.2.2.2.1
  have hF : Fr [(3, 4)] [(8, 11), (43, 43)] σ σ := Fr.refl σ
  have hwX2 : ∀ w ∈ wsX20, w ∈ wsX4_findMiddles := by decide +kernel
  have hwX4 : ∀ w ∈ wsX40, w ∈ wsX4_findMiddles := by decide +kernel
  have hwX7 : ∀ w ∈ wsX70, w ∈ wsX4_findMiddles := by decide +kernel
  refine lv_iconst (v := 0) hx hb dX4_findMiddles_0 (by decide) ?_
  refine lv_istore (lv' := [(4, .int 0), (0, .ref (g.2.1 48)), (1, .ref (g.2.1 5)), (2, .ref (g.2.1 10)), (3, .ref (g.2.1 16))]) hx hb dX4_findMiddles_1 hl (by decide) rfl (fun ls hl => ?_)
  obtain ⟨n2, b2, e2⟩ := hI.1 10 9 rfl
  have loop3_1 : ∀ (fu : Nat) (t1 : ST) (i1_4 : Nat), INV t1 → Fr [(3, 4)] [(8, 11), (43, 43)] σ t1 → t1.1 10 = nI n2 → i1_4 ≤ n2 → n2 - i1_4 < fu → ∀ (H : Heap) (locs : List Loc) (ls : Array Slot), HW g t1 s H locs → lv_has ls 7 [(4, .int (nI i1_4)), (0, .ref (g.2.1 48)), (1, .ref (g.2.1 5)), (2, .ref (g.2.1 10)), (3, .ref (g.2.1 16))] → W p l e { frames := 2, cells := 0, slots := 0, locals := 47 } s m args below meth c H locs 0 0 (MQ below (XQv g (fun σ' => INV σ' ∧ Fr [(3, 4)] [(8, 11), (43, 43)] σ σ')) args s 0 0 (Aw g)) (F0 m 3 ls []) := by
    intro fu
    induction fu with
    | zero => intro t1 i1_4 hI_1 hF_1 e3 bi1_4 hm; exact absurd hm (Nat.not_lt_zero _)
    | succ fu ih =>
      have ih1 := ih
      clear ih
      intro t1 i1_4 hI_1 hF_1 e3 bi1_4 hm1 H locs ls h hl
      refine lv_iload hx hb dX4_findMiddles_3 (lv_at hl 0 rfl) ?_
      refine lv_aload_n hx hb dX4_findMiddles_5 rfl (lv_at hl 1 rfl) ?_
      refine x_getI E h (fi_be_heaps g) rfl hwX4 (by decide) (by decide +kernel) (v := nI n2) e3 dX4_findMiddles_6 ?_
      refine lv_icmp_ge (tgt := 106) hx hb dX4_findMiddles_9 (by decide) (fun c4 => ?_) (fun c4 => ?_)
      · skip
        have b5 : n2 ≤ i1_4 := y_le (a := n2) (b := i1_4) (by omega) (by omega) c4
        exact x_vret E h ⟨hI_1, hF_1⟩ dX4_findMiddles_106
      · skip
        have b6 : i1_4 < n2 := y_nle (a := n2) (b := i1_4) (by omega) (by omega) c4
        refine lv_iload hx hb dX4_findMiddles_12 (lv_at hl 0 rfl) ?_
        refine lv_bipush (v := 9) hx hb dX4_findMiddles_14 (by decide) ?_
        refine lv_icmp_ge (tgt := 106) hx hb dX4_findMiddles_16 (by decide) (fun c7 => ?_) (fun c7 => ?_)
        · skip
          have b8 : 9 ≤ i1_4 := y_le (a := 9) (b := i1_4) (by omega) (by omega) c7
          exact x_vret E h ⟨hI_1, hF_1⟩ dX4_findMiddles_106
        · skip
          have b9 : i1_4 < 9 := y_nle (a := 9) (b := i1_4) (by omega) (by omega) c7
          refine lv_aload_n hx hb dX4_findMiddles_19 rfl (lv_at hl 3 rfl) ?_
          refine x_vv E h (na := 0) (As := []) (aX3_empty_0 l g t1 hI_1) (oc_ga g) rfl gX4_findMiddles_X3_empty rfl ⟨rfl, rfl⟩ rfl (by decide +kernel) ⟨Nat.le_of_ble_eq_true rfl, Nat.le_of_ble_eq_true rfl⟩ hl.1 rfl (Nat.le_of_ble_eq_true rfl) dX4_findMiddles_20 ⟨Nat.le_of_ble_eq_true rfl, Nat.le_of_ble_eq_true rfl⟩ (fun s10 H locs q10 h => ?_)
          obtain ⟨hI10, f10⟩ := q10
          have hF10 := hF_1.call f10 (I := [(3, 4)]) (J := [(8, 11), (43, 43)]) rfl rfl
          have e11 : s10.1 10 = nI n2 := ((f10.1 10 rfl)).trans e3
          refine lv_iconst (v := 0) hx hb dX4_findMiddles_23 (by decide) ?_
          refine lv_istore (lv' := [(5, .int 0), (4, .int (nI i1_4)), (0, .ref (g.2.1 48)), (1, .ref (g.2.1 5)), (2, .ref (g.2.1 10)), (3, .ref (g.2.1 16))]) hx hb dX4_findMiddles_24 hl (by decide) rfl (fun ls hl => ?_)
          obtain ⟨n13, b13, e13⟩ := hI10.1 2 48 rfl
          have loop26_12 : ∀ (fu : Nat) (t12 : ST) (i12_5 : Nat), INV t12 → Fr [(3, 4)] [(8, 11), (43, 43)] σ t12 → t12.1 10 = nI n2 → t12.1 2 = nI n13 → i12_5 ≤ n13 → n13 - i12_5 < fu → ∀ (H : Heap) (locs : List Loc) (ls : Array Slot), HW g t12 s H locs → lv_has ls 7 [(5, .int (nI i12_5)), (4, .int (nI i1_4)), (0, .ref (g.2.1 48)), (1, .ref (g.2.1 5)), (2, .ref (g.2.1 10)), (3, .ref (g.2.1 16))] → W p l e { frames := 2, cells := 0, slots := 0, locals := 47 } s m args below meth c H locs 0 0 (MQ below (XQv g (fun σ' => INV σ' ∧ Fr [(3, 4)] [(8, 11), (43, 43)] σ σ')) args s 0 0 (Aw g)) (F0 m 26 ls []) := by
            intro fu
            induction fu with
            | zero => intro t12 i12_5 hI_12 hF_12 e14 e15 bi12_5 hm; exact absurd hm (Nat.not_lt_zero _)
            | succ fu ih =>
              have ih12 := ih
              clear ih
              intro t12 i12_5 hI_12 hF_12 e14 e15 bi12_5 hm12 H locs ls h hl
              refine lv_iload hx hb dX4_findMiddles_26 (lv_at hl 0 rfl) ?_
              refine lv_aload_n hx hb dX4_findMiddles_28 rfl (lv_at hl 3 rfl) ?_
              refine x_getIN E h (fi_bk_rows g) rfl hwX7 (by decide) (by decide +kernel) (v := nI n13) e15 dX4_findMiddles_29 ?_
              refine lv_icmp_ge (tgt := 88) hx hb dX4_findMiddles_32 (by decide) (fun c16 => ?_) (fun c16 => ?_)
              · skip
                have b17 : n13 ≤ i12_5 := y_le (a := n13) (b := i12_5) (by omega) (by omega) c16
                refine lv_aload_n hx hb dX4_findMiddles_88 rfl (lv_at hl 4 rfl) ?_
                refine lv_aload_n hx hb dX4_findMiddles_89 rfl (lv_at hl 2 rfl) ?_
                refine x_getR E h (fr_be_middles g) rfl hwX4 (by decide) (by decide +kernel) dX4_findMiddles_90 ?_
                refine lv_iload hx hb dX4_findMiddles_93 (lv_at hl 1 rfl) ?_
                refine lv_iconst (v := 4) hx hb dX4_findMiddles_95 (by decide) ?_
                refine lv_imul hx hb dX4_findMiddles_96 ?_
                refine x_topI (v2 := nI (i1_4 * 4)) (pk_mul i1_4 4) ?_
                refine x_vv E h (na := 2) (As := [.ref (g.2.1 51), .int (nI (i1_4 * 4))]) (aX3_writeMiddle_1 l g t12 hI_12 (nI (i1_4 * 4))) (oc_ga g) rfl gX4_findMiddles_X3_writeMiddle rfl ⟨rfl, rfl⟩ rfl (by decide +kernel) ⟨Nat.le_of_ble_eq_true rfl, Nat.le_of_ble_eq_true rfl⟩ hl.1 rfl (Nat.le_of_ble_eq_true rfl) dX4_findMiddles_97 ⟨Nat.le_of_ble_eq_true rfl, Nat.le_of_ble_eq_true rfl⟩ (fun s18 H locs q18 h => ?_)
                obtain ⟨hI18, f18⟩ := q18
                have hF18 := hF_12.call f18 (I := [(3, 4)]) (J := [(8, 11), (43, 43)]) rfl rfl
                have e19 : s18.1 10 = nI n2 := ((f18.1 10 rfl)).trans e14
                have e20 : s18.1 2 = nI n13 := ((f18.1 2 rfl)).trans e15
                refine lv_iinc (v := (nI (i1_4 + 1))) (lv' := [(4, .int (nI (i1_4 + 1))), (5, .int (nI i12_5)), (0, .ref (g.2.1 48)), (1, .ref (g.2.1 5)), (2, .ref (g.2.1 10)), (3, .ref (g.2.1 16))]) hx hb dX4_findMiddles_100 hl (k := 1) rfl (nI_add i1_4 1) (by decide) rfl (fun ls hl => ?_)
                refine lv_goto (tgt := 3) hx hb dX4_findMiddles_103 (by decide) ?_
                exact ih1 s18 (i1_4 + 1) hI18 hF18 e19 (by omega) (by omega) _ _ _ h (lv_sub hl [0, 2, 3, 4, 5] rfl)
              · skip
                have b21 : i12_5 < n13 := y_nle (a := n13) (b := i12_5) (by omega) (by omega) c16
                refine lv_iload hx hb dX4_findMiddles_35 (lv_at hl 0 rfl) ?_
                refine lv_bipush (v := 48) hx hb dX4_findMiddles_37 (by decide) ?_
                refine lv_icmp_ge (tgt := 88) hx hb dX4_findMiddles_39 (by decide) (fun c22 => ?_) (fun c22 => ?_)
                · skip
                  have b23 : 48 ≤ i12_5 := y_le (a := 48) (b := i12_5) (by omega) (by omega) c22
                  refine lv_aload_n hx hb dX4_findMiddles_88 rfl (lv_at hl 4 rfl) ?_
                  refine lv_aload_n hx hb dX4_findMiddles_89 rfl (lv_at hl 2 rfl) ?_
                  refine x_getR E h (fr_be_middles g) rfl hwX4 (by decide) (by decide +kernel) dX4_findMiddles_90 ?_
                  refine lv_iload hx hb dX4_findMiddles_93 (lv_at hl 1 rfl) ?_
                  refine lv_iconst (v := 4) hx hb dX4_findMiddles_95 (by decide) ?_
                  refine lv_imul hx hb dX4_findMiddles_96 ?_
                  refine x_topI (v2 := nI (i1_4 * 4)) (pk_mul i1_4 4) ?_
                  refine x_vv E h (na := 2) (As := [.ref (g.2.1 51), .int (nI (i1_4 * 4))]) (aX3_writeMiddle_1 l g t12 hI_12 (nI (i1_4 * 4))) (oc_ga g) rfl gX4_findMiddles_X3_writeMiddle rfl ⟨rfl, rfl⟩ rfl (by decide +kernel) ⟨Nat.le_of_ble_eq_true rfl, Nat.le_of_ble_eq_true rfl⟩ hl.1 rfl (Nat.le_of_ble_eq_true rfl) dX4_findMiddles_97 ⟨Nat.le_of_ble_eq_true rfl, Nat.le_of_ble_eq_true rfl⟩ (fun s24 H locs q24 h => ?_)
                  obtain ⟨hI24, f24⟩ := q24
                  have hF24 := hF_12.call f24 (I := [(3, 4)]) (J := [(8, 11), (43, 43)]) rfl rfl
                  have e25 : s24.1 10 = nI n2 := ((f24.1 10 rfl)).trans e14
                  have e26 : s24.1 2 = nI n13 := ((f24.1 2 rfl)).trans e15
                  refine lv_iinc (v := (nI (i1_4 + 1))) (lv' := [(4, .int (nI (i1_4 + 1))), (5, .int (nI i12_5)), (0, .ref (g.2.1 48)), (1, .ref (g.2.1 5)), (2, .ref (g.2.1 10)), (3, .ref (g.2.1 16))]) hx hb dX4_findMiddles_100 hl (k := 1) rfl (nI_add i1_4 1) (by decide) rfl (fun ls hl => ?_)
                  refine lv_goto (tgt := 3) hx hb dX4_findMiddles_103 (by decide) ?_
                  exact ih1 s24 (i1_4 + 1) hI24 hF24 e25 (by omega) (by omega) _ _ _ h (lv_sub hl [0, 2, 3, 4, 5] rfl)
                · skip
                  have b27 : i12_5 < 48 := y_nle (a := 48) (b := i12_5) (by omega) (by omega) c22
                  refine lv_aload_n hx hb dX4_findMiddles_42 rfl (lv_at hl 5 rfl) ?_
                  refine x_getRN E h (fr_cu_pieceOf g) rfl hwX2 (by decide) (by decide +kernel) dX4_findMiddles_43 ?_
                  refine lv_iload hx hb dX4_findMiddles_46 (lv_at hl 0 rfl) ?_
                  refine x_ldI E h (ia_cu_pieceOf g) (i := nI i12_5) (vp_in_nI (by omega) (by decide)) (v := t12.2.2 17 i12_5) (congrArg (t12.2.2 17) (nI_clamp (by omega))) dX4_findMiddles_48 ?_
                  refine lv_topi (fun x28 e28 => ?_)
                  refine lv_istore (lv' := [(6, .int x28), (5, .int (nI i12_5)), (4, .int (nI i1_4)), (0, .ref (g.2.1 48)), (1, .ref (g.2.1 5)), (2, .ref (g.2.1 10)), (3, .ref (g.2.1 16))]) hx hb dX4_findMiddles_49 hl (by decide) rfl (fun ls hl => ?_)
                  refine lv_iload hx hb dX4_findMiddles_51 (lv_at hl 0 rfl) ?_
                  have j82_31 : ∀ (t31 : ST), INV t31 → Fr [(3, 4)] [(8, 11), (43, 43)] σ t31 → t31.1 10 = nI n2 → t31.1 2 = nI n13 → ∀ (H : Heap) (locs : List Loc) (ls : Array Slot), HW g t31 s H locs → lv_has ls 7 [(6, .int x28), (5, .int (nI i12_5)), (4, .int (nI i1_4)), (0, .ref (g.2.1 48)), (1, .ref (g.2.1 5)), (2, .ref (g.2.1 10)), (3, .ref (g.2.1 16))] → W p l e { frames := 2, cells := 0, slots := 0, locals := 47 } s m args below meth c H locs 0 0 (MQ below (XQv g (fun σ' => INV σ' ∧ Fr [(3, 4)] [(8, 11), (43, 43)] σ σ')) args s 0 0 (Aw g)) (F0 m 82 ls []) := by
                    intro t31 hI_31 hF_31 e32 e33 H locs ls h hl
                    refine lv_iinc (v := (nI (i12_5 + 1))) (lv' := [(5, .int (nI (i12_5 + 1))), (6, .int x28), (4, .int (nI i1_4)), (0, .ref (g.2.1 48)), (1, .ref (g.2.1 5)), (2, .ref (g.2.1 10)), (3, .ref (g.2.1 16))]) hx hb dX4_findMiddles_82 hl (k := 1) rfl (nI_add i12_5 1) (by decide) rfl (fun ls hl => ?_)
                    refine lv_goto (tgt := 26) hx hb dX4_findMiddles_85 (by decide) ?_
                    exact ih12 t31 (i12_5 + 1) hI_31 hF_31 e32 e33 (by omega) (by omega) _ _ _ h (lv_sub hl [0, 2, 3, 4, 5, 6] rfl)
                  refine lv_if_lt (tgt := 82) hx hb dX4_findMiddles_53 (by decide) (fun c29 => ?_) (fun c29 => ?_)
                  · skip
                    exact j82_31 t12 hI_12 hF_12 e14 e15 _ _ _ h (lv_sub hl [0, 1, 2, 3, 4, 5, 6] rfl)
                  · skip
                    refine lv_iload hx hb dX4_findMiddles_56 (lv_at hl 0 rfl) ?_
                    refine lv_bipush (v := 9) hx hb dX4_findMiddles_58 (by decide) ?_
                    refine lv_icmp_ge (tgt := 82) hx hb dX4_findMiddles_60 (by decide) (fun c35 => ?_) (fun c35 => ?_)
                    · skip
                      exact j82_31 t12 hI_12 hF_12 e14 e15 _ _ _ h (lv_sub hl [0, 1, 2, 3, 4, 5, 6] rfl)
                    · skip
                      obtain ⟨n38, b38, rfl⟩ := y_rnle (N := 9) (y_lo1 c29 (by decide)) c35 (by omega)
                      have b39 : 0 ≤ n38 := y_nlt (a := n38) (b := 0) (by omega) (by omega) c29
                      have b40 : n38 < 9 := y_nle (a := 9) (b := n38) (by omega) (by omega) c35
                      refine lv_aload_n hx hb dX4_findMiddles_63 rfl (lv_at hl 3 rfl) ?_
                      refine x_getR E h (fr_be_heapOf g) rfl hwX4 (by decide) (by decide +kernel) dX4_findMiddles_64 ?_
                      refine lv_iload hx hb dX4_findMiddles_67 (lv_at hl 0 rfl) ?_
                      obtain ⟨n41, b41, e41⟩ := hI_12.2 41 8 rfl n38
                      refine x_ldI E h (ia_be_heapOf g) (i := nI n38) (vp_in_nI (by omega) (by decide)) (v := nI n41) ((congrArg (t12.2.2 41) (nI_clamp (by omega))).trans e41) dX4_findMiddles_69 ?_
                      refine lv_iload hx hb dX4_findMiddles_70 (lv_at hl 2 rfl) ?_
                      refine lv_icmp_ne (tgt := 82) hx hb dX4_findMiddles_72 (by decide) (fun c42 => ?_) (fun c42 => ?_)
                      · skip
                        have b43 : ¬ n41 = i1_4 := y_ne (a := n41) (b := i1_4) (by omega) (by omega) c42
                        exact j82_31 t12 hI_12 hF_12 e14 e15 _ _ _ h (lv_sub hl [0, 1, 2, 3, 4, 5, 6] rfl)
                      · skip
                        have b44 : n41 = i1_4 := y_eq (a := n41) (b := i1_4) (by omega) (by omega) c42
                        refine lv_aload_n hx hb dX4_findMiddles_75 rfl (lv_at hl 5 rfl) ?_
                        refine lv_aload_n hx hb dX4_findMiddles_76 rfl (lv_at hl 4 rfl) ?_
                        refine lv_iload hx hb dX4_findMiddles_77 (lv_at hl 1 rfl) ?_
                        refine x_vv E h (na := 2) (As := [.ref (g.2.1 5), .int (nI i12_5)]) (aX3_take_0 l g t12 hI_12 (nI i12_5)) (oc_ga g) rfl gX4_findMiddles_X3_take rfl ⟨rfl, rfl⟩ rfl (by decide +kernel) ⟨Nat.le_of_ble_eq_true rfl, Nat.le_of_ble_eq_true rfl⟩ hl.1 rfl (Nat.le_of_ble_eq_true rfl) dX4_findMiddles_79 ⟨Nat.le_of_ble_eq_true rfl, Nat.le_of_ble_eq_true rfl⟩ (fun s45 H locs q45 h => ?_)
                        obtain ⟨hI45, f45⟩ := q45
                        have hF45 := hF_12.call f45 (I := [(3, 4)]) (J := [(8, 11), (43, 43)]) rfl rfl
                        have e46 : s45.1 10 = nI n2 := ((f45.1 10 rfl)).trans e14
                        have e47 : s45.1 2 = nI n13 := ((f45.1 2 rfl)).trans e15
                        exact j82_31 s45 hI45 hF45 e46 e47 _ _ _ h (lv_sub hl [0, 1, 2, 3, 4, 5, 6] rfl)
          exact loop26_12 _ s10 0 hI10 hF10 e11 e13 (Nat.zero_le _) (Nat.lt_succ_self _) _ _ _ h (lv_sub hl [0, 1, 2, 3, 4, 5] rfl)
  exact loop3_1 _ σ 0 hI hF e2 (Nat.zero_le _) (Nat.lt_succ_self _) _ _ _ h (lv_sub hl [0, 1, 2, 3, 4] rfl)
set_option maxHeartbeats 4000000 in
set_option maxRecDepth 100000 in
theorem aX4_numberHeaps_0 (l : Launch) (g : CX) (σ : ST) (hI : INV σ) (p1 : Int32) : XM l g yX4_numberHeaps wsX4_numberHeaps { frames := 1, cells := 0, slots := 0, locals := 23 } [.ref (g.2.1 54), .int p1] σ (XQv g (fun σ' => INV σ' ∧ Fr [(17, 17)] [(46, 47)] σ σ')) := by
  refine x_met (own := RX4) (cc := cX4_numberHeaps) (maxL := 4) (ret := none) (lv := [(0, .ref (g.2.1 54)), (1, .int p1)]) (by decide) rfl rfl (Nat.le_of_ble_eq_true rfl) rfl ?_
  intro p e s m args below meth c ls E h hl
  have hx := E.1
  have hb := E.2.1
  have hown := E.2.2.2.1
  have hts := E.2.2.2.2.1
  have hF : Fr [(17, 17)] [(46, 47)] σ σ := Fr.refl σ
  have hwX4 : ∀ w ∈ wsX40, w ∈ wsX4_numberHeaps := by decide +kernel
  refine lv_aload_n hx hb dX4_numberHeaps_0 rfl (lv_at hl 0 rfl) ?_
  refine x_getR E h (fr_jo_renamed g) rfl hwX4 (by decide) (by decide +kernel) dX4_numberHeaps_1 ?_
  refine lv_bipush (v := (-9)) hx hb dX4_numberHeaps_4 (by decide) ?_
  refine x_sv E h (na := 2) (As := [.ref (g.2.1 56), .int (-9)]) (k_fill l g _ 56 9 47 (ia_jo_renamed g) (by decide) (-9)) gX4_numberHeaps_J7_fill_53178 rfl ⟨rfl, rfl⟩ rfl (by decide +kernel) ⟨Nat.le_of_ble_eq_true rfl, Nat.le_of_ble_eq_true rfl⟩ hl.1 rfl (Nat.le_of_ble_eq_true rfl) dX4_numberHeaps_6 ⟨Nat.le_of_ble_eq_true rfl, Nat.le_of_ble_eq_true rfl⟩ (fun s1 H locs q1 h => ?_)
  have hI1 : INV s1 := by rw [← q1]; exact hI.fill rfl _
  have hF1 : Fr [(17, 17)] [(46, 47)] σ s1 := by rw [← q1]; exact hF.putA rfl
  refine lv_aload_n hx hb dX4_numberHeaps_9 rfl (lv_at hl 0 rfl) ?_
  refine lv_iconst (v := 0) hx hb dX4_numberHeaps_10 (by decide) ?_
  refine y_putI E h hI1 hF1 (ty := .int) (v := 0) (fi_jo_heaps g) rfl hwX4 tyX4_ok nmX4 (by decide) (by decide +kernel) (by decide +kernel) (by decide +kernel) rfl rfl (ba_none rfl) rfl dX4_numberHeaps_11 (fun s2 H locs q2 hI2 hF2 h => ?_)
  have e3 : s2.1 17 = 0 := congrArg (fun t : ST => t.1 17) q2
  refine lv_iconst (v := 0) hx hb dX4_numberHeaps_14 (by decide) ?_
  refine lv_istore_n (lv' := [(2, .int 0), (0, .ref (g.2.1 54)), (1, .int p1)]) hx hb dX4_numberHeaps_15 rfl hl (by decide) rfl (fun ls hl => ?_)
  have loop16_4 : ∀ (fu : Nat) (t4 : ST) (i4_2 : Nat), INV t4 → Fr [(17, 17)] [(46, 47)] σ t4 → i4_2 ≤ 9 → 9 - i4_2 < fu → ∀ (H : Heap) (locs : List Loc) (ls : Array Slot), HW g t4 s H locs → lv_has ls 4 [(2, .int (nI i4_2)), (0, .ref (g.2.1 54)), (1, .int p1)] → W p l e { frames := 1, cells := 0, slots := 0, locals := 23 } s m args below meth c H locs 0 0 (MQ below (XQv g (fun σ' => INV σ' ∧ Fr [(17, 17)] [(46, 47)] σ σ')) args s 0 0 (Aw g)) (F0 m 16 ls []) := by
    intro fu
    induction fu with
    | zero => intro t4 i4_2 hI_4 hF_4 bi4_2 hm; exact absurd hm (Nat.not_lt_zero _)
    | succ fu ih =>
      have ih4 := ih
      clear ih
      intro t4 i4_2 hI_4 hF_4 bi4_2 hm4 H locs ls h hl
      refine lv_iload_n hx hb dX4_numberHeaps_16 rfl (lv_at hl 0 rfl) ?_
      refine lv_iload_n hx hb dX4_numberHeaps_17 rfl (lv_at hl 2 rfl) ?_
      refine lv_icmp_ge (tgt := 107) hx hb dX4_numberHeaps_18 (by decide) (fun c5 => ?_) (fun c5 => ?_)
      · skip
        exact x_vret E h ⟨hI_4, hF_4⟩ dX4_numberHeaps_107
      · skip
        refine lv_iload_n hx hb dX4_numberHeaps_21 rfl (lv_at hl 0 rfl) ?_
        refine lv_bipush (v := 9) hx hb dX4_numberHeaps_22 (by decide) ?_
        refine lv_icmp_ge (tgt := 107) hx hb dX4_numberHeaps_24 (by decide) (fun c8 => ?_) (fun c8 => ?_)
        · skip
          have b9 : 9 ≤ i4_2 := y_le (a := 9) (b := i4_2) (by omega) (by omega) c8
          exact x_vret E h ⟨hI_4, hF_4⟩ dX4_numberHeaps_107
        · skip
          have b10 : i4_2 < 9 := y_nle (a := 9) (b := i4_2) (by omega) (by omega) c8
          refine lv_aload_n hx hb dX4_numberHeaps_27 rfl (lv_at hl 1 rfl) ?_
          refine x_getR E h (fr_jo_heapOf g) rfl hwX4 (by decide) (by decide +kernel) dX4_numberHeaps_28 ?_
          refine lv_iload_n hx hb dX4_numberHeaps_31 rfl (lv_at hl 0 rfl) ?_
          refine x_ldI E h (ia_jo_heapOf g) (i := nI i4_2) (vp_in_nI (by omega) (by decide)) (v := t4.2.2 46 i4_2) (congrArg (t4.2.2 46) (nI_clamp (by omega))) dX4_numberHeaps_32 ?_
          refine lv_topi (fun x11 e11 => ?_)
          refine lv_istore_n (lv' := [(3, .int x11), (2, .int (nI i4_2)), (0, .ref (g.2.1 54)), (1, .int p1)]) hx hb dX4_numberHeaps_33 rfl hl (by decide) rfl (fun ls hl => ?_)
          refine lv_iload_n hx hb dX4_numberHeaps_34 rfl (lv_at hl 0 rfl) ?_
          have j75_14 : ∀ (t14 : ST), INV t14 → Fr [(17, 17)] [(46, 47)] σ t14 → ∀ (H : Heap) (locs : List Loc) (ls : Array Slot), HW g t14 s H locs → lv_has ls 4 [(3, .int x11), (2, .int (nI i4_2)), (0, .ref (g.2.1 54)), (1, .int p1)] → W p l e { frames := 1, cells := 0, slots := 0, locals := 23 } s m args below meth c H locs 0 0 (MQ below (XQv g (fun σ' => INV σ' ∧ Fr [(17, 17)] [(46, 47)] σ σ')) args s 0 0 (Aw g)) (F0 m 75 ls []) := by
            intro t14 hI_14 hF_14 H locs ls h hl
            refine lv_aload_n hx hb dX4_numberHeaps_75 rfl (lv_at hl 2 rfl) ?_
            refine x_getR E h (fr_jo_heapOf g) rfl hwX4 (by decide) (by decide +kernel) dX4_numberHeaps_76 ?_
            refine lv_iload_n hx hb dX4_numberHeaps_79 rfl (lv_at hl 1 rfl) ?_
            refine lv_iload_n hx hb dX4_numberHeaps_80 rfl (lv_at hl 0 rfl) ?_
            have j100_17 : ∀ (y17_s0 : Int32), ∀ (H : Heap) (locs : List Loc) (ls : Array Slot), HW g t14 s H locs → lv_has ls 4 [(3, .int x11), (2, .int (nI i4_2)), (0, .ref (g.2.1 54)), (1, .int p1)] → W p l e { frames := 1, cells := 0, slots := 0, locals := 23 } s m args below meth c H locs 0 0 (MQ below (XQv g (fun σ' => INV σ' ∧ Fr [(17, 17)] [(46, 47)] σ σ')) args s 0 0 (Aw g)) (F0 m 100 ls [.int y17_s0, .int (nI i4_2), .ref (g.2.1 55)]) := by
              intro y17_s0 H locs ls h hl
              refine y_stI E h hI_14 hF_14 (ia_jo_heapOf g) (i := nI i4_2) (vp_in_nI (by omega) (by decide)) (j := i4_2) (nI_clamp (by omega)) (ba_none rfl) rfl dX4_numberHeaps_100 (fun s18 H locs q18 hI18 hF18 h => ?_)
              refine lv_iinc (v := (nI (i4_2 + 1))) (lv' := [(2, .int (nI (i4_2 + 1))), (3, .int x11), (0, .ref (g.2.1 54)), (1, .int p1)]) hx hb dX4_numberHeaps_101 hl (k := 1) rfl (nI_add i4_2 1) (by decide) rfl (fun ls hl => ?_)
              refine lv_goto (tgt := 16) hx hb dX4_numberHeaps_104 (by decide) ?_
              exact ih4 s18 (i4_2 + 1) hI18 hF18 (by omega) (by omega) _ _ _ h (lv_sub hl [0, 2, 3] rfl)
            refine lv_if_lt (tgt := 99) hx hb dX4_numberHeaps_81 (by decide) (fun c15 => ?_) (fun c15 => ?_)
            · skip
              refine lv_iconst (v := 0) hx hb dX4_numberHeaps_99 (by decide) ?_
              exact j100_17 0 _ _ _ h (lv_sub hl [0, 1, 2, 3] rfl)
            · skip
              refine lv_iload_n hx hb dX4_numberHeaps_84 rfl (lv_at hl 0 rfl) ?_
              refine lv_bipush (v := 9) hx hb dX4_numberHeaps_85 (by decide) ?_
              refine lv_icmp_ge (tgt := 99) hx hb dX4_numberHeaps_87 (by decide) (fun c20 => ?_) (fun c20 => ?_)
              · skip
                refine lv_iconst (v := 0) hx hb dX4_numberHeaps_99 (by decide) ?_
                exact j100_17 0 _ _ _ h (lv_sub hl [0, 1, 2, 3] rfl)
              · skip
                obtain ⟨n23, b23, rfl⟩ := y_rnle (N := 9) (y_lo1 c15 (by decide)) c20 (by omega)
                have b24 : 0 ≤ n23 := y_nlt (a := n23) (b := 0) (by omega) (by omega) c15
                have b25 : n23 < 9 := y_nle (a := 9) (b := n23) (by omega) (by omega) c20
                refine lv_aload_n hx hb dX4_numberHeaps_90 rfl (lv_at hl 2 rfl) ?_
                refine x_getR E h (fr_jo_renamed g) rfl hwX4 (by decide) (by decide +kernel) dX4_numberHeaps_91 ?_
                refine lv_iload_n hx hb dX4_numberHeaps_94 rfl (lv_at hl 0 rfl) ?_
                refine x_ldI E h (ia_jo_renamed g) (i := nI n23) (vp_in_nI (by omega) (by decide)) (v := t14.2.2 47 n23) (congrArg (t14.2.2 47) (nI_clamp (by omega))) dX4_numberHeaps_95 ?_
                refine lv_goto (tgt := 100) hx hb dX4_numberHeaps_96 (by decide) ?_
                exact j100_17 (t14.2.2 47 n23) _ _ _ h (lv_sub hl [0, 1, 2, 3] rfl)
          refine lv_if_lt (tgt := 75) hx hb dX4_numberHeaps_35 (by decide) (fun c12 => ?_) (fun c12 => ?_)
          · skip
            exact j75_14 t4 hI_4 hF_4 _ _ _ h (lv_sub hl [0, 1, 2, 3] rfl)
          · skip
            refine lv_iload_n hx hb dX4_numberHeaps_38 rfl (lv_at hl 0 rfl) ?_
            refine lv_bipush (v := 9) hx hb dX4_numberHeaps_39 (by decide) ?_
            refine lv_icmp_ge (tgt := 75) hx hb dX4_numberHeaps_41 (by decide) (fun c27 => ?_) (fun c27 => ?_)
            · skip
              exact j75_14 t4 hI_4 hF_4 _ _ _ h (lv_sub hl [0, 1, 2, 3] rfl)
            · skip
              obtain ⟨n30, b30, rfl⟩ := y_rnle (N := 9) (y_lo1 c12 (by decide)) c27 (by omega)
              have b31 : 0 ≤ n30 := y_nlt (a := n30) (b := 0) (by omega) (by omega) c12
              have b32 : n30 < 9 := y_nle (a := 9) (b := n30) (by omega) (by omega) c27
              refine lv_aload_n hx hb dX4_numberHeaps_44 rfl (lv_at hl 2 rfl) ?_
              refine x_getR E h (fr_jo_renamed g) rfl hwX4 (by decide) (by decide +kernel) dX4_numberHeaps_45 ?_
              refine lv_iload_n hx hb dX4_numberHeaps_48 rfl (lv_at hl 0 rfl) ?_
              refine x_ldI E h (ia_jo_renamed g) (i := nI n30) (vp_in_nI (by omega) (by decide)) (v := t4.2.2 47 n30) (congrArg (t4.2.2 47) (nI_clamp (by omega))) dX4_numberHeaps_49 ?_
              refine lv_bipush (v := (-9)) hx hb dX4_numberHeaps_50 (by decide) ?_
              refine lv_icmp_ne (tgt := 75) hx hb dX4_numberHeaps_52 (by decide) (fun c33 => ?_) (fun c33 => ?_)
              · skip
                exact j75_14 t4 hI_4 hF_4 _ _ _ h (lv_sub hl [0, 1, 2, 3] rfl)
              · skip
                refine lv_aload_n hx hb dX4_numberHeaps_55 rfl (lv_at hl 2 rfl) ?_
                refine x_getR E h (fr_jo_renamed g) rfl hwX4 (by decide) (by decide +kernel) dX4_numberHeaps_56 ?_
                refine lv_iload_n hx hb dX4_numberHeaps_59 rfl (lv_at hl 0 rfl) ?_
                refine lv_aload_n hx hb dX4_numberHeaps_60 rfl (lv_at hl 2 rfl) ?_
                obtain ⟨x36, e36⟩ : ∃ x, t4.1 17 = x := ⟨_, rfl⟩
                refine x_getI E h (fi_jo_heaps g) rfl hwX4 (by decide) (by decide +kernel) (v := x36) e36 dX4_numberHeaps_61 ?_
                refine y_stI E h hI_4 hF_4 (ia_jo_renamed g) (i := nI n30) (vp_in_nI (by omega) (by decide)) (j := n30) (nI_clamp (by omega)) (ba_none rfl) rfl dX4_numberHeaps_64 (fun s37 H locs q37 hI37 hF37 h => ?_)
                have e38 : s37.1 17 = x36 := (congrArg (fun t : ST => t.1 17) q37).trans e36
                refine lv_aload_n hx hb dX4_numberHeaps_65 rfl (lv_at hl 2 rfl) ?_
                refine lv_dup hx hb dX4_numberHeaps_66 rfl ?_
                refine x_getI E h (fi_jo_heaps g) rfl hwX4 (by decide) (by decide +kernel) (v := x36) e38 dX4_numberHeaps_67 ?_
                refine lv_iconst (v := 1) hx hb dX4_numberHeaps_70 (by decide) ?_
                refine lv_iadd hx hb dX4_numberHeaps_71 ?_
                refine lv_topi (fun x39 e39 => ?_)
                refine y_putI E h hI37 hF37 (ty := .int) (v := x39) (fi_jo_heaps g) rfl hwX4 tyX4_ok nmX4 (by decide) (by decide +kernel) (by decide +kernel) (by decide +kernel) rfl rfl (ba_none rfl) rfl dX4_numberHeaps_72 (fun s40 H locs q40 hI40 hF40 h => ?_)
                have e41 : s40.1 17 = x39 := congrArg (fun t : ST => t.1 17) q40
                exact j75_14 s40 hI40 hF40 _ _ _ h (lv_sub hl [0, 1, 2, 3] rfl)
  exact loop16_4 _ s2 0 hI2 hF2 (Nat.zero_le _) (Nat.lt_succ_self _) _ _ _ h (lv_sub hl [0, 1, 2] rfl)
set_option maxHeartbeats 4000000 in
set_option maxRecDepth 100000 in
theorem aX1_worthOf_0 (l : Launch) (g : CX) (σ : ST) (hI : INV σ)  : XM l g yX1_worthOf wsX1_worthOf { frames := 0, cells := 0, slots := 0, locals := 0 } [.ref (g.2.1 25), .ref (g.2.1 54)] σ (XQi g (fun r σ' => σ = σ')) := by
  refine x_met (own := RX1) (cc := cX1_worthOf) (maxL := 5) (ret := (some .int)) (lv := [(0, .ref (g.2.1 25)), (1, .ref (g.2.1 54))]) (by decide) rfl rfl (Nat.le_of_ble_eq_true rfl) rfl ?_
  intro p e s m args below meth c ls E h hl
  have hx := E.1
  have hb := E.2.1
  have hown := E.2.2.2.1
  have hts := E.2.2.2.2.1
  have hwX1 : ∀ w ∈ wsX10, w ∈ wsX1_worthOf := by decide +kernel
  have hwX4 : ∀ w ∈ wsX40, w ∈ wsX1_worthOf := by decide +kernel
  refine lv_iconst (v := 0) hx hb dX1_worthOf_0 (by decide) ?_
  refine lv_istore_n (lv' := [(2, .int 0), (0, .ref (g.2.1 25)), (1, .ref (g.2.1 54))]) hx hb dX1_worthOf_1 rfl hl (by decide) rfl (fun ls hl => ?_)
  refine lv_iconst (v := 0) hx hb dX1_worthOf_2 (by decide) ?_
  refine lv_istore_n (lv' := [(3, .int 0), (2, .int 0), (0, .ref (g.2.1 25)), (1, .ref (g.2.1 54))]) hx hb dX1_worthOf_3 rfl hl (by decide) rfl (fun ls hl => ?_)
  obtain ⟨n2, b2, e2⟩ := hI.1 9 9 rfl
  have loop4_1 : ∀ (fu : Nat) (i1_3 : Nat) (i1_2 : Int32), i1_3 ≤ n2 → n2 - i1_3 < fu → ∀ (H : Heap) (locs : List Loc) (ls : Array Slot), HW g σ s H locs → lv_has ls 5 [(3, .int (nI i1_3)), (2, .int i1_2), (0, .ref (g.2.1 25)), (1, .ref (g.2.1 54))] → W p l e { frames := 0, cells := 0, slots := 0, locals := 0 } s m args below meth c H locs 0 0 (MQ below (XQi g (fun r σ' => σ = σ')) args s 0 0 (Aw g)) (F0 m 4 ls []) := by
    intro fu
    induction fu with
    | zero => intro i1_3 i1_2 bi1_3 hm; exact absurd hm (Nat.not_lt_zero _)
    | succ fu ih =>
      have ih1 := ih
      clear ih
      intro i1_3 i1_2 bi1_3 hm1 H locs ls h hl
      refine lv_iload_n hx hb dX1_worthOf_4 rfl (lv_at hl 0 rfl) ?_
      refine lv_aload_n hx hb dX1_worthOf_5 rfl (lv_at hl 2 rfl) ?_
      refine x_getI E h (fi_bo_pieces g) rfl hwX1 (by decide) (by decide +kernel) (v := nI n2) e2 dX1_worthOf_6 ?_
      refine lv_icmp_ge (tgt := 70) hx hb dX1_worthOf_9 (by decide) (fun c3 => ?_) (fun c3 => ?_)
      · skip
        have b4 : n2 ≤ i1_3 := y_le (a := n2) (b := i1_3) (by omega) (by omega) c3
        refine lv_iload_n hx hb dX1_worthOf_70 rfl (lv_at hl 1 rfl) ?_
        exact x_iret E h rfl dX1_worthOf_71
      · skip
        have b5 : i1_3 < n2 := y_nle (a := n2) (b := i1_3) (by omega) (by omega) c3
        refine lv_iload_n hx hb dX1_worthOf_12 rfl (lv_at hl 0 rfl) ?_
        refine lv_iconst (v := 1) hx hb dX1_worthOf_13 (by decide) ?_
        refine lv_iadd hx hb dX1_worthOf_14 ?_
        refine x_topI (v2 := nI (i1_3 + 1)) (nI_add i1_3 1) ?_
        refine lv_istore (lv' := [(4, .int (nI (i1_3 + 1))), (3, .int (nI i1_3)), (2, .int i1_2), (0, .ref (g.2.1 25)), (1, .ref (g.2.1 54))]) hx hb dX1_worthOf_15 hl (by decide) rfl (fun ls hl => ?_)
        have loop17_6 : ∀ (fu : Nat) (i6_4 : Nat) (i6_2 : Int32), i6_4 ≤ n2 → n2 - i6_4 < fu → ∀ (H : Heap) (locs : List Loc) (ls : Array Slot), HW g σ s H locs → lv_has ls 5 [(4, .int (nI i6_4)), (3, .int (nI i1_3)), (2, .int i6_2), (0, .ref (g.2.1 25)), (1, .ref (g.2.1 54))] → W p l e { frames := 0, cells := 0, slots := 0, locals := 0 } s m args below meth c H locs 0 0 (MQ below (XQi g (fun r σ' => σ = σ')) args s 0 0 (Aw g)) (F0 m 17 ls []) := by
          intro fu
          induction fu with
          | zero => intro i6_4 i6_2 bi6_4 hm; exact absurd hm (Nat.not_lt_zero _)
          | succ fu ih =>
            have ih6 := ih
            clear ih
            intro i6_4 i6_2 bi6_4 hm6 H locs ls h hl
            refine lv_iload hx hb dX1_worthOf_17 (lv_at hl 0 rfl) ?_
            refine lv_aload_n hx hb dX1_worthOf_19 rfl (lv_at hl 3 rfl) ?_
            refine x_getI E h (fi_bo_pieces g) rfl hwX1 (by decide) (by decide +kernel) (v := nI n2) e2 dX1_worthOf_20 ?_
            refine lv_icmp_ge (tgt := 64) hx hb dX1_worthOf_23 (by decide) (fun c7 => ?_) (fun c7 => ?_)
            · skip
              have b8 : n2 ≤ i6_4 := y_le (a := n2) (b := i6_4) (by omega) (by omega) c7
              refine lv_iinc (v := (nI (i1_3 + 1))) (lv' := [(3, .int (nI (i1_3 + 1))), (4, .int (nI i6_4)), (2, .int i6_2), (0, .ref (g.2.1 25)), (1, .ref (g.2.1 54))]) hx hb dX1_worthOf_64 hl (k := 1) rfl (nI_add i1_3 1) (by decide) rfl (fun ls hl => ?_)
              refine lv_goto (tgt := 4) hx hb dX1_worthOf_67 (by decide) ?_
              exact ih1 (i1_3 + 1) i6_2 (by omega) (by omega) _ _ _ h (lv_sub hl [0, 2, 3, 4] rfl)
            · skip
              have b9 : i6_4 < n2 := y_nle (a := n2) (b := i6_4) (by omega) (by omega) c7
              refine lv_iload_n hx hb dX1_worthOf_26 rfl (lv_at hl 2 rfl) ?_
              refine lv_aload_n hx hb dX1_worthOf_27 rfl (lv_at hl 4 rfl) ?_
              refine x_getRN E h (fr_jo_heapOf g) rfl hwX4 (by decide) (by decide +kernel) dX1_worthOf_28 ?_
              refine lv_iload_n hx hb dX1_worthOf_31 rfl (lv_at hl 1 rfl) ?_
              refine x_ldI E h (ia_jo_heapOf g) (i := nI i1_3) (vp_in_nI (by omega) (by decide)) (v := σ.2.2 46 i1_3) (congrArg (σ.2.2 46) (nI_clamp (by omega))) dX1_worthOf_32 ?_
              refine lv_aload_n hx hb dX1_worthOf_33 rfl (lv_at hl 4 rfl) ?_
              refine x_getRN E h (fr_jo_heapOf g) rfl hwX4 (by decide) (by decide +kernel) dX1_worthOf_34 ?_
              refine lv_iload hx hb dX1_worthOf_37 (lv_at hl 0 rfl) ?_
              refine x_ldI E h (ia_jo_heapOf g) (i := nI i6_4) (vp_in_nI (by omega) (by decide)) (v := σ.2.2 46 i6_4) (congrArg (σ.2.2 46) (nI_clamp (by omega))) dX1_worthOf_39 ?_
              have j56_12 : ∀ (y12_s0 : Int32), ∀ (H : Heap) (locs : List Loc) (ls : Array Slot), HW g σ s H locs → lv_has ls 5 [(4, .int (nI i6_4)), (3, .int (nI i1_3)), (2, .int i6_2), (0, .ref (g.2.1 25)), (1, .ref (g.2.1 54))] → W p l e { frames := 0, cells := 0, slots := 0, locals := 0 } s m args below meth c H locs 0 0 (MQ below (XQi g (fun r σ' => σ = σ')) args s 0 0 (Aw g)) (F0 m 56 ls [.int y12_s0, .int i6_2]) := by
                intro y12_s0 H locs ls h hl
                refine lv_iadd hx hb dX1_worthOf_56 ?_
                refine lv_topi (fun x13 e13 => ?_)
                refine lv_istore_n (lv' := [(2, .int x13), (4, .int (nI i6_4)), (3, .int (nI i1_3)), (0, .ref (g.2.1 25)), (1, .ref (g.2.1 54))]) hx hb dX1_worthOf_57 rfl hl (by decide) rfl (fun ls hl => ?_)
                refine lv_iinc (v := (nI (i6_4 + 1))) (lv' := [(4, .int (nI (i6_4 + 1))), (2, .int x13), (3, .int (nI i1_3)), (0, .ref (g.2.1 25)), (1, .ref (g.2.1 54))]) hx hb dX1_worthOf_58 hl (k := 1) rfl (nI_add i6_4 1) (by decide) rfl (fun ls hl => ?_)
                refine lv_goto (tgt := 17) hx hb dX1_worthOf_61 (by decide) ?_
                exact ih6 (i6_4 + 1) x13 (by omega) (by omega) _ _ _ h (lv_sub hl [0, 2, 1, 3, 4] rfl)
              refine lv_icmp_ne (tgt := 55) hx hb dX1_worthOf_40 (by decide) (fun c10 => ?_) (fun c10 => ?_)
              · skip
                refine lv_iconst (v := 0) hx hb dX1_worthOf_55 (by decide) ?_
                exact j56_12 0 _ _ _ h (lv_sub hl [0, 1, 2, 3, 4] rfl)
              · skip
                refine lv_aload_n hx hb dX1_worthOf_43 rfl (lv_at hl 3 rfl) ?_
                refine x_getR E h (fr_bo_bond g) rfl hwX1 (by decide) (by decide +kernel) dX1_worthOf_44 ?_
                refine lv_iload_n hx hb dX1_worthOf_47 rfl (lv_at hl 1 rfl) ?_
                refine x_row E h (fg_bo_bond g) (i := nI i1_3) (vp_in_nI (by omega) (by decide)) (kr := 27 + i1_3) (by rw [nI_clamp (by omega)]) dX1_worthOf_48 ?_
                refine lv_iload hx hb dX1_worthOf_49 (lv_at hl 0 rfl) ?_
                refine x_ldI E h (gi_bo_bond g i1_3 (by omega)) (i := nI i6_4) (vp_in_nI (by omega) (by decide)) (v := σ.2.2 (21 + i1_3) i6_4) (congrArg (σ.2.2 (21 + i1_3)) (nI_clamp (by omega))) dX1_worthOf_51 ?_
                refine lv_goto (tgt := 56) hx hb dX1_worthOf_52 (by decide) ?_
                exact j56_12 (σ.2.2 (21 + i1_3) i6_4) _ _ _ h (lv_sub hl [0, 1, 2, 3, 4] rfl)
        exact loop17_6 _ (i1_3 + 1) i1_2 (by omega) (Nat.lt_succ_self _) _ _ _ h (lv_sub hl [0, 1, 2, 3, 4] rfl)
  exact loop4_1 _ 0 0 (Nat.zero_le _) (Nat.lt_succ_self _) _ _ _ h (lv_sub hl [0, 1, 2, 3] rfl)
set_option maxHeartbeats 4000000 in
set_option maxRecDepth 100000 in
theorem aX1_joinTwo_0 (l : Launch) (g : CX) (σ : ST) (hI : INV σ)  : XM l g yX1_joinTwo wsX1_joinTwo { frames := 0, cells := 0, slots := 0, locals := 0 } [.ref (g.2.1 25), .ref (g.2.1 54)] σ (XQi g (fun r σ' => INV σ' ∧ Fr [] [(31, 39), (46, 46)] σ σ')) := by
  refine x_met (own := RX1) (cc := cX1_joinTwo) (maxL := 7) (ret := (some .boolean)) (lv := [(0, .ref (g.2.1 25)), (1, .ref (g.2.1 54))]) (by decide) rfl rfl (Nat.le_of_ble_eq_true rfl) rfl ?_
  intro p e s m args below meth c ls E h hl
  have hx := E.1
  have hb := E.2.1
  have hown := E.2.2.2.1
  have hts := E.2.2.2.2.1
  have hF : Fr [] [(31, 39), (46, 46)] σ σ := Fr.refl σ
  have hwX1 : ∀ w ∈ wsX10, w ∈ wsX1_joinTwo := by decide +kernel
  have hwX4 : ∀ w ∈ wsX40, w ∈ wsX1_joinTwo := by decide +kernel
  refine lv_iconst (v := (-1)) hx hb dX1_joinTwo_0 (by decide) ?_
  refine lv_istore_n (lv' := [(2, .int (-1)), (0, .ref (g.2.1 25)), (1, .ref (g.2.1 54))]) hx hb dX1_joinTwo_1 rfl hl (by decide) rfl (fun ls hl => ?_)
  refine lv_iconst (v := (-1)) hx hb dX1_joinTwo_2 (by decide) ?_
  refine lv_istore_n (lv' := [(3, .int (-1)), (2, .int (-1)), (0, .ref (g.2.1 25)), (1, .ref (g.2.1 54))]) hx hb dX1_joinTwo_3 rfl hl (by decide) rfl (fun ls hl => ?_)
  refine lv_iconst (v := 0) hx hb dX1_joinTwo_4 (by decide) ?_
  refine lv_istore (lv' := [(4, .int 0), (3, .int (-1)), (2, .int (-1)), (0, .ref (g.2.1 25)), (1, .ref (g.2.1 54))]) hx hb dX1_joinTwo_5 hl (by decide) rfl (fun ls hl => ?_)
  refine lv_iconst (v := 0) hx hb dX1_joinTwo_7 (by decide) ?_
  refine lv_istore (lv' := [(5, .int 0), (4, .int 0), (3, .int (-1)), (2, .int (-1)), (0, .ref (g.2.1 25)), (1, .ref (g.2.1 54))]) hx hb dX1_joinTwo_8 hl (by decide) rfl (fun ls hl => ?_)
  obtain ⟨n2, b2, e2⟩ := hI.1 9 9 rfl
  have loop10_1 : ∀ (fu : Nat) (i1_5 : Nat) (i1_4 : Int32) (i1_3 : Int32) (i1_2 : Int32), i1_5 ≤ n2 → Opt (-1) 9 i1_3 → Opt (-1) 9 i1_2 → n2 - i1_5 < fu → ∀ (H : Heap) (locs : List Loc) (ls : Array Slot), HW g σ s H locs → lv_has ls 7 [(5, .int (nI i1_5)), (4, .int i1_4), (3, .int i1_3), (2, .int i1_2), (0, .ref (g.2.1 25)), (1, .ref (g.2.1 54))] → W p l e { frames := 0, cells := 0, slots := 0, locals := 0 } s m args below meth c H locs 0 0 (MQ below (XQi g (fun r σ' => INV σ' ∧ Fr [] [(31, 39), (46, 46)] σ σ')) args s 0 0 (Aw g)) (F0 m 10 ls []) := by
    intro fu
    induction fu with
    | zero => intro i1_5 i1_4 i1_3 i1_2 bi1_5 oi1_3 oi1_2 hm; exact absurd hm (Nat.not_lt_zero _)
    | succ fu ih =>
      have ih1 := ih
      clear ih
      intro i1_5 i1_4 i1_3 i1_2 bi1_5 oi1_3 oi1_2 hm1 H locs ls h hl
      refine lv_iload hx hb dX1_joinTwo_10 (lv_at hl 0 rfl) ?_
      refine lv_aload_n hx hb dX1_joinTwo_12 rfl (lv_at hl 4 rfl) ?_
      refine x_getI E h (fi_bo_pieces g) rfl hwX1 (by decide) (by decide +kernel) (v := nI n2) e2 dX1_joinTwo_13 ?_
      refine lv_icmp_ge (tgt := 103) hx hb dX1_joinTwo_16 (by decide) (fun c3 => ?_) (fun c3 => ?_)
      · skip
        have b4 : n2 ≤ i1_5 := y_le (a := n2) (b := i1_5) (by omega) (by omega) c3
        refine lv_iload_n hx hb dX1_joinTwo_103 rfl (lv_at hl 3 rfl) ?_
        refine lv_if_lt (tgt := 111) hx hb dX1_joinTwo_104 (by decide) (fun c5 => ?_) (fun c5 => ?_)
        · skip
          refine lv_iconst (v := 0) hx hb dX1_joinTwo_111 (by decide) ?_
          exact x_zret E h rfl ⟨hI, hF⟩ dX1_joinTwo_112
        · skip
          rcases oi1_2 with rfl | ⟨n8, b8, rfl⟩
          · exact absurd c5 (by decide)
          refine lv_iload_n hx hb dX1_joinTwo_107 rfl (lv_at hl 2 rfl) ?_
          refine lv_if_ge (tgt := 113) hx hb dX1_joinTwo_108 (by decide) (fun c9 => ?_) (fun c9 => ?_)
          · skip
            rcases oi1_3 with rfl | ⟨n11, b11, rfl⟩
            · exact absurd c9 (by decide)
            refine lv_iconst (v := 0) hx hb dX1_joinTwo_113 (by decide) ?_
            refine lv_istore (lv' := [(5, .int 0), (4, .int i1_4), (3, .int (nI n11)), (2, .int (nI n8)), (0, .ref (g.2.1 25)), (1, .ref (g.2.1 54))]) hx hb dX1_joinTwo_114 hl (by decide) rfl (fun ls hl => ?_)
            have loop116_12 : ∀ (fu : Nat) (t12 : ST) (i12_5 : Nat), INV t12 → Fr [] [(31, 39), (46, 46)] σ t12 → t12.1 9 = nI n2 → i12_5 ≤ n2 → n2 - i12_5 < fu → ∀ (H : Heap) (locs : List Loc) (ls : Array Slot), HW g t12 s H locs → lv_has ls 7 [(5, .int (nI i12_5)), (4, .int i1_4), (3, .int (nI n11)), (2, .int (nI n8)), (0, .ref (g.2.1 25)), (1, .ref (g.2.1 54))] → W p l e { frames := 0, cells := 0, slots := 0, locals := 0 } s m args below meth c H locs 0 0 (MQ below (XQi g (fun r σ' => INV σ' ∧ Fr [] [(31, 39), (46, 46)] σ σ')) args s 0 0 (Aw g)) (F0 m 116 ls []) := by
              intro fu
              induction fu with
              | zero => intro t12 i12_5 hI_12 hF_12 e13 bi12_5 hm; exact absurd hm (Nat.not_lt_zero _)
              | succ fu ih =>
                have ih12 := ih
                clear ih
                intro t12 i12_5 hI_12 hF_12 e13 bi12_5 hm12 H locs ls h hl
                refine lv_iload hx hb dX1_joinTwo_116 (lv_at hl 0 rfl) ?_
                refine lv_aload_n hx hb dX1_joinTwo_118 rfl (lv_at hl 4 rfl) ?_
                refine x_getI E h (fi_bo_pieces g) rfl hwX1 (by decide) (by decide +kernel) (v := nI n2) e13 dX1_joinTwo_119 ?_
                refine lv_icmp_ge (tgt := 189) hx hb dX1_joinTwo_122 (by decide) (fun c14 => ?_) (fun c14 => ?_)
                · skip
                  have b15 : n2 ≤ i12_5 := y_le (a := n2) (b := i12_5) (by omega) (by omega) c14
                  refine lv_iconst (v := 1) hx hb dX1_joinTwo_189 (by decide) ?_
                  exact x_zret E h rfl ⟨hI_12, hF_12⟩ dX1_joinTwo_190
                · skip
                  have b16 : i12_5 < n2 := y_nle (a := n2) (b := i12_5) (by omega) (by omega) c14
                  refine lv_aload_n hx hb dX1_joinTwo_125 rfl (lv_at hl 4 rfl) ?_
                  refine x_getR E h (fr_bo_link g) rfl hwX1 (by decide) (by decide +kernel) dX1_joinTwo_126 ?_
                  refine lv_iload_n hx hb dX1_joinTwo_129 rfl (lv_at hl 3 rfl) ?_
                  refine x_row E h (fg_bo_link g) (i := nI n8) (vp_in_nI (by omega) (by decide)) (kr := 37 + n8) (by rw [nI_clamp (by omega)]) dX1_joinTwo_130 ?_
                  refine lv_iload hx hb dX1_joinTwo_131 (lv_at hl 0 rfl) ?_
                  refine lv_dup2_11 hx hb dX1_joinTwo_133 rfl rfl ?_
                  refine x_ldI E h (gi_bo_link g n8 (by omega)) (i := nI i12_5) (vp_in_nI (by omega) (by decide)) (v := t12.2.2 (31 + n8) i12_5) (congrArg (t12.2.2 (31 + n8)) (nI_clamp (by omega))) dX1_joinTwo_134 ?_
                  refine lv_aload_n hx hb dX1_joinTwo_135 rfl (lv_at hl 4 rfl) ?_
                  refine x_getR E h (fr_bo_link g) rfl hwX1 (by decide) (by decide +kernel) dX1_joinTwo_136 ?_
                  refine lv_iload_n hx hb dX1_joinTwo_139 rfl (lv_at hl 2 rfl) ?_
                  refine x_row E h (fg_bo_link g) (i := nI n11) (vp_in_nI (by omega) (by decide)) (kr := 37 + n11) (by rw [nI_clamp (by omega)]) dX1_joinTwo_140 ?_
                  refine lv_iload hx hb dX1_joinTwo_141 (lv_at hl 0 rfl) ?_
                  refine x_ldI E h (gi_bo_link g n11 (by omega)) (i := nI i12_5) (vp_in_nI (by omega) (by decide)) (v := t12.2.2 (31 + n11) i12_5) (congrArg (t12.2.2 (31 + n11)) (nI_clamp (by omega))) dX1_joinTwo_143 ?_
                  refine lv_iadd hx hb dX1_joinTwo_144 ?_
                  refine lv_topi (fun x17 e17 => ?_)
                  refine y_stI E h hI_12 hF_12 (gi_bo_link g n8 (by omega)) (i := nI i12_5) (vp_in_nI (by omega) (by decide)) (j := i12_5) (nI_clamp (by omega)) (ba_none ((gb_bo_link n8) (by omega))) (gr_bo_link n8 [(31, 39), (46, 46)] (by omega) rfl) dX1_joinTwo_145 (fun s18 H locs q18 hI18 hF18 h => ?_)
                  have e19 : s18.1 9 = nI n2 := (congrArg (fun t : ST => t.1 9) q18).trans e13
                  refine lv_aload_n hx hb dX1_joinTwo_146 rfl (lv_at hl 4 rfl) ?_
                  refine x_getR E h (fr_bo_link g) rfl hwX1 (by decide) (by decide +kernel) dX1_joinTwo_147 ?_
                  refine lv_iload hx hb dX1_joinTwo_150 (lv_at hl 0 rfl) ?_
                  refine x_row E h (fg_bo_link g) (i := nI i12_5) (vp_in_nI (by omega) (by decide)) (kr := 37 + i12_5) (by rw [nI_clamp (by omega)]) dX1_joinTwo_152 ?_
                  refine lv_iload_n hx hb dX1_joinTwo_153 rfl (lv_at hl 3 rfl) ?_
                  refine lv_aload_n hx hb dX1_joinTwo_154 rfl (lv_at hl 4 rfl) ?_
                  refine x_getR E h (fr_bo_link g) rfl hwX1 (by decide) (by decide +kernel) dX1_joinTwo_155 ?_
                  refine lv_iload_n hx hb dX1_joinTwo_158 rfl (lv_at hl 3 rfl) ?_
                  refine x_row E h (fg_bo_link g) (i := nI n8) (vp_in_nI (by omega) (by decide)) (kr := 37 + n8) (by rw [nI_clamp (by omega)]) dX1_joinTwo_159 ?_
                  refine lv_iload hx hb dX1_joinTwo_160 (lv_at hl 0 rfl) ?_
                  refine x_ldI E h (gi_bo_link g n8 (by omega)) (i := nI i12_5) (vp_in_nI (by omega) (by decide)) (v := s18.2.2 (31 + n8) i12_5) (congrArg (s18.2.2 (31 + n8)) (nI_clamp (by omega))) dX1_joinTwo_162 ?_
                  refine y_stI E h hI18 hF18 (gi_bo_link g i12_5 (by omega)) (i := nI n8) (vp_in_nI (by omega) (by decide)) (j := n8) (nI_clamp (by omega)) (ba_none ((gb_bo_link i12_5) (by omega))) (gr_bo_link i12_5 [(31, 39), (46, 46)] (by omega) rfl) dX1_joinTwo_163 (fun s20 H locs q20 hI20 hF20 h => ?_)
                  have e21 : s20.1 9 = nI n2 := (congrArg (fun t : ST => t.1 9) q20).trans e19
                  refine lv_aload_n hx hb dX1_joinTwo_164 rfl (lv_at hl 5 rfl) ?_
                  refine x_getRN E h (fr_jo_heapOf g) rfl hwX4 (by decide) (by decide +kernel) dX1_joinTwo_165 ?_
                  refine lv_iload hx hb dX1_joinTwo_168 (lv_at hl 0 rfl) ?_
                  refine x_ldI E h (ia_jo_heapOf g) (i := nI i12_5) (vp_in_nI (by omega) (by decide)) (v := s20.2.2 46 i12_5) (congrArg (s20.2.2 46) (nI_clamp (by omega))) dX1_joinTwo_170 ?_
                  refine lv_iload_n hx hb dX1_joinTwo_171 rfl (lv_at hl 2 rfl) ?_
                  have j183_24 : ∀ (t24 : ST), INV t24 → Fr [] [(31, 39), (46, 46)] σ t24 → t24.1 9 = nI n2 → ∀ (H : Heap) (locs : List Loc) (ls : Array Slot), HW g t24 s H locs → lv_has ls 7 [(5, .int (nI i12_5)), (4, .int i1_4), (3, .int (nI n11)), (2, .int (nI n8)), (0, .ref (g.2.1 25)), (1, .ref (g.2.1 54))] → W p l e { frames := 0, cells := 0, slots := 0, locals := 0 } s m args below meth c H locs 0 0 (MQ below (XQi g (fun r σ' => INV σ' ∧ Fr [] [(31, 39), (46, 46)] σ σ')) args s 0 0 (Aw g)) (F0 m 183 ls []) := by
                    intro t24 hI_24 hF_24 e25 H locs ls h hl
                    refine lv_iinc (v := (nI (i12_5 + 1))) (lv' := [(5, .int (nI (i12_5 + 1))), (4, .int i1_4), (3, .int (nI n11)), (2, .int (nI n8)), (0, .ref (g.2.1 25)), (1, .ref (g.2.1 54))]) hx hb dX1_joinTwo_183 hl (k := 0) rfl (nI_add i12_5 1) (by decide) rfl (fun ls hl => ?_)
                    refine lv_goto (tgt := 116) hx hb dX1_joinTwo_186 (by decide) ?_
                    exact ih12 t24 (i12_5 + 1) hI_24 hF_24 e25 (by omega) (by omega) _ _ _ h (lv_sub hl [0, 1, 2, 3, 4, 5] rfl)
                  refine lv_icmp_ne (tgt := 183) hx hb dX1_joinTwo_172 (by decide) (fun c22 => ?_) (fun c22 => ?_)
                  · skip
                    exact j183_24 s20 hI20 hF20 e21 _ _ _ h (lv_sub hl [0, 1, 2, 3, 4, 5] rfl)
                  · skip
                    refine lv_aload_n hx hb dX1_joinTwo_175 rfl (lv_at hl 5 rfl) ?_
                    refine x_getRN E h (fr_jo_heapOf g) rfl hwX4 (by decide) (by decide +kernel) dX1_joinTwo_176 ?_
                    refine lv_iload hx hb dX1_joinTwo_179 (lv_at hl 0 rfl) ?_
                    refine lv_iload_n hx hb dX1_joinTwo_181 rfl (lv_at hl 3 rfl) ?_
                    refine y_stI E h hI20 hF20 (ia_jo_heapOf g) (i := nI i12_5) (vp_in_nI (by omega) (by decide)) (j := i12_5) (nI_clamp (by omega)) (ba_none rfl) rfl dX1_joinTwo_182 (fun s27 H locs q27 hI27 hF27 h => ?_)
                    have e28 : s27.1 9 = nI n2 := (congrArg (fun t : ST => t.1 9) q27).trans e21
                    exact j183_24 s27 hI27 hF27 e28 _ _ _ h (lv_sub hl [0, 1, 2, 3, 4, 5] rfl)
            exact loop116_12 _ σ 0 hI hF e2 (Nat.zero_le _) (Nat.lt_succ_self _) _ _ _ h (lv_sub hl [0, 1, 2, 3, 4, 5] rfl)
          · skip
            refine lv_iconst (v := 0) hx hb dX1_joinTwo_111 (by decide) ?_
            exact x_zret E h rfl ⟨hI, hF⟩ dX1_joinTwo_112
      · skip
        have b30 : i1_5 < n2 := y_nle (a := n2) (b := i1_5) (by omega) (by omega) c3
        refine lv_iload hx hb dX1_joinTwo_19 (lv_at hl 0 rfl) ?_
        refine lv_iconst (v := 1) hx hb dX1_joinTwo_21 (by decide) ?_
        refine lv_iadd hx hb dX1_joinTwo_22 ?_
        refine x_topI (v2 := nI (i1_5 + 1)) (nI_add i1_5 1) ?_
        refine lv_istore (lv' := [(6, .int (nI (i1_5 + 1))), (5, .int (nI i1_5)), (4, .int i1_4), (3, .int i1_3), (2, .int i1_2), (0, .ref (g.2.1 25)), (1, .ref (g.2.1 54))]) hx hb dX1_joinTwo_23 hl (by decide) rfl (fun ls hl => ?_)
        have loop25_31 : ∀ (fu : Nat) (i31_6 : Nat) (i31_4 : Int32) (i31_3 : Int32) (i31_2 : Int32), i31_6 ≤ n2 → Opt (-1) 9 i31_3 → Opt (-1) 9 i31_2 → n2 - i31_6 < fu → ∀ (H : Heap) (locs : List Loc) (ls : Array Slot), HW g σ s H locs → lv_has ls 7 [(6, .int (nI i31_6)), (5, .int (nI i1_5)), (4, .int i31_4), (3, .int i31_3), (2, .int i31_2), (0, .ref (g.2.1 25)), (1, .ref (g.2.1 54))] → W p l e { frames := 0, cells := 0, slots := 0, locals := 0 } s m args below meth c H locs 0 0 (MQ below (XQi g (fun r σ' => INV σ' ∧ Fr [] [(31, 39), (46, 46)] σ σ')) args s 0 0 (Aw g)) (F0 m 25 ls []) := by
          intro fu
          induction fu with
          | zero => intro i31_6 i31_4 i31_3 i31_2 bi31_6 oi31_3 oi31_2 hm; exact absurd hm (Nat.not_lt_zero _)
          | succ fu ih =>
            have ih31 := ih
            clear ih
            intro i31_6 i31_4 i31_3 i31_2 bi31_6 oi31_3 oi31_2 hm31 H locs ls h hl
            refine lv_iload hx hb dX1_joinTwo_25 (lv_at hl 0 rfl) ?_
            refine lv_aload_n hx hb dX1_joinTwo_27 rfl (lv_at hl 5 rfl) ?_
            refine x_getI E h (fi_bo_pieces g) rfl hwX1 (by decide) (by decide +kernel) (v := nI n2) e2 dX1_joinTwo_28 ?_
            refine lv_icmp_ge (tgt := 97) hx hb dX1_joinTwo_31 (by decide) (fun c32 => ?_) (fun c32 => ?_)
            · skip
              have b33 : n2 ≤ i31_6 := y_le (a := n2) (b := i31_6) (by omega) (by omega) c32
              refine lv_iinc (v := (nI (i1_5 + 1))) (lv' := [(5, .int (nI (i1_5 + 1))), (6, .int (nI i31_6)), (4, .int i31_4), (3, .int i31_3), (2, .int i31_2), (0, .ref (g.2.1 25)), (1, .ref (g.2.1 54))]) hx hb dX1_joinTwo_97 hl (k := 1) rfl (nI_add i1_5 1) (by decide) rfl (fun ls hl => ?_)
              refine lv_goto (tgt := 10) hx hb dX1_joinTwo_100 (by decide) ?_
              exact ih1 (i1_5 + 1) i31_4 i31_3 i31_2 (by omega) oi31_3 oi31_2 (by omega) _ _ _ h (lv_sub hl [0, 2, 3, 4, 5, 6] rfl)
            · skip
              have b34 : i31_6 < n2 := y_nle (a := n2) (b := i31_6) (by omega) (by omega) c32
              refine lv_aload_n hx hb dX1_joinTwo_34 rfl (lv_at hl 6 rfl) ?_
              refine x_getRN E h (fr_jo_heapOf g) rfl hwX4 (by decide) (by decide +kernel) dX1_joinTwo_35 ?_
              refine lv_iload hx hb dX1_joinTwo_38 (lv_at hl 1 rfl) ?_
              refine x_ldI E h (ia_jo_heapOf g) (i := nI i1_5) (vp_in_nI (by omega) (by decide)) (v := σ.2.2 46 i1_5) (congrArg (σ.2.2 46) (nI_clamp (by omega))) dX1_joinTwo_40 ?_
              refine lv_iload hx hb dX1_joinTwo_41 (lv_at hl 1 rfl) ?_
              have j91_37 : ∀ (y37_l4 : Int32) (y37_l3 : Int32) (y37_l2 : Int32), Opt (-1) 9 y37_l3 → Opt (-1) 9 y37_l2 → ∀ (H : Heap) (locs : List Loc) (ls : Array Slot), HW g σ s H locs → lv_has ls 7 [(6, .int (nI i31_6)), (5, .int (nI i1_5)), (4, .int y37_l4), (3, .int y37_l3), (2, .int y37_l2), (0, .ref (g.2.1 25)), (1, .ref (g.2.1 54))] → W p l e { frames := 0, cells := 0, slots := 0, locals := 0 } s m args below meth c H locs 0 0 (MQ below (XQi g (fun r σ' => INV σ' ∧ Fr [] [(31, 39), (46, 46)] σ σ')) args s 0 0 (Aw g)) (F0 m 91 ls []) := by
                intro y37_l4 y37_l3 y37_l2 oy37_l3 oy37_l2 H locs ls h hl
                refine lv_iinc (v := (nI (i31_6 + 1))) (lv' := [(6, .int (nI (i31_6 + 1))), (5, .int (nI i1_5)), (4, .int y37_l4), (3, .int y37_l3), (2, .int y37_l2), (0, .ref (g.2.1 25)), (1, .ref (g.2.1 54))]) hx hb dX1_joinTwo_91 hl (k := 0) rfl (nI_add i31_6 1) (by decide) rfl (fun ls hl => ?_)
                refine lv_goto (tgt := 25) hx hb dX1_joinTwo_94 (by decide) ?_
                exact ih31 (i31_6 + 1) y37_l4 y37_l3 y37_l2 (by omega) oy37_l3 oy37_l2 (by omega) _ _ _ h (lv_sub hl [0, 1, 2, 3, 4, 5, 6] rfl)
              refine lv_icmp_ne (tgt := 91) hx hb dX1_joinTwo_43 (by decide) (fun c35 => ?_) (fun c35 => ?_)
              · skip
                exact j91_37 i31_4 i31_3 i31_2 oi31_3 oi31_2 _ _ _ h (lv_sub hl [0, 1, 2, 3, 4, 5, 6] rfl)
              · skip
                refine lv_aload_n hx hb dX1_joinTwo_46 rfl (lv_at hl 6 rfl) ?_
                refine x_getRN E h (fr_jo_heapOf g) rfl hwX4 (by decide) (by decide +kernel) dX1_joinTwo_47 ?_
                refine lv_iload hx hb dX1_joinTwo_50 (lv_at hl 0 rfl) ?_
                refine x_ldI E h (ia_jo_heapOf g) (i := nI i31_6) (vp_in_nI (by omega) (by decide)) (v := σ.2.2 46 i31_6) (congrArg (σ.2.2 46) (nI_clamp (by omega))) dX1_joinTwo_52 ?_
                refine lv_iload hx hb dX1_joinTwo_53 (lv_at hl 0 rfl) ?_
                refine lv_icmp_ne (tgt := 91) hx hb dX1_joinTwo_55 (by decide) (fun c39 => ?_) (fun c39 => ?_)
                · skip
                  exact j91_37 i31_4 i31_3 i31_2 oi31_3 oi31_2 _ _ _ h (lv_sub hl [0, 1, 2, 3, 4, 5, 6] rfl)
                · skip
                  refine lv_aload_n hx hb dX1_joinTwo_58 rfl (lv_at hl 5 rfl) ?_
                  refine x_getR E h (fr_bo_link g) rfl hwX1 (by decide) (by decide +kernel) dX1_joinTwo_59 ?_
                  refine lv_iload hx hb dX1_joinTwo_62 (lv_at hl 1 rfl) ?_
                  refine x_row E h (fg_bo_link g) (i := nI i1_5) (vp_in_nI (by omega) (by decide)) (kr := 37 + i1_5) (by rw [nI_clamp (by omega)]) dX1_joinTwo_64 ?_
                  refine lv_iload hx hb dX1_joinTwo_65 (lv_at hl 0 rfl) ?_
                  refine x_ldI E h (gi_bo_link g i1_5 (by omega)) (i := nI i31_6) (vp_in_nI (by omega) (by decide)) (v := σ.2.2 (31 + i1_5) i31_6) (congrArg (σ.2.2 (31 + i1_5)) (nI_clamp (by omega))) dX1_joinTwo_67 ?_
                  refine lv_iload hx hb dX1_joinTwo_68 (lv_at hl 2 rfl) ?_
                  refine lv_icmp_le (tgt := 91) hx hb dX1_joinTwo_70 (by decide) (fun c42 => ?_) (fun c42 => ?_)
                  · skip
                    exact j91_37 i31_4 i31_3 i31_2 oi31_3 oi31_2 _ _ _ h (lv_sub hl [0, 1, 2, 3, 4, 5, 6] rfl)
                  · skip
                    refine lv_aload_n hx hb dX1_joinTwo_73 rfl (lv_at hl 5 rfl) ?_
                    refine x_getR E h (fr_bo_link g) rfl hwX1 (by decide) (by decide +kernel) dX1_joinTwo_74 ?_
                    refine lv_iload hx hb dX1_joinTwo_77 (lv_at hl 1 rfl) ?_
                    refine x_row E h (fg_bo_link g) (i := nI i1_5) (vp_in_nI (by omega) (by decide)) (kr := 37 + i1_5) (by rw [nI_clamp (by omega)]) dX1_joinTwo_79 ?_
                    refine lv_iload hx hb dX1_joinTwo_80 (lv_at hl 0 rfl) ?_
                    refine x_ldI E h (gi_bo_link g i1_5 (by omega)) (i := nI i31_6) (vp_in_nI (by omega) (by decide)) (v := σ.2.2 (31 + i1_5) i31_6) (congrArg (σ.2.2 (31 + i1_5)) (nI_clamp (by omega))) dX1_joinTwo_82 ?_
                    refine lv_topi (fun x45 e45 => ?_)
                    refine lv_istore (lv' := [(4, .int x45), (6, .int (nI i31_6)), (5, .int (nI i1_5)), (3, .int i31_3), (2, .int i31_2), (0, .ref (g.2.1 25)), (1, .ref (g.2.1 54))]) hx hb dX1_joinTwo_83 hl (by decide) rfl (fun ls hl => ?_)
                    refine lv_iload hx hb dX1_joinTwo_85 (lv_at hl 2 rfl) ?_
                    refine lv_istore_n (lv' := [(2, .int (nI i1_5)), (4, .int x45), (6, .int (nI i31_6)), (5, .int (nI i1_5)), (3, .int i31_3), (0, .ref (g.2.1 25)), (1, .ref (g.2.1 54))]) hx hb dX1_joinTwo_87 rfl hl (by decide) rfl (fun ls hl => ?_)
                    refine lv_iload hx hb dX1_joinTwo_88 (lv_at hl 2 rfl) ?_
                    refine lv_istore_n (lv' := [(3, .int (nI i31_6)), (2, .int (nI i1_5)), (4, .int x45), (6, .int (nI i31_6)), (5, .int (nI i1_5)), (0, .ref (g.2.1 25)), (1, .ref (g.2.1 54))]) hx hb dX1_joinTwo_90 rfl hl (by decide) rfl (fun ls hl => ?_)
                    exact j91_37 x45 (nI i31_6) (nI i1_5) (Or.inr ⟨i31_6, by omega, rfl⟩) (Or.inr ⟨i1_5, by omega, rfl⟩) _ _ _ h (lv_sub hl [3, 4, 2, 0, 1, 5, 6] rfl)
        exact loop25_31 _ (i1_5 + 1) i1_4 i1_3 i1_2 (by omega) oi1_3 oi1_2 (Nat.lt_succ_self _) _ _ _ h (lv_sub hl [0, 1, 2, 3, 4, 5, 6] rfl)
  exact loop10_1 _ 0 0 (-1) (-1) (Nat.zero_le _) (Or.inl rfl) (Or.inl rfl) (Nat.lt_succ_self _) _ _ _ h (lv_sub hl [0, 1, 2, 3, 4, 5] rfl)
set_option maxHeartbeats 4000000 in
set_option maxRecDepth 100000 in
theorem aX1_join_0 (l : Launch) (g : CX) (σ : ST) (hI : INV σ)  : XM l g yX1_join wsX1_join { frames := 2, cells := 0, slots := 0, locals := 46 } [.ref (g.2.1 25), .ref (g.2.1 54)] σ (XQv g (fun σ' => INV σ' ∧ Fr [(17, 18)] [(31, 39), (46, 47)] σ σ')) := by
  refine x_met (own := RX1) (cc := cX1_join) (maxL := 4) (ret := none) (lv := [(0, .ref (g.2.1 25)), (1, .ref (g.2.1 54))]) (by decide) rfl rfl (Nat.le_of_ble_eq_true rfl) rfl ?_
  intro p e s m args below meth c ls E h hl
  have hx := E.1
  have hb := E.2.1
  have hown := E.2.2.2.1
  have hts := E.2.2.2.2.1
  have hF : Fr [(17, 18)] [(31, 39), (46, 47)] σ σ := Fr.refl σ
  have hwX1 : ∀ w ∈ wsX10, w ∈ wsX1_join := by decide +kernel
  have hwX4 : ∀ w ∈ wsX40, w ∈ wsX1_join := by decide +kernel
  refine lv_iconst (v := 0) hx hb dX1_join_0 (by decide) ?_
  refine lv_istore_n (lv' := [(2, .int 0), (0, .ref (g.2.1 25)), (1, .ref (g.2.1 54))]) hx hb dX1_join_1 rfl hl (by decide) rfl (fun ls hl => ?_)
  obtain ⟨n2, b2, e2⟩ := hI.1 9 9 rfl
  have loop2_1 : ∀ (fu : Nat) (t1 : ST) (i1_2 : Nat), INV t1 → Fr [(17, 18)] [(31, 39), (46, 47)] σ t1 → t1.1 9 = nI n2 → i1_2 ≤ n2 → n2 - i1_2 < fu → ∀ (H : Heap) (locs : List Loc) (ls : Array Slot), HW g t1 s H locs → lv_has ls 4 [(2, .int (nI i1_2)), (0, .ref (g.2.1 25)), (1, .ref (g.2.1 54))] → W p l e { frames := 2, cells := 0, slots := 0, locals := 46 } s m args below meth c H locs 0 0 (MQ below (XQv g (fun σ' => INV σ' ∧ Fr [(17, 18)] [(31, 39), (46, 47)] σ σ')) args s 0 0 (Aw g)) (F0 m 2 ls []) := by
    intro fu
    induction fu with
    | zero => intro t1 i1_2 hI_1 hF_1 e3 bi1_2 hm; exact absurd hm (Nat.not_lt_zero _)
    | succ fu ih =>
      have ih1 := ih
      clear ih
      intro t1 i1_2 hI_1 hF_1 e3 bi1_2 hm1 H locs ls h hl
      refine lv_iload_n hx hb dX1_join_2 rfl (lv_at hl 0 rfl) ?_
      refine lv_aload_n hx hb dX1_join_3 rfl (lv_at hl 1 rfl) ?_
      refine x_getI E h (fi_bo_pieces g) rfl hwX1 (by decide) (by decide +kernel) (v := nI n2) e3 dX1_join_4 ?_
      refine lv_icmp_ge (tgt := 55) hx hb dX1_join_7 (by decide) (fun c4 => ?_) (fun c4 => ?_)
      · skip
        have b5 : n2 ≤ i1_2 := y_le (a := n2) (b := i1_2) (by omega) (by omega) c4
        refine lv_iconst (v := 1) hx hb dX1_join_55 (by decide) ?_
        refine lv_istore_n (lv' := [(2, .int 1), (0, .ref (g.2.1 25)), (1, .ref (g.2.1 54))]) hx hb dX1_join_56 rfl hl (by decide) rfl (fun ls hl => ?_)
        refine lv_iconst (v := 0) hx hb dX1_join_57 (by decide) ?_
        refine lv_istore_n (lv' := [(3, .int 0), (2, .int 1), (0, .ref (g.2.1 25)), (1, .ref (g.2.1 54))]) hx hb dX1_join_58 rfl hl (by decide) rfl (fun ls hl => ?_)
        have loop59_6 : ∀ (fu : Nat) (t6 : ST) (i6_3 : Nat) (i6_2 : Int32), INV t6 → Fr [(17, 18)] [(31, 39), (46, 47)] σ t6 → t6.1 9 = nI n2 → i6_3 ≤ n2 → n2 - i6_3 < fu → ∀ (H : Heap) (locs : List Loc) (ls : Array Slot), HW g t6 s H locs → lv_has ls 4 [(3, .int (nI i6_3)), (2, .int i6_2), (0, .ref (g.2.1 25)), (1, .ref (g.2.1 54))] → W p l e { frames := 2, cells := 0, slots := 0, locals := 46 } s m args below meth c H locs 0 0 (MQ below (XQv g (fun σ' => INV σ' ∧ Fr [(17, 18)] [(31, 39), (46, 47)] σ σ')) args s 0 0 (Aw g)) (F0 m 59 ls []) := by
          intro fu
          induction fu with
          | zero => intro t6 i6_3 i6_2 hI_6 hF_6 e7 bi6_3 hm; exact absurd hm (Nat.not_lt_zero _)
          | succ fu ih =>
            have ih6 := ih
            clear ih
            intro t6 i6_3 i6_2 hI_6 hF_6 e7 bi6_3 hm6 H locs ls h hl
            refine lv_iload_n hx hb dX1_join_59 rfl (lv_at hl 0 rfl) ?_
            refine lv_aload_n hx hb dX1_join_60 rfl (lv_at hl 2 rfl) ?_
            refine x_getI E h (fi_bo_pieces g) rfl hwX1 (by decide) (by decide +kernel) (v := nI n2) e7 dX1_join_61 ?_
            refine lv_icmp_ge (tgt := 83) hx hb dX1_join_64 (by decide) (fun c8 => ?_) (fun c8 => ?_)
            · skip
              have b9 : n2 ≤ i6_3 := y_le (a := n2) (b := i6_3) (by omega) (by omega) c8
              refine lv_aload_n hx hb dX1_join_83 rfl (lv_at hl 3 rfl) ?_
              refine lv_aload_n hx hb dX1_join_84 rfl (lv_at hl 2 rfl) ?_
              refine x_getI E h (fi_bo_pieces g) rfl hwX1 (by decide) (by decide +kernel) (v := nI n2) e7 dX1_join_85 ?_
              refine x_vv E h (na := 1) (As := [.int (nI n2)]) (aX4_numberHeaps_0 l g t6 hI_6 (nI n2)) (oc_jo g) rfl gX1_join_X4_numberHeaps rfl ⟨rfl, rfl⟩ rfl (by decide +kernel) ⟨Nat.le_of_ble_eq_true rfl, Nat.le_of_ble_eq_true rfl⟩ hl.1 rfl (Nat.le_of_ble_eq_true rfl) dX1_join_88 ⟨Nat.le_of_ble_eq_true rfl, Nat.le_of_ble_eq_true rfl⟩ (fun s10 H locs q10 h => ?_)
              obtain ⟨hI10, f10⟩ := q10
              have hF10 := hF_6.call f10 (I := [(17, 18)]) (J := [(31, 39), (46, 47)]) rfl rfl
              have e11 : s10.1 9 = nI n2 := ((f10.1 9 rfl)).trans e7
              refine lv_aload_n hx hb dX1_join_91 rfl (lv_at hl 3 rfl) ?_
              refine lv_aload_n hx hb dX1_join_92 rfl (lv_at hl 2 rfl) ?_
              refine lv_aload_n hx hb dX1_join_93 rfl (lv_at hl 3 rfl) ?_
              refine x_vi E h (na := 1) (As := [.ref (g.2.1 54)]) (aX1_worthOf_0 l g s10 hI10) (oc_bo g) rfl gX1_join_X1_worthOf rfl ⟨rfl, rfl⟩ rfl (by decide +kernel) ⟨Nat.le_of_ble_eq_true rfl, Nat.le_of_ble_eq_true rfl⟩ hl.1 rfl (Nat.le_of_ble_eq_true rfl) dX1_join_94 ⟨Nat.le_of_ble_eq_true rfl, Nat.le_of_ble_eq_true rfl⟩ (fun r12 s12 H locs q12 h => ?_)
              subst q12
              refine y_putIN E h hI10 hF10 (ty := .int) (v := r12) (fi_jo_value g) rfl hwX4 tyX4_ok nmX4 (by decide) (by decide +kernel) (by decide +kernel) (by decide +kernel) rfl rfl (ba_none rfl) rfl dX1_join_97 (fun s13 H locs q13 hI13 hF13 h => ?_)
              have e14 : s13.1 9 = nI n2 := (congrArg (fun t : ST => t.1 9) q13).trans e11
              have e15 : s13.1 18 = r12 := congrArg (fun t : ST => t.1 18) q13
              exact x_vret E h ⟨hI13, hF13⟩ dX1_join_100
            · skip
              have b16 : i6_3 < n2 := y_nle (a := n2) (b := i6_3) (by omega) (by omega) c8
              refine lv_iload_n hx hb dX1_join_67 rfl (lv_at hl 1 rfl) ?_
              refine lv_if_eq (tgt := 83) hx hb dX1_join_68 (by decide) (fun c17 => ?_) (fun c17 => ?_)
              · skip
                subst c17
                refine lv_aload_n hx hb dX1_join_83 rfl (lv_at hl 3 rfl) ?_
                refine lv_aload_n hx hb dX1_join_84 rfl (lv_at hl 2 rfl) ?_
                refine x_getI E h (fi_bo_pieces g) rfl hwX1 (by decide) (by decide +kernel) (v := nI n2) e7 dX1_join_85 ?_
                refine x_vv E h (na := 1) (As := [.int (nI n2)]) (aX4_numberHeaps_0 l g t6 hI_6 (nI n2)) (oc_jo g) rfl gX1_join_X4_numberHeaps rfl ⟨rfl, rfl⟩ rfl (by decide +kernel) ⟨Nat.le_of_ble_eq_true rfl, Nat.le_of_ble_eq_true rfl⟩ hl.1 rfl (Nat.le_of_ble_eq_true rfl) dX1_join_88 ⟨Nat.le_of_ble_eq_true rfl, Nat.le_of_ble_eq_true rfl⟩ (fun s19 H locs q19 h => ?_)
                obtain ⟨hI19, f19⟩ := q19
                have hF19 := hF_6.call f19 (I := [(17, 18)]) (J := [(31, 39), (46, 47)]) rfl rfl
                have e20 : s19.1 9 = nI n2 := ((f19.1 9 rfl)).trans e7
                refine lv_aload_n hx hb dX1_join_91 rfl (lv_at hl 3 rfl) ?_
                refine lv_aload_n hx hb dX1_join_92 rfl (lv_at hl 2 rfl) ?_
                refine lv_aload_n hx hb dX1_join_93 rfl (lv_at hl 3 rfl) ?_
                refine x_vi E h (na := 1) (As := [.ref (g.2.1 54)]) (aX1_worthOf_0 l g s19 hI19) (oc_bo g) rfl gX1_join_X1_worthOf rfl ⟨rfl, rfl⟩ rfl (by decide +kernel) ⟨Nat.le_of_ble_eq_true rfl, Nat.le_of_ble_eq_true rfl⟩ hl.1 rfl (Nat.le_of_ble_eq_true rfl) dX1_join_94 ⟨Nat.le_of_ble_eq_true rfl, Nat.le_of_ble_eq_true rfl⟩ (fun r21 s21 H locs q21 h => ?_)
                subst q21
                refine y_putIN E h hI19 hF19 (ty := .int) (v := r21) (fi_jo_value g) rfl hwX4 tyX4_ok nmX4 (by decide) (by decide +kernel) (by decide +kernel) (by decide +kernel) rfl rfl (ba_none rfl) rfl dX1_join_97 (fun s22 H locs q22 hI22 hF22 h => ?_)
                have e23 : s22.1 9 = nI n2 := (congrArg (fun t : ST => t.1 9) q22).trans e20
                have e24 : s22.1 18 = r21 := congrArg (fun t : ST => t.1 18) q22
                exact x_vret E h ⟨hI22, hF22⟩ dX1_join_100
              · skip
                refine lv_aload_n hx hb dX1_join_71 rfl (lv_at hl 2 rfl) ?_
                refine lv_aload_n hx hb dX1_join_72 rfl (lv_at hl 3 rfl) ?_
                refine x_vi E h (na := 1) (As := [.ref (g.2.1 54)]) (aX1_joinTwo_0 l g t6 hI_6) (oc_bo g) rfl gX1_join_X1_joinTwo rfl ⟨rfl, rfl⟩ rfl (by decide +kernel) ⟨Nat.le_of_ble_eq_true rfl, Nat.le_of_ble_eq_true rfl⟩ hl.1 rfl (Nat.le_of_ble_eq_true rfl) dX1_join_73 ⟨Nat.le_of_ble_eq_true rfl, Nat.le_of_ble_eq_true rfl⟩ (fun r26 s26 H locs q26 h => ?_)
                obtain ⟨hI26, f26⟩ := q26
                have hF26 := hF_6.call f26 (I := [(17, 18)]) (J := [(31, 39), (46, 47)]) rfl rfl
                have e27 : s26.1 9 = nI n2 := ((f26.1 9 rfl)).trans e7
                refine lv_istore_n (lv' := [(2, .int r26), (3, .int (nI i6_3)), (0, .ref (g.2.1 25)), (1, .ref (g.2.1 54))]) hx hb dX1_join_76 rfl hl (by decide) rfl (fun ls hl => ?_)
                refine lv_iinc (v := (nI (i6_3 + 1))) (lv' := [(3, .int (nI (i6_3 + 1))), (2, .int r26), (0, .ref (g.2.1 25)), (1, .ref (g.2.1 54))]) hx hb dX1_join_77 hl (k := 1) rfl (nI_add i6_3 1) (by decide) rfl (fun ls hl => ?_)
                refine lv_goto (tgt := 59) hx hb dX1_join_80 (by decide) ?_
                exact ih6 s26 (i6_3 + 1) r26 hI26 hF26 e27 (by omega) (by omega) _ _ _ h (lv_sub hl [0, 1, 2, 3] rfl)
        exact loop59_6 _ t1 0 1 hI_1 hF_1 e3 (Nat.zero_le _) (Nat.lt_succ_self _) _ _ _ h (lv_sub hl [0, 1, 2, 3] rfl)
      · skip
        have b28 : i1_2 < n2 := y_nle (a := n2) (b := i1_2) (by omega) (by omega) c4
        refine lv_aload_n hx hb dX1_join_10 rfl (lv_at hl 2 rfl) ?_
        refine x_getRN E h (fr_jo_heapOf g) rfl hwX4 (by decide) (by decide +kernel) dX1_join_11 ?_
        refine lv_iload_n hx hb dX1_join_14 rfl (lv_at hl 0 rfl) ?_
        refine lv_iload_n hx hb dX1_join_15 rfl (lv_at hl 0 rfl) ?_
        refine y_stI E h hI_1 hF_1 (ia_jo_heapOf g) (i := nI i1_2) (vp_in_nI (by omega) (by decide)) (j := i1_2) (nI_clamp (by omega)) (ba_none rfl) rfl dX1_join_16 (fun s29 H locs q29 hI29 hF29 h => ?_)
        have e30 : s29.1 9 = nI n2 := (congrArg (fun t : ST => t.1 9) q29).trans e3
        refine lv_iconst (v := 0) hx hb dX1_join_17 (by decide) ?_
        refine lv_istore_n (lv' := [(3, .int 0), (2, .int (nI i1_2)), (0, .ref (g.2.1 25)), (1, .ref (g.2.1 54))]) hx hb dX1_join_18 rfl hl (by decide) rfl (fun ls hl => ?_)
        have loop19_31 : ∀ (fu : Nat) (t31 : ST) (i31_3 : Nat), INV t31 → Fr [(17, 18)] [(31, 39), (46, 47)] σ t31 → t31.1 9 = nI n2 → i31_3 ≤ n2 → n2 - i31_3 < fu → ∀ (H : Heap) (locs : List Loc) (ls : Array Slot), HW g t31 s H locs → lv_has ls 4 [(3, .int (nI i31_3)), (2, .int (nI i1_2)), (0, .ref (g.2.1 25)), (1, .ref (g.2.1 54))] → W p l e { frames := 2, cells := 0, slots := 0, locals := 46 } s m args below meth c H locs 0 0 (MQ below (XQv g (fun σ' => INV σ' ∧ Fr [(17, 18)] [(31, 39), (46, 47)] σ σ')) args s 0 0 (Aw g)) (F0 m 19 ls []) := by
          intro fu
          induction fu with
          | zero => intro t31 i31_3 hI_31 hF_31 e32 bi31_3 hm; exact absurd hm (Nat.not_lt_zero _)
          | succ fu ih =>
            have ih31 := ih
            clear ih
            intro t31 i31_3 hI_31 hF_31 e32 bi31_3 hm31 H locs ls h hl
            refine lv_iload_n hx hb dX1_join_19 rfl (lv_at hl 0 rfl) ?_
            refine lv_aload_n hx hb dX1_join_20 rfl (lv_at hl 2 rfl) ?_
            refine x_getI E h (fi_bo_pieces g) rfl hwX1 (by decide) (by decide +kernel) (v := nI n2) e32 dX1_join_21 ?_
            refine lv_icmp_ge (tgt := 49) hx hb dX1_join_24 (by decide) (fun c33 => ?_) (fun c33 => ?_)
            · skip
              have b34 : n2 ≤ i31_3 := y_le (a := n2) (b := i31_3) (by omega) (by omega) c33
              refine lv_iinc (v := (nI (i1_2 + 1))) (lv' := [(2, .int (nI (i1_2 + 1))), (3, .int (nI i31_3)), (0, .ref (g.2.1 25)), (1, .ref (g.2.1 54))]) hx hb dX1_join_49 hl (k := 1) rfl (nI_add i1_2 1) (by decide) rfl (fun ls hl => ?_)
              refine lv_goto (tgt := 2) hx hb dX1_join_52 (by decide) ?_
              exact ih1 t31 (i1_2 + 1) hI_31 hF_31 e32 (by omega) (by omega) _ _ _ h (lv_sub hl [0, 2, 3] rfl)
            · skip
              have b35 : i31_3 < n2 := y_nle (a := n2) (b := i31_3) (by omega) (by omega) c33
              refine lv_aload_n hx hb dX1_join_27 rfl (lv_at hl 2 rfl) ?_
              refine x_getR E h (fr_bo_link g) rfl hwX1 (by decide) (by decide +kernel) dX1_join_28 ?_
              refine lv_iload_n hx hb dX1_join_31 rfl (lv_at hl 1 rfl) ?_
              refine x_row E h (fg_bo_link g) (i := nI i1_2) (vp_in_nI (by omega) (by decide)) (kr := 37 + i1_2) (by rw [nI_clamp (by omega)]) dX1_join_32 ?_
              refine lv_iload_n hx hb dX1_join_33 rfl (lv_at hl 0 rfl) ?_
              refine lv_aload_n hx hb dX1_join_34 rfl (lv_at hl 2 rfl) ?_
              refine x_getR E h (fr_bo_bond g) rfl hwX1 (by decide) (by decide +kernel) dX1_join_35 ?_
              refine lv_iload_n hx hb dX1_join_38 rfl (lv_at hl 1 rfl) ?_
              refine x_row E h (fg_bo_bond g) (i := nI i1_2) (vp_in_nI (by omega) (by decide)) (kr := 27 + i1_2) (by rw [nI_clamp (by omega)]) dX1_join_39 ?_
              refine lv_iload_n hx hb dX1_join_40 rfl (lv_at hl 0 rfl) ?_
              refine x_ldI E h (gi_bo_bond g i1_2 (by omega)) (i := nI i31_3) (vp_in_nI (by omega) (by decide)) (v := t31.2.2 (21 + i1_2) i31_3) (congrArg (t31.2.2 (21 + i1_2)) (nI_clamp (by omega))) dX1_join_41 ?_
              refine y_stI E h hI_31 hF_31 (gi_bo_link g i1_2 (by omega)) (i := nI i31_3) (vp_in_nI (by omega) (by decide)) (j := i31_3) (nI_clamp (by omega)) (ba_none ((gb_bo_link i1_2) (by omega))) (gr_bo_link i1_2 [(31, 39), (46, 47)] (by omega) rfl) dX1_join_42 (fun s36 H locs q36 hI36 hF36 h => ?_)
              have e37 : s36.1 9 = nI n2 := (congrArg (fun t : ST => t.1 9) q36).trans e32
              refine lv_iinc (v := (nI (i31_3 + 1))) (lv' := [(3, .int (nI (i31_3 + 1))), (2, .int (nI i1_2)), (0, .ref (g.2.1 25)), (1, .ref (g.2.1 54))]) hx hb dX1_join_43 hl (k := 0) rfl (nI_add i31_3 1) (by decide) rfl (fun ls hl => ?_)
              refine lv_goto (tgt := 19) hx hb dX1_join_46 (by decide) ?_
              exact ih31 s36 (i31_3 + 1) hI36 hF36 e37 (by omega) (by omega) _ _ _ h (lv_sub hl [0, 1, 2, 3] rfl)
        exact loop19_31 _ s29 0 hI29 hF29 e30 (Nat.zero_le _) (Nat.lt_succ_self _) _ _ _ h (lv_sub hl [0, 1, 2, 3] rfl)
  exact loop2_1 _ σ 0 hI hF e2 (Nat.zero_le _) (Nat.lt_succ_self _) _ _ _ h (lv_sub hl [0, 1, 2] rfl)
