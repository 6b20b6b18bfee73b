set_option maxHeartbeats 4000000 in
set_option maxRecDepth 100000 in
theorem kX11_within_0 (l : Launch) (g : CX) (σ : ST) (p0 : Int32) (p1 : Int32) (p2 : Int32) : XM l g yX11_within wsX11_within { frames := 0, cells := 0, slots := 0, locals := 0 } [.int p0, .int p1, .int p2] σ (XQi g (fun r σ' => (bB p0 p1 p2 = 1 ∧ 1 = r ∧ σ = σ') ∨ (bB p0 p1 p2 = 0 ∧ 0 = r ∧ σ = σ'))) := by
  refine x_met (own := RX11) (cc := cX11_within) (maxL := 3) (ret := (some .boolean)) (lv := [(0, .int p0), (1, .int p1), (2, .int p2)]) (by decide) rfl rfl (Nat.le_of_ble_eq_true rfl) rfl ?_
  intro p e s m args below meth c ls E h hl
  have hx := E.1
  have hb := E.2.1
  have hown := E.2.2.2.1
  have hts := E.2.2.2.2.1
  refine lv_iload_n hx hb dX11_within_0 rfl (lv_at hl 0 rfl) ?_
  refine lv_iload_n hx hb dX11_within_1 rfl (lv_at hl 1 rfl) ?_
  refine lv_icmp_lt (tgt := 14) hx hb dX11_within_2 (by decide) (fun c2_1 => ?_) (fun c2_1 => ?_)
  · skip
    refine lv_iconst (v := 0) hx hb dX11_within_14 (by decide) ?_
    exact x_zret E h rfl (Or.inr ⟨by simp [bB, c2_1], rfl, rfl⟩) dX11_within_15
  · skip
    refine lv_iload_n hx hb dX11_within_5 rfl (lv_at hl 0 rfl) ?_
    refine lv_iload_n hx hb dX11_within_6 rfl (lv_at hl 2 rfl) ?_
    refine lv_icmp_gt (tgt := 14) hx hb dX11_within_7 (by decide) (fun c7_2 => ?_) (fun c7_2 => ?_)
    · skip
      refine lv_iconst (v := 0) hx hb dX11_within_14 (by decide) ?_
      exact x_zret E h rfl (Or.inr ⟨by simp [bB, c2_1, c7_2], rfl, rfl⟩) dX11_within_15
    · skip
      refine lv_iconst (v := 1) hx hb dX11_within_10 (by decide) ?_
      refine lv_goto (tgt := 15) hx hb dX11_within_11 (by decide) ?_
      exact x_zret E h rfl (Or.inl ⟨by simp [bB, c2_1, c7_2], rfl, rfl⟩) dX11_within_15
set_option maxHeartbeats 4000000 in
set_option maxRecDepth 100000 in
theorem kX8_append_0 (l : Launch) (g : CX) (σ : ST) (p1 : Int64) (fI_0 : σ.1 0 = 0) : XM l g yX8_append wsX8_append { frames := 0, cells := 0, slots := 0, locals := 0 } [.ref (g.2.1 1), .long p1, .int 1] σ (XQi g (fun r σ' => 1 = r ∧ σ'.1 0 = 1 ∧ MO σ' σ)) := by
  refine x_met (own := RX8) (cc := cX8_append) (maxL := 5) (ret := (some .boolean)) (lv := [(0, .ref (g.2.1 1)), (1, .long p1), (3, .int 1)]) (by decide) rfl rfl (Nat.le_of_ble_eq_true rfl) rfl ?_
  intro p e s m args below meth c ls E h hl
  have hx := E.1
  have hb := E.2.1
  have hown := E.2.2.2.1
  have hts := E.2.2.2.2.1
  have hwX8 : ∀ w ∈ wsX80, w ∈ wsX8_append := by decide +kernel
  refine lv_iload_n hx hb dX8_append_0 rfl (lv_at hl 2 rfl) ?_
  refine lv_if_lt (tgt := 16) hx hb dX8_append_1 (by decide) (fun c => absurd c (by decide)) (fun _ => ?_)
  refine lv_iload_n hx hb dX8_append_4 rfl (lv_at hl 2 rfl) ?_
  refine lv_sipush (v := 200) hx hb dX8_append_5 (by decide) ?_
  refine lv_aload_n hx hb dX8_append_8 rfl (lv_at hl 0 rfl) ?_
  refine x_getI E h (fi_rt_length g) rfl hwX8 (by decide) (by decide +kernel) (v := 0) fI_0 dX8_append_9 ?_
  refine lv_isub hx hb dX8_append_12 ?_
  refine x_topI (v2 := 200) (by decide) ?_
  refine lv_icmp_le (tgt := 18) hx hb dX8_append_13 (by decide) (fun _ => ?_) (fun c => absurd (by decide) c)
  refine lv_iload_n hx hb dX8_append_18 rfl (lv_at hl 2 rfl) ?_
  refine lv_iconst (v := 1) hx hb dX8_append_19 (by decide) ?_
  refine lv_isub hx hb dX8_append_20 ?_
  refine x_topI (v2 := 0) (by decide) ?_
  refine lv_istore (lv' := [(4, .int 0), (0, .ref (g.2.1 1)), (1, .long p1), (3, .int 1)]) hx hb dX8_append_21 hl (by decide) rfl (fun ls hl => ?_)
  refine lv_iload hx hb dX8_append_23 (lv_at hl 0 rfl) ?_
  refine lv_if_lt (tgt := 65) hx hb dX8_append_25 (by decide) (fun c => absurd c (by decide)) (fun _ => ?_)
  refine lv_aload_n hx hb dX8_append_28 rfl (lv_at hl 1 rfl) ?_
  refine x_getR E h (fr_rt_bytes g) rfl hwX8 (by decide) (by decide +kernel) dX8_append_29 ?_
  refine lv_aload_n hx hb dX8_append_32 rfl (lv_at hl 1 rfl) ?_
  refine x_getI E h (fi_rt_length g) rfl hwX8 (by decide) (by decide +kernel) (v := 0) fI_0 dX8_append_33 ?_
  refine lv_lload_n hx hb dX8_append_36 rfl (lv_at hl 2 rfl) ?_
  refine lv_bipush (v := 8) hx hb dX8_append_37 (by decide) ?_
  refine lv_iload hx hb dX8_append_39 (lv_at hl 0 rfl) ?_
  refine lv_imul hx hb dX8_append_41 ?_
  refine x_topI (v2 := 0) (by decide) ?_
  refine lv_lushr hx hb dX8_append_42 rfl ?_
  refine lv_topl (fun y1 ey1 => ?_)
  refine lv_l2i hx hb dX8_append_43 rfl ?_
  refine lv_topi (fun x2 ex2 => ?_)
  refine lv_sipush (v := 255) hx hb dX8_append_44 (by decide) ?_
  refine lv_iand hx hb dX8_append_47 ?_
  refine x_stI E h (ia_rt_bytes g) (i := 0) (by unfold vp_in; decide) (j := (0)) rfl rfl dX8_append_48 (fun H locs h => ?_)
  refine lv_aload_n hx hb dX8_append_49 rfl (lv_at hl 1 rfl) ?_
  refine lv_dup hx hb dX8_append_50 rfl ?_
  refine x_getI E h (fi_rt_length g) rfl hwX8 (by decide) (by decide +kernel) (v := 0) fI_0 dX8_append_51 ?_
  refine lv_iconst (v := 1) hx hb dX8_append_54 (by decide) ?_
  refine lv_iadd hx hb dX8_append_55 ?_
  refine x_topI (v2 := 1) (by decide) ?_
  refine x_putI E h (ty := .int) (v := 1) (fi_rt_length g) rfl hwX8 tyX8_ok nmX8 (by decide) (by decide +kernel) (by decide +kernel) (by decide +kernel) rfl rfl dX8_append_56 (fun H locs h => ?_)
  refine lv_iinc (v := (-1)) (lv' := [(4, .int (-1)), (0, .ref (g.2.1 1)), (1, .long p1), (3, .int 1)]) hx hb dX8_append_59 hl (k := 0) rfl (by decide) (by decide) rfl (fun ls hl => ?_)
  refine lv_goto (tgt := 23) hx hb dX8_append_62 (by decide) ?_
  refine lv_iload hx hb dX8_append_23 (lv_at hl 0 rfl) ?_
  refine lv_if_lt (tgt := 65) hx hb dX8_append_25 (by decide) (fun _ => ?_) (fun c => absurd (by decide) c)
  refine lv_iconst (v := 1) hx hb dX8_append_65 (by decide) ?_
  exact x_zret E h rfl ⟨rfl, rfl, MO.refl σ⟩ dX8_append_66
set_option maxHeartbeats 4000000 in
set_option maxRecDepth 100000 in
theorem kX8_append_1 (l : Launch) (g : CX) (σ : ST) (p1 : Int64) (fI_0 : σ.1 0 = 0) : XM l g yX8_append wsX8_append { frames := 0, cells := 0, slots := 0, locals := 0 } [.ref (g.2.1 1), .long p1, .int 2] σ (XQi g (fun r σ' => 1 = r ∧ σ'.1 0 = 2 ∧ MO σ' σ)) := by
  refine x_met (own := RX8) (cc := cX8_append) (maxL := 5) (ret := (some .boolean)) (lv := [(0, .ref (g.2.1 1)), (1, .long p1), (3, .int 2)]) (by decide) rfl rfl (Nat.le_of_ble_eq_true rfl) rfl ?_
  intro p e s m args below meth c ls E h hl
  have hx := E.1
  have hb := E.2.1
  have hown := E.2.2.2.1
  have hts := E.2.2.2.2.1
  have hwX8 : ∀ w ∈ wsX80, w ∈ wsX8_append := by decide +kernel
  refine lv_iload_n hx hb dX8_append_0 rfl (lv_at hl 2 rfl) ?_
  refine lv_if_lt (tgt := 16) hx hb dX8_append_1 (by decide) (fun c => absurd c (by decide)) (fun _ => ?_)
  refine lv_iload_n hx hb dX8_append_4 rfl (lv_at hl 2 rfl) ?_
  refine lv_sipush (v := 200) hx hb dX8_append_5 (by decide) ?_
  refine lv_aload_n hx hb dX8_append_8 rfl (lv_at hl 0 rfl) ?_
  refine x_getI E h (fi_rt_length g) rfl hwX8 (by decide) (by decide +kernel) (v := 0) fI_0 dX8_append_9 ?_
  refine lv_isub hx hb dX8_append_12 ?_
  refine x_topI (v2 := 200) (by decide) ?_
  refine lv_icmp_le (tgt := 18) hx hb dX8_append_13 (by decide) (fun _ => ?_) (fun c => absurd (by decide) c)
  refine lv_iload_n hx hb dX8_append_18 rfl (lv_at hl 2 rfl) ?_
  refine lv_iconst (v := 1) hx hb dX8_append_19 (by decide) ?_
  refine lv_isub hx hb dX8_append_20 ?_
  refine x_topI (v2 := 1) (by decide) ?_
  refine lv_istore (lv' := [(4, .int 1), (0, .ref (g.2.1 1)), (1, .long p1), (3, .int 2)]) hx hb dX8_append_21 hl (by decide) rfl (fun ls hl => ?_)
  refine lv_iload hx hb dX8_append_23 (lv_at hl 0 rfl) ?_
  refine lv_if_lt (tgt := 65) hx hb dX8_append_25 (by decide) (fun c => absurd c (by decide)) (fun _ => ?_)
  refine lv_aload_n hx hb dX8_append_28 rfl (lv_at hl 1 rfl) ?_
  refine x_getR E h (fr_rt_bytes g) rfl hwX8 (by decide) (by decide +kernel) dX8_append_29 ?_
  refine lv_aload_n hx hb dX8_append_32 rfl (lv_at hl 1 rfl) ?_
  refine x_getI E h (fi_rt_length g) rfl hwX8 (by decide) (by decide +kernel) (v := 0) fI_0 dX8_append_33 ?_
  refine lv_lload_n hx hb dX8_append_36 rfl (lv_at hl 2 rfl) ?_
  refine lv_bipush (v := 8) hx hb dX8_append_37 (by decide) ?_
  refine lv_iload hx hb dX8_append_39 (lv_at hl 0 rfl) ?_
  refine lv_imul hx hb dX8_append_41 ?_
  refine x_topI (v2 := 8) (by decide) ?_
  refine lv_lushr hx hb dX8_append_42 rfl ?_
  refine lv_topl (fun y1 ey1 => ?_)
  refine lv_l2i hx hb dX8_append_43 rfl ?_
  refine lv_topi (fun x2 ex2 => ?_)
  refine lv_sipush (v := 255) hx hb dX8_append_44 (by decide) ?_
  refine lv_iand hx hb dX8_append_47 ?_
  refine x_stI E h (ia_rt_bytes g) (i := 0) (by unfold vp_in; decide) (j := (0)) rfl rfl dX8_append_48 (fun H locs h => ?_)
  refine lv_aload_n hx hb dX8_append_49 rfl (lv_at hl 1 rfl) ?_
  refine lv_dup hx hb dX8_append_50 rfl ?_
  refine x_getI E h (fi_rt_length g) rfl hwX8 (by decide) (by decide +kernel) (v := 0) fI_0 dX8_append_51 ?_
  refine lv_iconst (v := 1) hx hb dX8_append_54 (by decide) ?_
  refine lv_iadd hx hb dX8_append_55 ?_
  refine x_topI (v2 := 1) (by decide) ?_
  refine x_putI E h (ty := .int) (v := 1) (fi_rt_length g) rfl hwX8 tyX8_ok nmX8 (by decide) (by decide +kernel) (by decide +kernel) (by decide +kernel) rfl rfl dX8_append_56 (fun H locs h => ?_)
  refine lv_iinc (v := 0) (lv' := [(4, .int 0), (0, .ref (g.2.1 1)), (1, .long p1), (3, .int 2)]) hx hb dX8_append_59 hl (k := 0) rfl (by decide) (by decide) rfl (fun ls hl => ?_)
  refine lv_goto (tgt := 23) hx hb dX8_append_62 (by decide) ?_
  refine lv_iload hx hb dX8_append_23 (lv_at hl 0 rfl) ?_
  refine lv_if_lt (tgt := 65) hx hb dX8_append_25 (by decide) (fun c => absurd c (by decide)) (fun _ => ?_)
  refine lv_aload_n hx hb dX8_append_28 rfl (lv_at hl 1 rfl) ?_
  refine x_getR E h (fr_rt_bytes g) rfl hwX8 (by decide) (by decide +kernel) dX8_append_29 ?_
  refine lv_aload_n hx hb dX8_append_32 rfl (lv_at hl 1 rfl) ?_
  refine x_getI E h (fi_rt_length g) rfl hwX8 (by decide) (by decide +kernel) (v := 1) rfl dX8_append_33 ?_
  refine lv_lload_n hx hb dX8_append_36 rfl (lv_at hl 2 rfl) ?_
  refine lv_bipush (v := 8) hx hb dX8_append_37 (by decide) ?_
  refine lv_iload hx hb dX8_append_39 (lv_at hl 0 rfl) ?_
  refine lv_imul hx hb dX8_append_41 ?_
  refine x_topI (v2 := 0) (by decide) ?_
  refine lv_lushr hx hb dX8_append_42 rfl ?_
  refine lv_topl (fun y3 ey3 => ?_)
  refine lv_l2i hx hb dX8_append_43 rfl ?_
  refine lv_topi (fun x4 ex4 => ?_)
  refine lv_sipush (v := 255) hx hb dX8_append_44 (by decide) ?_
  refine lv_iand hx hb dX8_append_47 ?_
  refine x_stI E h (ia_rt_bytes g) (i := 1) (by unfold vp_in; decide) (j := (1)) rfl rfl dX8_append_48 (fun H locs h => ?_)
  refine lv_aload_n hx hb dX8_append_49 rfl (lv_at hl 1 rfl) ?_
  refine lv_dup hx hb dX8_append_50 rfl ?_
  refine x_getI E h (fi_rt_length g) rfl hwX8 (by decide) (by decide +kernel) (v := 1) rfl dX8_append_51 ?_
  refine lv_iconst (v := 1) hx hb dX8_append_54 (by decide) ?_
  refine lv_iadd hx hb dX8_append_55 ?_
  refine x_topI (v2 := 2) (by decide) ?_
  refine x_putI E h (ty := .int) (v := 2) (fi_rt_length g) rfl hwX8 tyX8_ok nmX8 (by decide) (by decide +kernel) (by decide +kernel) (by decide +kernel) rfl rfl dX8_append_56 (fun H locs h => ?_)
  refine lv_iinc (v := (-1)) (lv' := [(4, .int (-1)), (0, .ref (g.2.1 1)), (1, .long p1), (3, .int 2)]) hx hb dX8_append_59 hl (k := 0) rfl (by decide) (by decide) rfl (fun ls hl => ?_)
  refine lv_goto (tgt := 23) hx hb dX8_append_62 (by decide) ?_
  refine lv_iload hx hb dX8_append_23 (lv_at hl 0 rfl) ?_
  refine lv_if_lt (tgt := 65) hx hb dX8_append_25 (by decide) (fun _ => ?_) (fun c => absurd (by decide) c)
  refine lv_iconst (v := 1) hx hb dX8_append_65 (by decide) ?_
  exact x_zret E h rfl ⟨rfl, rfl, MO.refl σ⟩ dX8_append_66
set_option maxHeartbeats 4000000 in
set_option maxRecDepth 100000 in
theorem kX8_append_2 (l : Launch) (g : CX) (σ : ST) (p1 : Int64) (fI_0 : σ.1 0 = 0) : XM l g yX8_append wsX8_append { frames := 0, cells := 0, slots := 0, locals := 0 } [.ref (g.2.1 1), .long p1, .int 3] σ (XQi g (fun r σ' => 1 = r ∧ σ'.1 0 = 3 ∧ MO σ' σ)) := by
  refine x_met (own := RX8) (cc := cX8_append) (maxL := 5) (ret := (some .boolean)) (lv := [(0, .ref (g.2.1 1)), (1, .long p1), (3, .int 3)]) (by decide) rfl rfl (Nat.le_of_ble_eq_true rfl) rfl ?_
  intro p e s m args below meth c ls E h hl
  have hx := E.1
  have hb := E.2.1
  have hown := E.2.2.2.1
  have hts := E.2.2.2.2.1
  have hwX8 : ∀ w ∈ wsX80, w ∈ wsX8_append := by decide +kernel
  refine lv_iload_n hx hb dX8_append_0 rfl (lv_at hl 2 rfl) ?_
  refine lv_if_lt (tgt := 16) hx hb dX8_append_1 (by decide) (fun c => absurd c (by decide)) (fun _ => ?_)
  refine lv_iload_n hx hb dX8_append_4 rfl (lv_at hl 2 rfl) ?_
  refine lv_sipush (v := 200) hx hb dX8_append_5 (by decide) ?_
  refine lv_aload_n hx hb dX8_append_8 rfl (lv_at hl 0 rfl) ?_
  refine x_getI E h (fi_rt_length g) rfl hwX8 (by decide) (by decide +kernel) (v := 0) fI_0 dX8_append_9 ?_
  refine lv_isub hx hb dX8_append_12 ?_
  refine x_topI (v2 := 200) (by decide) ?_
  refine lv_icmp_le (tgt := 18) hx hb dX8_append_13 (by decide) (fun _ => ?_) (fun c => absurd (by decide) c)
  refine lv_iload_n hx hb dX8_append_18 rfl (lv_at hl 2 rfl) ?_
  refine lv_iconst (v := 1) hx hb dX8_append_19 (by decide) ?_
  refine lv_isub hx hb dX8_append_20 ?_
  refine x_topI (v2 := 2) (by decide) ?_
  refine lv_istore (lv' := [(4, .int 2), (0, .ref (g.2.1 1)), (1, .long p1), (3, .int 3)]) hx hb dX8_append_21 hl (by decide) rfl (fun ls hl => ?_)
  refine lv_iload hx hb dX8_append_23 (lv_at hl 0 rfl) ?_
  refine lv_if_lt (tgt := 65) hx hb dX8_append_25 (by decide) (fun c => absurd c (by decide)) (fun _ => ?_)
  refine lv_aload_n hx hb dX8_append_28 rfl (lv_at hl 1 rfl) ?_
  refine x_getR E h (fr_rt_bytes g) rfl hwX8 (by decide) (by decide +kernel) dX8_append_29 ?_
  refine lv_aload_n hx hb dX8_append_32 rfl (lv_at hl 1 rfl) ?_
  refine x_getI E h (fi_rt_length g) rfl hwX8 (by decide) (by decide +kernel) (v := 0) fI_0 dX8_append_33 ?_
  refine lv_lload_n hx hb dX8_append_36 rfl (lv_at hl 2 rfl) ?_
  refine lv_bipush (v := 8) hx hb dX8_append_37 (by decide) ?_
  refine lv_iload hx hb dX8_append_39 (lv_at hl 0 rfl) ?_
  refine lv_imul hx hb dX8_append_41 ?_
  refine x_topI (v2 := 16) (by decide) ?_
  refine lv_lushr hx hb dX8_append_42 rfl ?_
  refine lv_topl (fun y1 ey1 => ?_)
  refine lv_l2i hx hb dX8_append_43 rfl ?_
  refine lv_topi (fun x2 ex2 => ?_)
  refine lv_sipush (v := 255) hx hb dX8_append_44 (by decide) ?_
  refine lv_iand hx hb dX8_append_47 ?_
  refine x_stI E h (ia_rt_bytes g) (i := 0) (by unfold vp_in; decide) (j := (0)) rfl rfl dX8_append_48 (fun H locs h => ?_)
  refine lv_aload_n hx hb dX8_append_49 rfl (lv_at hl 1 rfl) ?_
  refine lv_dup hx hb dX8_append_50 rfl ?_
  refine x_getI E h (fi_rt_length g) rfl hwX8 (by decide) (by decide +kernel) (v := 0) fI_0 dX8_append_51 ?_
  refine lv_iconst (v := 1) hx hb dX8_append_54 (by decide) ?_
  refine lv_iadd hx hb dX8_append_55 ?_
  refine x_topI (v2 := 1) (by decide) ?_
  refine x_putI E h (ty := .int) (v := 1) (fi_rt_length g) rfl hwX8 tyX8_ok nmX8 (by decide) (by decide +kernel) (by decide +kernel) (by decide +kernel) rfl rfl dX8_append_56 (fun H locs h => ?_)
  refine lv_iinc (v := 1) (lv' := [(4, .int 1), (0, .ref (g.2.1 1)), (1, .long p1), (3, .int 3)]) hx hb dX8_append_59 hl (k := 0) rfl (by decide) (by decide) rfl (fun ls hl => ?_)
  refine lv_goto (tgt := 23) hx hb dX8_append_62 (by decide) ?_
  refine lv_iload hx hb dX8_append_23 (lv_at hl 0 rfl) ?_
  refine lv_if_lt (tgt := 65) hx hb dX8_append_25 (by decide) (fun c => absurd c (by decide)) (fun _ => ?_)
  refine lv_aload_n hx hb dX8_append_28 rfl (lv_at hl 1 rfl) ?_
  refine x_getR E h (fr_rt_bytes g) rfl hwX8 (by decide) (by decide +kernel) dX8_append_29 ?_
  refine lv_aload_n hx hb dX8_append_32 rfl (lv_at hl 1 rfl) ?_
  refine x_getI E h (fi_rt_length g) rfl hwX8 (by decide) (by decide +kernel) (v := 1) rfl dX8_append_33 ?_
  refine lv_lload_n hx hb dX8_append_36 rfl (lv_at hl 2 rfl) ?_
  refine lv_bipush (v := 8) hx hb dX8_append_37 (by decide) ?_
  refine lv_iload hx hb dX8_append_39 (lv_at hl 0 rfl) ?_
  refine lv_imul hx hb dX8_append_41 ?_
  refine x_topI (v2 := 8) (by decide) ?_
  refine lv_lushr hx hb dX8_append_42 rfl ?_
  refine lv_topl (fun y3 ey3 => ?_)
  refine lv_l2i hx hb dX8_append_43 rfl ?_
  refine lv_topi (fun x4 ex4 => ?_)
  refine lv_sipush (v := 255) hx hb dX8_append_44 (by decide) ?_
  refine lv_iand hx hb dX8_append_47 ?_
  refine x_stI E h (ia_rt_bytes g) (i := 1) (by unfold vp_in; decide) (j := (1)) rfl rfl dX8_append_48 (fun H locs h => ?_)
  refine lv_aload_n hx hb dX8_append_49 rfl (lv_at hl 1 rfl) ?_
  refine lv_dup hx hb dX8_append_50 rfl ?_
  refine x_getI E h (fi_rt_length g) rfl hwX8 (by decide) (by decide +kernel) (v := 1) rfl dX8_append_51 ?_
  refine lv_iconst (v := 1) hx hb dX8_append_54 (by decide) ?_
  refine lv_iadd hx hb dX8_append_55 ?_
  refine x_topI (v2 := 2) (by decide) ?_
  refine x_putI E h (ty := .int) (v := 2) (fi_rt_length g) rfl hwX8 tyX8_ok nmX8 (by decide) (by decide +kernel) (by decide +kernel) (by decide +kernel) rfl rfl dX8_append_56 (fun H locs h => ?_)
  refine lv_iinc (v := 0) (lv' := [(4, .int 0), (0, .ref (g.2.1 1)), (1, .long p1), (3, .int 3)]) hx hb dX8_append_59 hl (k := 0) rfl (by decide) (by decide) rfl (fun ls hl => ?_)
  refine lv_goto (tgt := 23) hx hb dX8_append_62 (by decide) ?_
  refine lv_iload hx hb dX8_append_23 (lv_at hl 0 rfl) ?_
  refine lv_if_lt (tgt := 65) hx hb dX8_append_25 (by decide) (fun c => absurd c (by decide)) (fun _ => ?_)
  refine lv_aload_n hx hb dX8_append_28 rfl (lv_at hl 1 rfl) ?_
  refine x_getR E h (fr_rt_bytes g) rfl hwX8 (by decide) (by decide +kernel) dX8_append_29 ?_
  refine lv_aload_n hx hb dX8_append_32 rfl (lv_at hl 1 rfl) ?_
  refine x_getI E h (fi_rt_length g) rfl hwX8 (by decide) (by decide +kernel) (v := 2) rfl dX8_append_33 ?_
  refine lv_lload_n hx hb dX8_append_36 rfl (lv_at hl 2 rfl) ?_
  refine lv_bipush (v := 8) hx hb dX8_append_37 (by decide) ?_
  refine lv_iload hx hb dX8_append_39 (lv_at hl 0 rfl) ?_
  refine lv_imul hx hb dX8_append_41 ?_
  refine x_topI (v2 := 0) (by decide) ?_
  refine lv_lushr hx hb dX8_append_42 rfl ?_
  refine lv_topl (fun y5 ey5 => ?_)
  refine lv_l2i hx hb dX8_append_43 rfl ?_
  refine lv_topi (fun x6 ex6 => ?_)
  refine lv_sipush (v := 255) hx hb dX8_append_44 (by decide) ?_
  refine lv_iand hx hb dX8_append_47 ?_
  refine x_stI E h (ia_rt_bytes g) (i := 2) (by unfold vp_in; decide) (j := (2)) rfl rfl dX8_append_48 (fun H locs h => ?_)
  refine lv_aload_n hx hb dX8_append_49 rfl (lv_at hl 1 rfl) ?_
  refine lv_dup hx hb dX8_append_50 rfl ?_
  refine x_getI E h (fi_rt_length g) rfl hwX8 (by decide) (by decide +kernel) (v := 2) rfl dX8_append_51 ?_
  refine lv_iconst (v := 1) hx hb dX8_append_54 (by decide) ?_
  refine lv_iadd hx hb dX8_append_55 ?_
  refine x_topI (v2 := 3) (by decide) ?_
  refine x_putI E h (ty := .int) (v := 3) (fi_rt_length g) rfl hwX8 tyX8_ok nmX8 (by decide) (by decide +kernel) (by decide +kernel) (by decide +kernel) rfl rfl dX8_append_56 (fun H locs h => ?_)
  refine lv_iinc (v := (-1)) (lv' := [(4, .int (-1)), (0, .ref (g.2.1 1)), (1, .long p1), (3, .int 3)]) hx hb dX8_append_59 hl (k := 0) rfl (by decide) (by decide) rfl (fun ls hl => ?_)
  refine lv_goto (tgt := 23) hx hb dX8_append_62 (by decide) ?_
  refine lv_iload hx hb dX8_append_23 (lv_at hl 0 rfl) ?_
  refine lv_if_lt (tgt := 65) hx hb dX8_append_25 (by decide) (fun _ => ?_) (fun c => absurd (by decide) c)
  refine lv_iconst (v := 1) hx hb dX8_append_65 (by decide) ?_
  exact x_zret E h rfl ⟨rfl, rfl, MO.refl σ⟩ dX8_append_66
set_option maxHeartbeats 4000000 in
set_option maxRecDepth 100000 in
theorem kX8_append_3 (l : Launch) (g : CX) (σ : ST) (p1 : Int64) (fI_0 : σ.1 0 = 0) : XM l g yX8_append wsX8_append { frames := 0, cells := 0, slots := 0, locals := 0 } [.ref (g.2.1 1), .long p1, .int 4] σ (XQi g (fun r σ' => 1 = r ∧ σ'.1 0 = 4 ∧ MO σ' σ)) := by
  refine x_met (own := RX8) (cc := cX8_append) (maxL := 5) (ret := (some .boolean)) (lv := [(0, .ref (g.2.1 1)), (1, .long p1), (3, .int 4)]) (by decide) rfl rfl (Nat.le_of_ble_eq_true rfl) rfl ?_
  intro p e s m args below meth c ls E h hl
  have hx := E.1
  have hb := E.2.1
  have hown := E.2.2.2.1
  have hts := E.2.2.2.2.1
  have hwX8 : ∀ w ∈ wsX80, w ∈ wsX8_append := by decide +kernel
  refine lv_iload_n hx hb dX8_append_0 rfl (lv_at hl 2 rfl) ?_
  refine lv_if_lt (tgt := 16) hx hb dX8_append_1 (by decide) (fun c => absurd c (by decide)) (fun _ => ?_)
  refine lv_iload_n hx hb dX8_append_4 rfl (lv_at hl 2 rfl) ?_
  refine lv_sipush (v := 200) hx hb dX8_append_5 (by decide) ?_
  refine lv_aload_n hx hb dX8_append_8 rfl (lv_at hl 0 rfl) ?_
  refine x_getI E h (fi_rt_length g) rfl hwX8 (by decide) (by decide +kernel) (v := 0) fI_0 dX8_append_9 ?_
  refine lv_isub hx hb dX8_append_12 ?_
  refine x_topI (v2 := 200) (by decide) ?_
  refine lv_icmp_le (tgt := 18) hx hb dX8_append_13 (by decide) (fun _ => ?_) (fun c => absurd (by decide) c)
  refine lv_iload_n hx hb dX8_append_18 rfl (lv_at hl 2 rfl) ?_
  refine lv_iconst (v := 1) hx hb dX8_append_19 (by decide) ?_
  refine lv_isub hx hb dX8_append_20 ?_
  refine x_topI (v2 := 3) (by decide) ?_
  refine lv_istore (lv' := [(4, .int 3), (0, .ref (g.2.1 1)), (1, .long p1), (3, .int 4)]) hx hb dX8_append_21 hl (by decide) rfl (fun ls hl => ?_)
  refine lv_iload hx hb dX8_append_23 (lv_at hl 0 rfl) ?_
  refine lv_if_lt (tgt := 65) hx hb dX8_append_25 (by decide) (fun c => absurd c (by decide)) (fun _ => ?_)
  refine lv_aload_n hx hb dX8_append_28 rfl (lv_at hl 1 rfl) ?_
  refine x_getR E h (fr_rt_bytes g) rfl hwX8 (by decide) (by decide +kernel) dX8_append_29 ?_
  refine lv_aload_n hx hb dX8_append_32 rfl (lv_at hl 1 rfl) ?_
  refine x_getI E h (fi_rt_length g) rfl hwX8 (by decide) (by decide +kernel) (v := 0) fI_0 dX8_append_33 ?_
  refine lv_lload_n hx hb dX8_append_36 rfl (lv_at hl 2 rfl) ?_
  refine lv_bipush (v := 8) hx hb dX8_append_37 (by decide) ?_
  refine lv_iload hx hb dX8_append_39 (lv_at hl 0 rfl) ?_
  refine lv_imul hx hb dX8_append_41 ?_
  refine x_topI (v2 := 24) (by decide) ?_
  refine lv_lushr hx hb dX8_append_42 rfl ?_
  refine lv_topl (fun y1 ey1 => ?_)
  refine lv_l2i hx hb dX8_append_43 rfl ?_
  refine lv_topi (fun x2 ex2 => ?_)
  refine lv_sipush (v := 255) hx hb dX8_append_44 (by decide) ?_
  refine lv_iand hx hb dX8_append_47 ?_
  refine x_stI E h (ia_rt_bytes g) (i := 0) (by unfold vp_in; decide) (j := (0)) rfl rfl dX8_append_48 (fun H locs h => ?_)
  refine lv_aload_n hx hb dX8_append_49 rfl (lv_at hl 1 rfl) ?_
  refine lv_dup hx hb dX8_append_50 rfl ?_
  refine x_getI E h (fi_rt_length g) rfl hwX8 (by decide) (by decide +kernel) (v := 0) fI_0 dX8_append_51 ?_
  refine lv_iconst (v := 1) hx hb dX8_append_54 (by decide) ?_
  refine lv_iadd hx hb dX8_append_55 ?_
  refine x_topI (v2 := 1) (by decide) ?_
  refine x_putI E h (ty := .int) (v := 1) (fi_rt_length g) rfl hwX8 tyX8_ok nmX8 (by decide) (by decide +kernel) (by decide +kernel) (by decide +kernel) rfl rfl dX8_append_56 (fun H locs h => ?_)
  refine lv_iinc (v := 2) (lv' := [(4, .int 2), (0, .ref (g.2.1 1)), (1, .long p1), (3, .int 4)]) hx hb dX8_append_59 hl (k := 0) rfl (by decide) (by decide) rfl (fun ls hl => ?_)
  refine lv_goto (tgt := 23) hx hb dX8_append_62 (by decide) ?_
  refine lv_iload hx hb dX8_append_23 (lv_at hl 0 rfl) ?_
  refine lv_if_lt (tgt := 65) hx hb dX8_append_25 (by decide) (fun c => absurd c (by decide)) (fun _ => ?_)
  refine lv_aload_n hx hb dX8_append_28 rfl (lv_at hl 1 rfl) ?_
  refine x_getR E h (fr_rt_bytes g) rfl hwX8 (by decide) (by decide +kernel) dX8_append_29 ?_
  refine lv_aload_n hx hb dX8_append_32 rfl (lv_at hl 1 rfl) ?_
  refine x_getI E h (fi_rt_length g) rfl hwX8 (by decide) (by decide +kernel) (v := 1) rfl dX8_append_33 ?_
  refine lv_lload_n hx hb dX8_append_36 rfl (lv_at hl 2 rfl) ?_
  refine lv_bipush (v := 8) hx hb dX8_append_37 (by decide) ?_
  refine lv_iload hx hb dX8_append_39 (lv_at hl 0 rfl) ?_
  refine lv_imul hx hb dX8_append_41 ?_
  refine x_topI (v2 := 16) (by decide) ?_
  refine lv_lushr hx hb dX8_append_42 rfl ?_
  refine lv_topl (fun y3 ey3 => ?_)
  refine lv_l2i hx hb dX8_append_43 rfl ?_
  refine lv_topi (fun x4 ex4 => ?_)
  refine lv_sipush (v := 255) hx hb dX8_append_44 (by decide) ?_
  refine lv_iand hx hb dX8_append_47 ?_
  refine x_stI E h (ia_rt_bytes g) (i := 1) (by unfold vp_in; decide) (j := (1)) rfl rfl dX8_append_48 (fun H locs h => ?_)
  refine lv_aload_n hx hb dX8_append_49 rfl (lv_at hl 1 rfl) ?_
  refine lv_dup hx hb dX8_append_50 rfl ?_
  refine x_getI E h (fi_rt_length g) rfl hwX8 (by decide) (by decide +kernel) (v := 1) rfl dX8_append_51 ?_
  refine lv_iconst (v := 1) hx hb dX8_append_54 (by decide) ?_
  refine lv_iadd hx hb dX8_append_55 ?_
  refine x_topI (v2 := 2) (by decide) ?_
  refine x_putI E h (ty := .int) (v := 2) (fi_rt_length g) rfl hwX8 tyX8_ok nmX8 (by decide) (by decide +kernel) (by decide +kernel) (by decide +kernel) rfl rfl dX8_append_56 (fun H locs h => ?_)
  refine lv_iinc (v := 1) (lv' := [(4, .int 1), (0, .ref (g.2.1 1)), (1, .long p1), (3, .int 4)]) hx hb dX8_append_59 hl (k := 0) rfl (by decide) (by decide) rfl (fun ls hl => ?_)
  refine lv_goto (tgt := 23) hx hb dX8_append_62 (by decide) ?_
  refine lv_iload hx hb dX8_append_23 (lv_at hl 0 rfl) ?_
  refine lv_if_lt (tgt := 65) hx hb dX8_append_25 (by decide) (fun c => absurd c (by decide)) (fun _ => ?_)
  refine lv_aload_n hx hb dX8_append_28 rfl (lv_at hl 1 rfl) ?_
  refine x_getR E h (fr_rt_bytes g) rfl hwX8 (by decide) (by decide +kernel) dX8_append_29 ?_
  refine lv_aload_n hx hb dX8_append_32 rfl (lv_at hl 1 rfl) ?_
  refine x_getI E h (fi_rt_length g) rfl hwX8 (by decide) (by decide +kernel) (v := 2) rfl dX8_append_33 ?_
  refine lv_lload_n hx hb dX8_append_36 rfl (lv_at hl 2 rfl) ?_
  refine lv_bipush (v := 8) hx hb dX8_append_37 (by decide) ?_
  refine lv_iload hx hb dX8_append_39 (lv_at hl 0 rfl) ?_
  refine lv_imul hx hb dX8_append_41 ?_
  refine x_topI (v2 := 8) (by decide) ?_
  refine lv_lushr hx hb dX8_append_42 rfl ?_
  refine lv_topl (fun y5 ey5 => ?_)
  refine lv_l2i hx hb dX8_append_43 rfl ?_
  refine lv_topi (fun x6 ex6 => ?_)
  refine lv_sipush (v := 255) hx hb dX8_append_44 (by decide) ?_
  refine lv_iand hx hb dX8_append_47 ?_
  refine x_stI E h (ia_rt_bytes g) (i := 2) (by unfold vp_in; decide) (j := (2)) rfl rfl dX8_append_48 (fun H locs h => ?_)
  refine lv_aload_n hx hb dX8_append_49 rfl (lv_at hl 1 rfl) ?_
  refine lv_dup hx hb dX8_append_50 rfl ?_
  refine x_getI E h (fi_rt_length g) rfl hwX8 (by decide) (by decide +kernel) (v := 2) rfl dX8_append_51 ?_
  refine lv_iconst (v := 1) hx hb dX8_append_54 (by decide) ?_
  refine lv_iadd hx hb dX8_append_55 ?_
  refine x_topI (v2 := 3) (by decide) ?_
  refine x_putI E h (ty := .int) (v := 3) (fi_rt_length g) rfl hwX8 tyX8_ok nmX8 (by decide) (by decide +kernel) (by decide +kernel) (by decide +kernel) rfl rfl dX8_append_56 (fun H locs h => ?_)
  refine lv_iinc (v := 0) (lv' := [(4, .int 0), (0, .ref (g.2.1 1)), (1, .long p1), (3, .int 4)]) hx hb dX8_append_59 hl (k := 0) rfl (by decide) (by decide) rfl (fun ls hl => ?_)
  refine lv_goto (tgt := 23) hx hb dX8_append_62 (by decide) ?_
  refine lv_iload hx hb dX8_append_23 (lv_at hl 0 rfl) ?_
  refine lv_if_lt (tgt := 65) hx hb dX8_append_25 (by decide) (fun c => absurd c (by decide)) (fun _ => ?_)
  refine lv_aload_n hx hb dX8_append_28 rfl (lv_at hl 1 rfl) ?_
  refine x_getR E h (fr_rt_bytes g) rfl hwX8 (by decide) (by decide +kernel) dX8_append_29 ?_
  refine lv_aload_n hx hb dX8_append_32 rfl (lv_at hl 1 rfl) ?_
  refine x_getI E h (fi_rt_length g) rfl hwX8 (by decide) (by decide +kernel) (v := 3) rfl dX8_append_33 ?_
  refine lv_lload_n hx hb dX8_append_36 rfl (lv_at hl 2 rfl) ?_
  refine lv_bipush (v := 8) hx hb dX8_append_37 (by decide) ?_
  refine lv_iload hx hb dX8_append_39 (lv_at hl 0 rfl) ?_
  refine lv_imul hx hb dX8_append_41 ?_
  refine x_topI (v2 := 0) (by decide) ?_
  refine lv_lushr hx hb dX8_append_42 rfl ?_
  refine lv_topl (fun y7 ey7 => ?_)
  refine lv_l2i hx hb dX8_append_43 rfl ?_
  refine lv_topi (fun x8 ex8 => ?_)
  refine lv_sipush (v := 255) hx hb dX8_append_44 (by decide) ?_
  refine lv_iand hx hb dX8_append_47 ?_
  refine x_stI E h (ia_rt_bytes g) (i := 3) (by unfold vp_in; decide) (j := (3)) rfl rfl dX8_append_48 (fun H locs h => ?_)
  refine lv_aload_n hx hb dX8_append_49 rfl (lv_at hl 1 rfl) ?_
  refine lv_dup hx hb dX8_append_50 rfl ?_
  refine x_getI E h (fi_rt_length g) rfl hwX8 (by decide) (by decide +kernel) (v := 3) rfl dX8_append_51 ?_
  refine lv_iconst (v := 1) hx hb dX8_append_54 (by decide) ?_
  refine lv_iadd hx hb dX8_append_55 ?_
  refine x_topI (v2 := 4) (by decide) ?_
  refine x_putI E h (ty := .int) (v := 4) (fi_rt_length g) rfl hwX8 tyX8_ok nmX8 (by decide) (by decide +kernel) (by decide +kernel) (by decide +kernel) rfl rfl dX8_append_56 (fun H locs h => ?_)
  refine lv_iinc (v := (-1)) (lv' := [(4, .int (-1)), (0, .ref (g.2.1 1)), (1, .long p1), (3, .int 4)]) hx hb dX8_append_59 hl (k := 0) rfl (by decide) (by decide) rfl (fun ls hl => ?_)
  refine lv_goto (tgt := 23) hx hb dX8_append_62 (by decide) ?_
  refine lv_iload hx hb dX8_append_23 (lv_at hl 0 rfl) ?_
  refine lv_if_lt (tgt := 65) hx hb dX8_append_25 (by decide) (fun _ => ?_) (fun c => absurd (by decide) c)
  refine lv_iconst (v := 1) hx hb dX8_append_65 (by decide) ?_
  exact x_zret E h rfl ⟨rfl, rfl, MO.refl σ⟩ dX8_append_66
set_option maxHeartbeats 4000000 in
set_option maxRecDepth 100000 in
theorem kX8_append_4 (l : Launch) (g : CX) (σ : ST) (p1 : Int64) (fI_0 : σ.1 0 = 0) : XM l g yX8_append wsX8_append { frames := 0, cells := 0, slots := 0, locals := 0 } [.ref (g.2.1 1), .long p1, .int 5] σ (XQi g (fun r σ' => 1 = r ∧ σ'.1 0 = 5 ∧ MO σ' σ)) := by
  refine x_met (own := RX8) (cc := cX8_append) (maxL := 5) (ret := (some .boolean)) (lv := [(0, .ref (g.2.1 1)), (1, .long p1), (3, .int 5)]) (by decide) rfl rfl (Nat.le_of_ble_eq_true rfl) rfl ?_
  intro p e s m args below meth c ls E h hl
  have hx := E.1
  have hb := E.2.1
  have hown := E.2.2.2.1
  have hts := E.2.2.2.2.1
  have hwX8 : ∀ w ∈ wsX80, w ∈ wsX8_append := by decide +kernel
  refine lv_iload_n hx hb dX8_append_0 rfl (lv_at hl 2 rfl) ?_
  refine lv_if_lt (tgt := 16) hx hb dX8_append_1 (by decide) (fun c => absurd c (by decide)) (fun _ => ?_)
  refine lv_iload_n hx hb dX8_append_4 rfl (lv_at hl 2 rfl) ?_
  refine lv_sipush (v := 200) hx hb dX8_append_5 (by decide) ?_
  refine lv_aload_n hx hb dX8_append_8 rfl (lv_at hl 0 rfl) ?_
  refine x_getI E h (fi_rt_length g) rfl hwX8 (by decide) (by decide +kernel) (v := 0) fI_0 dX8_append_9 ?_
  refine lv_isub hx hb dX8_append_12 ?_
  refine x_topI (v2 := 200) (by decide) ?_
  refine lv_icmp_le (tgt := 18) hx hb dX8_append_13 (by decide) (fun _ => ?_) (fun c => absurd (by decide) c)
  refine lv_iload_n hx hb dX8_append_18 rfl (lv_at hl 2 rfl) ?_
  refine lv_iconst (v := 1) hx hb dX8_append_19 (by decide) ?_
  refine lv_isub hx hb dX8_append_20 ?_
  refine x_topI (v2 := 4) (by decide) ?_
  refine lv_istore (lv' := [(4, .int 4), (0, .ref (g.2.1 1)), (1, .long p1), (3, .int 5)]) hx hb dX8_append_21 hl (by decide) rfl (fun ls hl => ?_)
  refine lv_iload hx hb dX8_append_23 (lv_at hl 0 rfl) ?_
  refine lv_if_lt (tgt := 65) hx hb dX8_append_25 (by decide) (fun c => absurd c (by decide)) (fun _ => ?_)
  refine lv_aload_n hx hb dX8_append_28 rfl (lv_at hl 1 rfl) ?_
  refine x_getR E h (fr_rt_bytes g) rfl hwX8 (by decide) (by decide +kernel) dX8_append_29 ?_
  refine lv_aload_n hx hb dX8_append_32 rfl (lv_at hl 1 rfl) ?_
  refine x_getI E h (fi_rt_length g) rfl hwX8 (by decide) (by decide +kernel) (v := 0) fI_0 dX8_append_33 ?_
  refine lv_lload_n hx hb dX8_append_36 rfl (lv_at hl 2 rfl) ?_
  refine lv_bipush (v := 8) hx hb dX8_append_37 (by decide) ?_
  refine lv_iload hx hb dX8_append_39 (lv_at hl 0 rfl) ?_
  refine lv_imul hx hb dX8_append_41 ?_
  refine x_topI (v2 := 32) (by decide) ?_
  refine lv_lushr hx hb dX8_append_42 rfl ?_
  refine lv_topl (fun y1 ey1 => ?_)
  refine lv_l2i hx hb dX8_append_43 rfl ?_
  refine lv_topi (fun x2 ex2 => ?_)
  refine lv_sipush (v := 255) hx hb dX8_append_44 (by decide) ?_
  refine lv_iand hx hb dX8_append_47 ?_
  refine x_stI E h (ia_rt_bytes g) (i := 0) (by unfold vp_in; decide) (j := (0)) rfl rfl dX8_append_48 (fun H locs h => ?_)
  refine lv_aload_n hx hb dX8_append_49 rfl (lv_at hl 1 rfl) ?_
  refine lv_dup hx hb dX8_append_50 rfl ?_
  refine x_getI E h (fi_rt_length g) rfl hwX8 (by decide) (by decide +kernel) (v := 0) fI_0 dX8_append_51 ?_
  refine lv_iconst (v := 1) hx hb dX8_append_54 (by decide) ?_
  refine lv_iadd hx hb dX8_append_55 ?_
  refine x_topI (v2 := 1) (by decide) ?_
  refine x_putI E h (ty := .int) (v := 1) (fi_rt_length g) rfl hwX8 tyX8_ok nmX8 (by decide) (by decide +kernel) (by decide +kernel) (by decide +kernel) rfl rfl dX8_append_56 (fun H locs h => ?_)
  refine lv_iinc (v := 3) (lv' := [(4, .int 3), (0, .ref (g.2.1 1)), (1, .long p1), (3, .int 5)]) hx hb dX8_append_59 hl (k := 0) rfl (by decide) (by decide) rfl (fun ls hl => ?_)
  refine lv_goto (tgt := 23) hx hb dX8_append_62 (by decide) ?_
  refine lv_iload hx hb dX8_append_23 (lv_at hl 0 rfl) ?_
  refine lv_if_lt (tgt := 65) hx hb dX8_append_25 (by decide) (fun c => absurd c (by decide)) (fun _ => ?_)
  refine lv_aload_n hx hb dX8_append_28 rfl (lv_at hl 1 rfl) ?_
  refine x_getR E h (fr_rt_bytes g) rfl hwX8 (by decide) (by decide +kernel) dX8_append_29 ?_
  refine lv_aload_n hx hb dX8_append_32 rfl (lv_at hl 1 rfl) ?_
  refine x_getI E h (fi_rt_length g) rfl hwX8 (by decide) (by decide +kernel) (v := 1) rfl dX8_append_33 ?_
  refine lv_lload_n hx hb dX8_append_36 rfl (lv_at hl 2 rfl) ?_
  refine lv_bipush (v := 8) hx hb dX8_append_37 (by decide) ?_
  refine lv_iload hx hb dX8_append_39 (lv_at hl 0 rfl) ?_
  refine lv_imul hx hb dX8_append_41 ?_
  refine x_topI (v2 := 24) (by decide) ?_
  refine lv_lushr hx hb dX8_append_42 rfl ?_
  refine lv_topl (fun y3 ey3 => ?_)
  refine lv_l2i hx hb dX8_append_43 rfl ?_
  refine lv_topi (fun x4 ex4 => ?_)
  refine lv_sipush (v := 255) hx hb dX8_append_44 (by decide) ?_
  refine lv_iand hx hb dX8_append_47 ?_
  refine x_stI E h (ia_rt_bytes g) (i := 1) (by unfold vp_in; decide) (j := (1)) rfl rfl dX8_append_48 (fun H locs h => ?_)
  refine lv_aload_n hx hb dX8_append_49 rfl (lv_at hl 1 rfl) ?_
  refine lv_dup hx hb dX8_append_50 rfl ?_
  refine x_getI E h (fi_rt_length g) rfl hwX8 (by decide) (by decide +kernel) (v := 1) rfl dX8_append_51 ?_
  refine lv_iconst (v := 1) hx hb dX8_append_54 (by decide) ?_
  refine lv_iadd hx hb dX8_append_55 ?_
  refine x_topI (v2 := 2) (by decide) ?_
  refine x_putI E h (ty := .int) (v := 2) (fi_rt_length g) rfl hwX8 tyX8_ok nmX8 (by decide) (by decide +kernel) (by decide +kernel) (by decide +kernel) rfl rfl dX8_append_56 (fun H locs h => ?_)
  refine lv_iinc (v := 2) (lv' := [(4, .int 2), (0, .ref (g.2.1 1)), (1, .long p1), (3, .int 5)]) hx hb dX8_append_59 hl (k := 0) rfl (by decide) (by decide) rfl (fun ls hl => ?_)
  refine lv_goto (tgt := 23) hx hb dX8_append_62 (by decide) ?_
  refine lv_iload hx hb dX8_append_23 (lv_at hl 0 rfl) ?_
  refine lv_if_lt (tgt := 65) hx hb dX8_append_25 (by decide) (fun c => absurd c (by decide)) (fun _ => ?_)
  refine lv_aload_n hx hb dX8_append_28 rfl (lv_at hl 1 rfl) ?_
  refine x_getR E h (fr_rt_bytes g) rfl hwX8 (by decide) (by decide +kernel) dX8_append_29 ?_
  refine lv_aload_n hx hb dX8_append_32 rfl (lv_at hl 1 rfl) ?_
  refine x_getI E h (fi_rt_length g) rfl hwX8 (by decide) (by decide +kernel) (v := 2) rfl dX8_append_33 ?_
  refine lv_lload_n hx hb dX8_append_36 rfl (lv_at hl 2 rfl) ?_
  refine lv_bipush (v := 8) hx hb dX8_append_37 (by decide) ?_
  refine lv_iload hx hb dX8_append_39 (lv_at hl 0 rfl) ?_
  refine lv_imul hx hb dX8_append_41 ?_
  refine x_topI (v2 := 16) (by decide) ?_
  refine lv_lushr hx hb dX8_append_42 rfl ?_
  refine lv_topl (fun y5 ey5 => ?_)
  refine lv_l2i hx hb dX8_append_43 rfl ?_
  refine lv_topi (fun x6 ex6 => ?_)
  refine lv_sipush (v := 255) hx hb dX8_append_44 (by decide) ?_
  refine lv_iand hx hb dX8_append_47 ?_
  refine x_stI E h (ia_rt_bytes g) (i := 2) (by unfold vp_in; decide) (j := (2)) rfl rfl dX8_append_48 (fun H locs h => ?_)
  refine lv_aload_n hx hb dX8_append_49 rfl (lv_at hl 1 rfl) ?_
  refine lv_dup hx hb dX8_append_50 rfl ?_
  refine x_getI E h (fi_rt_length g) rfl hwX8 (by decide) (by decide +kernel) (v := 2) rfl dX8_append_51 ?_
  refine lv_iconst (v := 1) hx hb dX8_append_54 (by decide) ?_
  refine lv_iadd hx hb dX8_append_55 ?_
  refine x_topI (v2 := 3) (by decide) ?_
  refine x_putI E h (ty := .int) (v := 3) (fi_rt_length g) rfl hwX8 tyX8_ok nmX8 (by decide) (by decide +kernel) (by decide +kernel) (by decide +kernel) rfl rfl dX8_append_56 (fun H locs h => ?_)
  refine lv_iinc (v := 1) (lv' := [(4, .int 1), (0, .ref (g.2.1 1)), (1, .long p1), (3, .int 5)]) hx hb dX8_append_59 hl (k := 0) rfl (by decide) (by decide) rfl (fun ls hl => ?_)
  refine lv_goto (tgt := 23) hx hb dX8_append_62 (by decide) ?_
  refine lv_iload hx hb dX8_append_23 (lv_at hl 0 rfl) ?_
  refine lv_if_lt (tgt := 65) hx hb dX8_append_25 (by decide) (fun c => absurd c (by decide)) (fun _ => ?_)
  refine lv_aload_n hx hb dX8_append_28 rfl (lv_at hl 1 rfl) ?_
  refine x_getR E h (fr_rt_bytes g) rfl hwX8 (by decide) (by decide +kernel) dX8_append_29 ?_
  refine lv_aload_n hx hb dX8_append_32 rfl (lv_at hl 1 rfl) ?_
  refine x_getI E h (fi_rt_length g) rfl hwX8 (by decide) (by decide +kernel) (v := 3) rfl dX8_append_33 ?_
  refine lv_lload_n hx hb dX8_append_36 rfl (lv_at hl 2 rfl) ?_
  refine lv_bipush (v := 8) hx hb dX8_append_37 (by decide) ?_
  refine lv_iload hx hb dX8_append_39 (lv_at hl 0 rfl) ?_
  refine lv_imul hx hb dX8_append_41 ?_
  refine x_topI (v2 := 8) (by decide) ?_
  refine lv_lushr hx hb dX8_append_42 rfl ?_
  refine lv_topl (fun y7 ey7 => ?_)
  refine lv_l2i hx hb dX8_append_43 rfl ?_
  refine lv_topi (fun x8 ex8 => ?_)
  refine lv_sipush (v := 255) hx hb dX8_append_44 (by decide) ?_
  refine lv_iand hx hb dX8_append_47 ?_
  refine x_stI E h (ia_rt_bytes g) (i := 3) (by unfold vp_in; decide) (j := (3)) rfl rfl dX8_append_48 (fun H locs h => ?_)
  refine lv_aload_n hx hb dX8_append_49 rfl (lv_at hl 1 rfl) ?_
  refine lv_dup hx hb dX8_append_50 rfl ?_
  refine x_getI E h (fi_rt_length g) rfl hwX8 (by decide) (by decide +kernel) (v := 3) rfl dX8_append_51 ?_
  refine lv_iconst (v := 1) hx hb dX8_append_54 (by decide) ?_
  refine lv_iadd hx hb dX8_append_55 ?_
  refine x_topI (v2 := 4) (by decide) ?_
  refine x_putI E h (ty := .int) (v := 4) (fi_rt_length g) rfl hwX8 tyX8_ok nmX8 (by decide) (by decide +kernel) (by decide +kernel) (by decide +kernel) rfl rfl dX8_append_56 (fun H locs h => ?_)
  refine lv_iinc (v := 0) (lv' := [(4, .int 0), (0, .ref (g.2.1 1)), (1, .long p1), (3, .int 5)]) hx hb dX8_append_59 hl (k := 0) rfl (by decide) (by decide) rfl (fun ls hl => ?_)
  refine lv_goto (tgt := 23) hx hb dX8_append_62 (by decide) ?_
  refine lv_iload hx hb dX8_append_23 (lv_at hl 0 rfl) ?_
  refine lv_if_lt (tgt := 65) hx hb dX8_append_25 (by decide) (fun c => absurd c (by decide)) (fun _ => ?_)
  refine lv_aload_n hx hb dX8_append_28 rfl (lv_at hl 1 rfl) ?_
  refine x_getR E h (fr_rt_bytes g) rfl hwX8 (by decide) (by decide +kernel) dX8_append_29 ?_
  refine lv_aload_n hx hb dX8_append_32 rfl (lv_at hl 1 rfl) ?_
  refine x_getI E h (fi_rt_length g) rfl hwX8 (by decide) (by decide +kernel) (v := 4) rfl dX8_append_33 ?_
  refine lv_lload_n hx hb dX8_append_36 rfl (lv_at hl 2 rfl) ?_
  refine lv_bipush (v := 8) hx hb dX8_append_37 (by decide) ?_
  refine lv_iload hx hb dX8_append_39 (lv_at hl 0 rfl) ?_
  refine lv_imul hx hb dX8_append_41 ?_
  refine x_topI (v2 := 0) (by decide) ?_
  refine lv_lushr hx hb dX8_append_42 rfl ?_
  refine lv_topl (fun y9 ey9 => ?_)
  refine lv_l2i hx hb dX8_append_43 rfl ?_
  refine lv_topi (fun x10 ex10 => ?_)
  refine lv_sipush (v := 255) hx hb dX8_append_44 (by decide) ?_
  refine lv_iand hx hb dX8_append_47 ?_
  refine x_stI E h (ia_rt_bytes g) (i := 4) (by unfold vp_in; decide) (j := (4)) rfl rfl dX8_append_48 (fun H locs h => ?_)
  refine lv_aload_n hx hb dX8_append_49 rfl (lv_at hl 1 rfl) ?_
  refine lv_dup hx hb dX8_append_50 rfl ?_
  refine x_getI E h (fi_rt_length g) rfl hwX8 (by decide) (by decide +kernel) (v := 4) rfl dX8_append_51 ?_
  refine lv_iconst (v := 1) hx hb dX8_append_54 (by decide) ?_
  refine lv_iadd hx hb dX8_append_55 ?_
  refine x_topI (v2 := 5) (by decide) ?_
  refine x_putI E h (ty := .int) (v := 5) (fi_rt_length g) rfl hwX8 tyX8_ok nmX8 (by decide) (by decide +kernel) (by decide +kernel) (by decide +kernel) rfl rfl dX8_append_56 (fun H locs h => ?_)
  refine lv_iinc (v := (-1)) (lv' := [(4, .int (-1)), (0, .ref (g.2.1 1)), (1, .long p1), (3, .int 5)]) hx hb dX8_append_59 hl (k := 0) rfl (by decide) (by decide) rfl (fun ls hl => ?_)
  refine lv_goto (tgt := 23) hx hb dX8_append_62 (by decide) ?_
  refine lv_iload hx hb dX8_append_23 (lv_at hl 0 rfl) ?_
  refine lv_if_lt (tgt := 65) hx hb dX8_append_25 (by decide) (fun _ => ?_) (fun c => absurd (by decide) c)
  refine lv_iconst (v := 1) hx hb dX8_append_65 (by decide) ?_
  exact x_zret E h rfl ⟨rfl, rfl, MO.refl σ⟩ dX8_append_66
set_option maxHeartbeats 4000000 in
set_option maxRecDepth 100000 in
theorem kX8_append_5 (l : Launch) (g : CX) (σ : ST) (p1 : Int64) (fI_0 : σ.1 0 = 0) : XM l g yX8_append wsX8_append { frames := 0, cells := 0, slots := 0, locals := 0 } [.ref (g.2.1 1), .long p1, .int 6] σ (XQi g (fun r σ' => 1 = r ∧ σ'.1 0 = 6 ∧ MO σ' σ)) := by
  refine x_met (own := RX8) (cc := cX8_append) (maxL := 5) (ret := (some .boolean)) (lv := [(0, .ref (g.2.1 1)), (1, .long p1), (3, .int 6)]) (by decide) rfl rfl (Nat.le_of_ble_eq_true rfl) rfl ?_
  intro p e s m args below meth c ls E h hl
  have hx := E.1
  have hb := E.2.1
  have hown := E.2.2.2.1
  have hts := E.2.2.2.2.1
  have hwX8 : ∀ w ∈ wsX80, w ∈ wsX8_append := by decide +kernel
  refine lv_iload_n hx hb dX8_append_0 rfl (lv_at hl 2 rfl) ?_
  refine lv_if_lt (tgt := 16) hx hb dX8_append_1 (by decide) (fun c => absurd c (by decide)) (fun _ => ?_)
  refine lv_iload_n hx hb dX8_append_4 rfl (lv_at hl 2 rfl) ?_
  refine lv_sipush (v := 200) hx hb dX8_append_5 (by decide) ?_
  refine lv_aload_n hx hb dX8_append_8 rfl (lv_at hl 0 rfl) ?_
  refine x_getI E h (fi_rt_length g) rfl hwX8 (by decide) (by decide +kernel) (v := 0) fI_0 dX8_append_9 ?_
  refine lv_isub hx hb dX8_append_12 ?_
  refine x_topI (v2 := 200) (by decide) ?_
  refine lv_icmp_le (tgt := 18) hx hb dX8_append_13 (by decide) (fun _ => ?_) (fun c => absurd (by decide) c)
  refine lv_iload_n hx hb dX8_append_18 rfl (lv_at hl 2 rfl) ?_
  refine lv_iconst (v := 1) hx hb dX8_append_19 (by decide) ?_
  refine lv_isub hx hb dX8_append_20 ?_
  refine x_topI (v2 := 5) (by decide) ?_
  refine lv_istore (lv' := [(4, .int 5), (0, .ref (g.2.1 1)), (1, .long p1), (3, .int 6)]) hx hb dX8_append_21 hl (by decide) rfl (fun ls hl => ?_)
  refine lv_iload hx hb dX8_append_23 (lv_at hl 0 rfl) ?_
  refine lv_if_lt (tgt := 65) hx hb dX8_append_25 (by decide) (fun c => absurd c (by decide)) (fun _ => ?_)
  refine lv_aload_n hx hb dX8_append_28 rfl (lv_at hl 1 rfl) ?_
  refine x_getR E h (fr_rt_bytes g) rfl hwX8 (by decide) (by decide +kernel) dX8_append_29 ?_
  refine lv_aload_n hx hb dX8_append_32 rfl (lv_at hl 1 rfl) ?_
  refine x_getI E h (fi_rt_length g) rfl hwX8 (by decide) (by decide +kernel) (v := 0) fI_0 dX8_append_33 ?_
  refine lv_lload_n hx hb dX8_append_36 rfl (lv_at hl 2 rfl) ?_
  refine lv_bipush (v := 8) hx hb dX8_append_37 (by decide) ?_
  refine lv_iload hx hb dX8_append_39 (lv_at hl 0 rfl) ?_
  refine lv_imul hx hb dX8_append_41 ?_
  refine x_topI (v2 := 40) (by decide) ?_
  refine lv_lushr hx hb dX8_append_42 rfl ?_
  refine lv_topl (fun y1 ey1 => ?_)
  refine lv_l2i hx hb dX8_append_43 rfl ?_
  refine lv_topi (fun x2 ex2 => ?_)
  refine lv_sipush (v := 255) hx hb dX8_append_44 (by decide) ?_
  refine lv_iand hx hb dX8_append_47 ?_
  refine x_stI E h (ia_rt_bytes g) (i := 0) (by unfold vp_in; decide) (j := (0)) rfl rfl dX8_append_48 (fun H locs h => ?_)
  refine lv_aload_n hx hb dX8_append_49 rfl (lv_at hl 1 rfl) ?_
  refine lv_dup hx hb dX8_append_50 rfl ?_
  refine x_getI E h (fi_rt_length g) rfl hwX8 (by decide) (by decide +kernel) (v := 0) fI_0 dX8_append_51 ?_
  refine lv_iconst (v := 1) hx hb dX8_append_54 (by decide) ?_
  refine lv_iadd hx hb dX8_append_55 ?_
  refine x_topI (v2 := 1) (by decide) ?_
  refine x_putI E h (ty := .int) (v := 1) (fi_rt_length g) rfl hwX8 tyX8_ok nmX8 (by decide) (by decide +kernel) (by decide +kernel) (by decide +kernel) rfl rfl dX8_append_56 (fun H locs h => ?_)
  refine lv_iinc (v := 4) (lv' := [(4, .int 4), (0, .ref (g.2.1 1)), (1, .long p1), (3, .int 6)]) hx hb dX8_append_59 hl (k := 0) rfl (by decide) (by decide) rfl (fun ls hl => ?_)
  refine lv_goto (tgt := 23) hx hb dX8_append_62 (by decide) ?_
  refine lv_iload hx hb dX8_append_23 (lv_at hl 0 rfl) ?_
  refine lv_if_lt (tgt := 65) hx hb dX8_append_25 (by decide) (fun c => absurd c (by decide)) (fun _ => ?_)
  refine lv_aload_n hx hb dX8_append_28 rfl (lv_at hl 1 rfl) ?_
  refine x_getR E h (fr_rt_bytes g) rfl hwX8 (by decide) (by decide +kernel) dX8_append_29 ?_
  refine lv_aload_n hx hb dX8_append_32 rfl (lv_at hl 1 rfl) ?_
  refine x_getI E h (fi_rt_length g) rfl hwX8 (by decide) (by decide +kernel) (v := 1) rfl dX8_append_33 ?_
  refine lv_lload_n hx hb dX8_append_36 rfl (lv_at hl 2 rfl) ?_
  refine lv_bipush (v := 8) hx hb dX8_append_37 (by decide) ?_
  refine lv_iload hx hb dX8_append_39 (lv_at hl 0 rfl) ?_
  refine lv_imul hx hb dX8_append_41 ?_
  refine x_topI (v2 := 32) (by decide) ?_
  refine lv_lushr hx hb dX8_append_42 rfl ?_
  refine lv_topl (fun y3 ey3 => ?_)
  refine lv_l2i hx hb dX8_append_43 rfl ?_
  refine lv_topi (fun x4 ex4 => ?_)
  refine lv_sipush (v := 255) hx hb dX8_append_44 (by decide) ?_
  refine lv_iand hx hb dX8_append_47 ?_
  refine x_stI E h (ia_rt_bytes g) (i := 1) (by unfold vp_in; decide) (j := (1)) rfl rfl dX8_append_48 (fun H locs h => ?_)
  refine lv_aload_n hx hb dX8_append_49 rfl (lv_at hl 1 rfl) ?_
  refine lv_dup hx hb dX8_append_50 rfl ?_
  refine x_getI E h (fi_rt_length g) rfl hwX8 (by decide) (by decide +kernel) (v := 1) rfl dX8_append_51 ?_
  refine lv_iconst (v := 1) hx hb dX8_append_54 (by decide) ?_
  refine lv_iadd hx hb dX8_append_55 ?_
  refine x_topI (v2 := 2) (by decide) ?_
  refine x_putI E h (ty := .int) (v := 2) (fi_rt_length g) rfl hwX8 tyX8_ok nmX8 (by decide) (by decide +kernel) (by decide +kernel) (by decide +kernel) rfl rfl dX8_append_56 (fun H locs h => ?_)
  refine lv_iinc (v := 3) (lv' := [(4, .int 3), (0, .ref (g.2.1 1)), (1, .long p1), (3, .int 6)]) hx hb dX8_append_59 hl (k := 0) rfl (by decide) (by decide) rfl (fun ls hl => ?_)
  refine lv_goto (tgt := 23) hx hb dX8_append_62 (by decide) ?_
  refine lv_iload hx hb dX8_append_23 (lv_at hl 0 rfl) ?_
  refine lv_if_lt (tgt := 65) hx hb dX8_append_25 (by decide) (fun c => absurd c (by decide)) (fun _ => ?_)
  refine lv_aload_n hx hb dX8_append_28 rfl (lv_at hl 1 rfl) ?_
  refine x_getR E h (fr_rt_bytes g) rfl hwX8 (by decide) (by decide +kernel) dX8_append_29 ?_
  refine lv_aload_n hx hb dX8_append_32 rfl (lv_at hl 1 rfl) ?_
  refine x_getI E h (fi_rt_length g) rfl hwX8 (by decide) (by decide +kernel) (v := 2) rfl dX8_append_33 ?_
  refine lv_lload_n hx hb dX8_append_36 rfl (lv_at hl 2 rfl) ?_
  refine lv_bipush (v := 8) hx hb dX8_append_37 (by decide) ?_
  refine lv_iload hx hb dX8_append_39 (lv_at hl 0 rfl) ?_
  refine lv_imul hx hb dX8_append_41 ?_
  refine x_topI (v2 := 24) (by decide) ?_
  refine lv_lushr hx hb dX8_append_42 rfl ?_
  refine lv_topl (fun y5 ey5 => ?_)
  refine lv_l2i hx hb dX8_append_43 rfl ?_
  refine lv_topi (fun x6 ex6 => ?_)
  refine lv_sipush (v := 255) hx hb dX8_append_44 (by decide) ?_
  refine lv_iand hx hb dX8_append_47 ?_
  refine x_stI E h (ia_rt_bytes g) (i := 2) (by unfold vp_in; decide) (j := (2)) rfl rfl dX8_append_48 (fun H locs h => ?_)
  refine lv_aload_n hx hb dX8_append_49 rfl (lv_at hl 1 rfl) ?_
  refine lv_dup hx hb dX8_append_50 rfl ?_
  refine x_getI E h (fi_rt_length g) rfl hwX8 (by decide) (by decide +kernel) (v := 2) rfl dX8_append_51 ?_
  refine lv_iconst (v := 1) hx hb dX8_append_54 (by decide) ?_
  refine lv_iadd hx hb dX8_append_55 ?_
  refine x_topI (v2 := 3) (by decide) ?_
  refine x_putI E h (ty := .int) (v := 3) (fi_rt_length g) rfl hwX8 tyX8_ok nmX8 (by decide) (by decide +kernel) (by decide +kernel) (by decide +kernel) rfl rfl dX8_append_56 (fun H locs h => ?_)
  refine lv_iinc (v := 2) (lv' := [(4, .int 2), (0, .ref (g.2.1 1)), (1, .long p1), (3, .int 6)]) hx hb dX8_append_59 hl (k := 0) rfl (by decide) (by decide) rfl (fun ls hl => ?_)
  refine lv_goto (tgt := 23) hx hb dX8_append_62 (by decide) ?_
  refine lv_iload hx hb dX8_append_23 (lv_at hl 0 rfl) ?_
  refine lv_if_lt (tgt := 65) hx hb dX8_append_25 (by decide) (fun c => absurd c (by decide)) (fun _ => ?_)
  refine lv_aload_n hx hb dX8_append_28 rfl (lv_at hl 1 rfl) ?_
  refine x_getR E h (fr_rt_bytes g) rfl hwX8 (by decide) (by decide +kernel) dX8_append_29 ?_
  refine lv_aload_n hx hb dX8_append_32 rfl (lv_at hl 1 rfl) ?_
  refine x_getI E h (fi_rt_length g) rfl hwX8 (by decide) (by decide +kernel) (v := 3) rfl dX8_append_33 ?_
  refine lv_lload_n hx hb dX8_append_36 rfl (lv_at hl 2 rfl) ?_
  refine lv_bipush (v := 8) hx hb dX8_append_37 (by decide) ?_
  refine lv_iload hx hb dX8_append_39 (lv_at hl 0 rfl) ?_
  refine lv_imul hx hb dX8_append_41 ?_
  refine x_topI (v2 := 16) (by decide) ?_
  refine lv_lushr hx hb dX8_append_42 rfl ?_
  refine lv_topl (fun y7 ey7 => ?_)
  refine lv_l2i hx hb dX8_append_43 rfl ?_
  refine lv_topi (fun x8 ex8 => ?_)
  refine lv_sipush (v := 255) hx hb dX8_append_44 (by decide) ?_
  refine lv_iand hx hb dX8_append_47 ?_
  refine x_stI E h (ia_rt_bytes g) (i := 3) (by unfold vp_in; decide) (j := (3)) rfl rfl dX8_append_48 (fun H locs h => ?_)
  refine lv_aload_n hx hb dX8_append_49 rfl (lv_at hl 1 rfl) ?_
  refine lv_dup hx hb dX8_append_50 rfl ?_
  refine x_getI E h (fi_rt_length g) rfl hwX8 (by decide) (by decide +kernel) (v := 3) rfl dX8_append_51 ?_
  refine lv_iconst (v := 1) hx hb dX8_append_54 (by decide) ?_
  refine lv_iadd hx hb dX8_append_55 ?_
  refine x_topI (v2 := 4) (by decide) ?_
  refine x_putI E h (ty := .int) (v := 4) (fi_rt_length g) rfl hwX8 tyX8_ok nmX8 (by decide) (by decide +kernel) (by decide +kernel) (by decide +kernel) rfl rfl dX8_append_56 (fun H locs h => ?_)
  refine lv_iinc (v := 1) (lv' := [(4, .int 1), (0, .ref (g.2.1 1)), (1, .long p1), (3, .int 6)]) hx hb dX8_append_59 hl (k := 0) rfl (by decide) (by decide) rfl (fun ls hl => ?_)
  refine lv_goto (tgt := 23) hx hb dX8_append_62 (by decide) ?_
  refine lv_iload hx hb dX8_append_23 (lv_at hl 0 rfl) ?_
  refine lv_if_lt (tgt := 65) hx hb dX8_append_25 (by decide) (fun c => absurd c (by decide)) (fun _ => ?_)
  refine lv_aload_n hx hb dX8_append_28 rfl (lv_at hl 1 rfl) ?_
  refine x_getR E h (fr_rt_bytes g) rfl hwX8 (by decide) (by decide +kernel) dX8_append_29 ?_
  refine lv_aload_n hx hb dX8_append_32 rfl (lv_at hl 1 rfl) ?_
  refine x_getI E h (fi_rt_length g) rfl hwX8 (by decide) (by decide +kernel) (v := 4) rfl dX8_append_33 ?_
  refine lv_lload_n hx hb dX8_append_36 rfl (lv_at hl 2 rfl) ?_
  refine lv_bipush (v := 8) hx hb dX8_append_37 (by decide) ?_
  refine lv_iload hx hb dX8_append_39 (lv_at hl 0 rfl) ?_
  refine lv_imul hx hb dX8_append_41 ?_
  refine x_topI (v2 := 8) (by decide) ?_
  refine lv_lushr hx hb dX8_append_42 rfl ?_
  refine lv_topl (fun y9 ey9 => ?_)
  refine lv_l2i hx hb dX8_append_43 rfl ?_
  refine lv_topi (fun x10 ex10 => ?_)
  refine lv_sipush (v := 255) hx hb dX8_append_44 (by decide) ?_
  refine lv_iand hx hb dX8_append_47 ?_
  refine x_stI E h (ia_rt_bytes g) (i := 4) (by unfold vp_in; decide) (j := (4)) rfl rfl dX8_append_48 (fun H locs h => ?_)
  refine lv_aload_n hx hb dX8_append_49 rfl (lv_at hl 1 rfl) ?_
  refine lv_dup hx hb dX8_append_50 rfl ?_
  refine x_getI E h (fi_rt_length g) rfl hwX8 (by decide) (by decide +kernel) (v := 4) rfl dX8_append_51 ?_
  refine lv_iconst (v := 1) hx hb dX8_append_54 (by decide) ?_
  refine lv_iadd hx hb dX8_append_55 ?_
  refine x_topI (v2 := 5) (by decide) ?_
  refine x_putI E h (ty := .int) (v := 5) (fi_rt_length g) rfl hwX8 tyX8_ok nmX8 (by decide) (by decide +kernel) (by decide +kernel) (by decide +kernel) rfl rfl dX8_append_56 (fun H locs h => ?_)
  refine lv_iinc (v := 0) (lv' := [(4, .int 0), (0, .ref (g.2.1 1)), (1, .long p1), (3, .int 6)]) hx hb dX8_append_59 hl (k := 0) rfl (by decide) (by decide) rfl (fun ls hl => ?_)
  refine lv_goto (tgt := 23) hx hb dX8_append_62 (by decide) ?_
  refine lv_iload hx hb dX8_append_23 (lv_at hl 0 rfl) ?_
  refine lv_if_lt (tgt := 65) hx hb dX8_append_25 (by decide) (fun c => absurd c (by decide)) (fun _ => ?_)
  refine lv_aload_n hx hb dX8_append_28 rfl (lv_at hl 1 rfl) ?_
  refine x_getR E h (fr_rt_bytes g) rfl hwX8 (by decide) (by decide +kernel) dX8_append_29 ?_
  refine lv_aload_n hx hb dX8_append_32 rfl (lv_at hl 1 rfl) ?_
  refine x_getI E h (fi_rt_length g) rfl hwX8 (by decide) (by decide +kernel) (v := 5) rfl dX8_append_33 ?_
  refine lv_lload_n hx hb dX8_append_36 rfl (lv_at hl 2 rfl) ?_
  refine lv_bipush (v := 8) hx hb dX8_append_37 (by decide) ?_
  refine lv_iload hx hb dX8_append_39 (lv_at hl 0 rfl) ?_
  refine lv_imul hx hb dX8_append_41 ?_
  refine x_topI (v2 := 0) (by decide) ?_
  refine lv_lushr hx hb dX8_append_42 rfl ?_
  refine lv_topl (fun y11 ey11 => ?_)
  refine lv_l2i hx hb dX8_append_43 rfl ?_
  refine lv_topi (fun x12 ex12 => ?_)
  refine lv_sipush (v := 255) hx hb dX8_append_44 (by decide) ?_
  refine lv_iand hx hb dX8_append_47 ?_
  refine x_stI E h (ia_rt_bytes g) (i := 5) (by unfold vp_in; decide) (j := (5)) rfl rfl dX8_append_48 (fun H locs h => ?_)
  refine lv_aload_n hx hb dX8_append_49 rfl (lv_at hl 1 rfl) ?_
  refine lv_dup hx hb dX8_append_50 rfl ?_
  refine x_getI E h (fi_rt_length g) rfl hwX8 (by decide) (by decide +kernel) (v := 5) rfl dX8_append_51 ?_
  refine lv_iconst (v := 1) hx hb dX8_append_54 (by decide) ?_
  refine lv_iadd hx hb dX8_append_55 ?_
  refine x_topI (v2 := 6) (by decide) ?_
  refine x_putI E h (ty := .int) (v := 6) (fi_rt_length g) rfl hwX8 tyX8_ok nmX8 (by decide) (by decide +kernel) (by decide +kernel) (by decide +kernel) rfl rfl dX8_append_56 (fun H locs h => ?_)
  refine lv_iinc (v := (-1)) (lv' := [(4, .int (-1)), (0, .ref (g.2.1 1)), (1, .long p1), (3, .int 6)]) hx hb dX8_append_59 hl (k := 0) rfl (by decide) (by decide) rfl (fun ls hl => ?_)
  refine lv_goto (tgt := 23) hx hb dX8_append_62 (by decide) ?_
  refine lv_iload hx hb dX8_append_23 (lv_at hl 0 rfl) ?_
  refine lv_if_lt (tgt := 65) hx hb dX8_append_25 (by decide) (fun _ => ?_) (fun c => absurd (by decide) c)
  refine lv_iconst (v := 1) hx hb dX8_append_65 (by decide) ?_
  exact x_zret E h rfl ⟨rfl, rfl, MO.refl σ⟩ dX8_append_66
set_option maxHeartbeats 4000000 in
set_option maxRecDepth 100000 in
theorem kX8_append_6 (l : Launch) (g : CX) (σ : ST) (p1 : Int64) (fI_0 : σ.1 0 = 0) : XM l g yX8_append wsX8_append { frames := 0, cells := 0, slots := 0, locals := 0 } [.ref (g.2.1 1), .long p1, .int 7] σ (XQi g (fun r σ' => 1 = r ∧ σ'.1 0 = 7 ∧ MO σ' σ)) := by
  refine x_met (own := RX8) (cc := cX8_append) (maxL := 5) (ret := (some .boolean)) (lv := [(0, .ref (g.2.1 1)), (1, .long p1), (3, .int 7)]) (by decide) rfl rfl (Nat.le_of_ble_eq_true rfl) rfl ?_
  intro p e s m args below meth c ls E h hl
  have hx := E.1
  have hb := E.2.1
  have hown := E.2.2.2.1
  have hts := E.2.2.2.2.1
  have hwX8 : ∀ w ∈ wsX80, w ∈ wsX8_append := by decide +kernel
  refine lv_iload_n hx hb dX8_append_0 rfl (lv_at hl 2 rfl) ?_
  refine lv_if_lt (tgt := 16) hx hb dX8_append_1 (by decide) (fun c => absurd c (by decide)) (fun _ => ?_)
  refine lv_iload_n hx hb dX8_append_4 rfl (lv_at hl 2 rfl) ?_
  refine lv_sipush (v := 200) hx hb dX8_append_5 (by decide) ?_
  refine lv_aload_n hx hb dX8_append_8 rfl (lv_at hl 0 rfl) ?_
  refine x_getI E h (fi_rt_length g) rfl hwX8 (by decide) (by decide +kernel) (v := 0) fI_0 dX8_append_9 ?_
  refine lv_isub hx hb dX8_append_12 ?_
  refine x_topI (v2 := 200) (by decide) ?_
  refine lv_icmp_le (tgt := 18) hx hb dX8_append_13 (by decide) (fun _ => ?_) (fun c => absurd (by decide) c)
  refine lv_iload_n hx hb dX8_append_18 rfl (lv_at hl 2 rfl) ?_
  refine lv_iconst (v := 1) hx hb dX8_append_19 (by decide) ?_
  refine lv_isub hx hb dX8_append_20 ?_
  refine x_topI (v2 := 6) (by decide) ?_
  refine lv_istore (lv' := [(4, .int 6), (0, .ref (g.2.1 1)), (1, .long p1), (3, .int 7)]) hx hb dX8_append_21 hl (by decide) rfl (fun ls hl => ?_)
  refine lv_iload hx hb dX8_append_23 (lv_at hl 0 rfl) ?_
  refine lv_if_lt (tgt := 65) hx hb dX8_append_25 (by decide) (fun c => absurd c (by decide)) (fun _ => ?_)
  refine lv_aload_n hx hb dX8_append_28 rfl (lv_at hl 1 rfl) ?_
  refine x_getR E h (fr_rt_bytes g) rfl hwX8 (by decide) (by decide +kernel) dX8_append_29 ?_
  refine lv_aload_n hx hb dX8_append_32 rfl (lv_at hl 1 rfl) ?_
  refine x_getI E h (fi_rt_length g) rfl hwX8 (by decide) (by decide +kernel) (v := 0) fI_0 dX8_append_33 ?_
  refine lv_lload_n hx hb dX8_append_36 rfl (lv_at hl 2 rfl) ?_
  refine lv_bipush (v := 8) hx hb dX8_append_37 (by decide) ?_
  refine lv_iload hx hb dX8_append_39 (lv_at hl 0 rfl) ?_
  refine lv_imul hx hb dX8_append_41 ?_
  refine x_topI (v2 := 48) (by decide) ?_
  refine lv_lushr hx hb dX8_append_42 rfl ?_
  refine lv_topl (fun y1 ey1 => ?_)
  refine lv_l2i hx hb dX8_append_43 rfl ?_
  refine lv_topi (fun x2 ex2 => ?_)
  refine lv_sipush (v := 255) hx hb dX8_append_44 (by decide) ?_
  refine lv_iand hx hb dX8_append_47 ?_
  refine x_stI E h (ia_rt_bytes g) (i := 0) (by unfold vp_in; decide) (j := (0)) rfl rfl dX8_append_48 (fun H locs h => ?_)
  refine lv_aload_n hx hb dX8_append_49 rfl (lv_at hl 1 rfl) ?_
  refine lv_dup hx hb dX8_append_50 rfl ?_
  refine x_getI E h (fi_rt_length g) rfl hwX8 (by decide) (by decide +kernel) (v := 0) fI_0 dX8_append_51 ?_
  refine lv_iconst (v := 1) hx hb dX8_append_54 (by decide) ?_
  refine lv_iadd hx hb dX8_append_55 ?_
  refine x_topI (v2 := 1) (by decide) ?_
  refine x_putI E h (ty := .int) (v := 1) (fi_rt_length g) rfl hwX8 tyX8_ok nmX8 (by decide) (by decide +kernel) (by decide +kernel) (by decide +kernel) rfl rfl dX8_append_56 (fun H locs h => ?_)
  refine lv_iinc (v := 5) (lv' := [(4, .int 5), (0, .ref (g.2.1 1)), (1, .long p1), (3, .int 7)]) hx hb dX8_append_59 hl (k := 0) rfl (by decide) (by decide) rfl (fun ls hl => ?_)
  refine lv_goto (tgt := 23) hx hb dX8_append_62 (by decide) ?_
  refine lv_iload hx hb dX8_append_23 (lv_at hl 0 rfl) ?_
  refine lv_if_lt (tgt := 65) hx hb dX8_append_25 (by decide) (fun c => absurd c (by decide)) (fun _ => ?_)
  refine lv_aload_n hx hb dX8_append_28 rfl (lv_at hl 1 rfl) ?_
  refine x_getR E h (fr_rt_bytes g) rfl hwX8 (by decide) (by decide +kernel) dX8_append_29 ?_
  refine lv_aload_n hx hb dX8_append_32 rfl (lv_at hl 1 rfl) ?_
  refine x_getI E h (fi_rt_length g) rfl hwX8 (by decide) (by decide +kernel) (v := 1) rfl dX8_append_33 ?_
  refine lv_lload_n hx hb dX8_append_36 rfl (lv_at hl 2 rfl) ?_
  refine lv_bipush (v := 8) hx hb dX8_append_37 (by decide) ?_
  refine lv_iload hx hb dX8_append_39 (lv_at hl 0 rfl) ?_
  refine lv_imul hx hb dX8_append_41 ?_
  refine x_topI (v2 := 40) (by decide) ?_
  refine lv_lushr hx hb dX8_append_42 rfl ?_
  refine lv_topl (fun y3 ey3 => ?_)
  refine lv_l2i hx hb dX8_append_43 rfl ?_
  refine lv_topi (fun x4 ex4 => ?_)
  refine lv_sipush (v := 255) hx hb dX8_append_44 (by decide) ?_
  refine lv_iand hx hb dX8_append_47 ?_
  refine x_stI E h (ia_rt_bytes g) (i := 1) (by unfold vp_in; decide) (j := (1)) rfl rfl dX8_append_48 (fun H locs h => ?_)
  refine lv_aload_n hx hb dX8_append_49 rfl (lv_at hl 1 rfl) ?_
  refine lv_dup hx hb dX8_append_50 rfl ?_
  refine x_getI E h (fi_rt_length g) rfl hwX8 (by decide) (by decide +kernel) (v := 1) rfl dX8_append_51 ?_
  refine lv_iconst (v := 1) hx hb dX8_append_54 (by decide) ?_
  refine lv_iadd hx hb dX8_append_55 ?_
  refine x_topI (v2 := 2) (by decide) ?_
  refine x_putI E h (ty := .int) (v := 2) (fi_rt_length g) rfl hwX8 tyX8_ok nmX8 (by decide) (by decide +kernel) (by decide +kernel) (by decide +kernel) rfl rfl dX8_append_56 (fun H locs h => ?_)
  refine lv_iinc (v := 4) (lv' := [(4, .int 4), (0, .ref (g.2.1 1)), (1, .long p1), (3, .int 7)]) hx hb dX8_append_59 hl (k := 0) rfl (by decide) (by decide) rfl (fun ls hl => ?_)
  refine lv_goto (tgt := 23) hx hb dX8_append_62 (by decide) ?_
  refine lv_iload hx hb dX8_append_23 (lv_at hl 0 rfl) ?_
  refine lv_if_lt (tgt := 65) hx hb dX8_append_25 (by decide) (fun c => absurd c (by decide)) (fun _ => ?_)
  refine lv_aload_n hx hb dX8_append_28 rfl (lv_at hl 1 rfl) ?_
  refine x_getR E h (fr_rt_bytes g) rfl hwX8 (by decide) (by decide +kernel) dX8_append_29 ?_
  refine lv_aload_n hx hb dX8_append_32 rfl (lv_at hl 1 rfl) ?_
  refine x_getI E h (fi_rt_length g) rfl hwX8 (by decide) (by decide +kernel) (v := 2) rfl dX8_append_33 ?_
  refine lv_lload_n hx hb dX8_append_36 rfl (lv_at hl 2 rfl) ?_
  refine lv_bipush (v := 8) hx hb dX8_append_37 (by decide) ?_
  refine lv_iload hx hb dX8_append_39 (lv_at hl 0 rfl) ?_
  refine lv_imul hx hb dX8_append_41 ?_
  refine x_topI (v2 := 32) (by decide) ?_
  refine lv_lushr hx hb dX8_append_42 rfl ?_
  refine lv_topl (fun y5 ey5 => ?_)
  refine lv_l2i hx hb dX8_append_43 rfl ?_
  refine lv_topi (fun x6 ex6 => ?_)
  refine lv_sipush (v := 255) hx hb dX8_append_44 (by decide) ?_
  refine lv_iand hx hb dX8_append_47 ?_
  refine x_stI E h (ia_rt_bytes g) (i := 2) (by unfold vp_in; decide) (j := (2)) rfl rfl dX8_append_48 (fun H locs h => ?_)
  refine lv_aload_n hx hb dX8_append_49 rfl (lv_at hl 1 rfl) ?_
  refine lv_dup hx hb dX8_append_50 rfl ?_
  refine x_getI E h (fi_rt_length g) rfl hwX8 (by decide) (by decide +kernel) (v := 2) rfl dX8_append_51 ?_
  refine lv_iconst (v := 1) hx hb dX8_append_54 (by decide) ?_
  refine lv_iadd hx hb dX8_append_55 ?_
  refine x_topI (v2 := 3) (by decide) ?_
  refine x_putI E h (ty := .int) (v := 3) (fi_rt_length g) rfl hwX8 tyX8_ok nmX8 (by decide) (by decide +kernel) (by decide +kernel) (by decide +kernel) rfl rfl dX8_append_56 (fun H locs h => ?_)
  refine lv_iinc (v := 3) (lv' := [(4, .int 3), (0, .ref (g.2.1 1)), (1, .long p1), (3, .int 7)]) hx hb dX8_append_59 hl (k := 0) rfl (by decide) (by decide) rfl (fun ls hl => ?_)
  refine lv_goto (tgt := 23) hx hb dX8_append_62 (by decide) ?_
  refine lv_iload hx hb dX8_append_23 (lv_at hl 0 rfl) ?_
  refine lv_if_lt (tgt := 65) hx hb dX8_append_25 (by decide) (fun c => absurd c (by decide)) (fun _ => ?_)
  refine lv_aload_n hx hb dX8_append_28 rfl (lv_at hl 1 rfl) ?_
  refine x_getR E h (fr_rt_bytes g) rfl hwX8 (by decide) (by decide +kernel) dX8_append_29 ?_
  refine lv_aload_n hx hb dX8_append_32 rfl (lv_at hl 1 rfl) ?_
  refine x_getI E h (fi_rt_length g) rfl hwX8 (by decide) (by decide +kernel) (v := 3) rfl dX8_append_33 ?_
  refine lv_lload_n hx hb dX8_append_36 rfl (lv_at hl 2 rfl) ?_
  refine lv_bipush (v := 8) hx hb dX8_append_37 (by decide) ?_
  refine lv_iload hx hb dX8_append_39 (lv_at hl 0 rfl) ?_
  refine lv_imul hx hb dX8_append_41 ?_
  refine x_topI (v2 := 24) (by decide) ?_
  refine lv_lushr hx hb dX8_append_42 rfl ?_
  refine lv_topl (fun y7 ey7 => ?_)
  refine lv_l2i hx hb dX8_append_43 rfl ?_
  refine lv_topi (fun x8 ex8 => ?_)
  refine lv_sipush (v := 255) hx hb dX8_append_44 (by decide) ?_
  refine lv_iand hx hb dX8_append_47 ?_
  refine x_stI E h (ia_rt_bytes g) (i := 3) (by unfold vp_in; decide) (j := (3)) rfl rfl dX8_append_48 (fun H locs h => ?_)
  refine lv_aload_n hx hb dX8_append_49 rfl (lv_at hl 1 rfl) ?_
  refine lv_dup hx hb dX8_append_50 rfl ?_
  refine x_getI E h (fi_rt_length g) rfl hwX8 (by decide) (by decide +kernel) (v := 3) rfl dX8_append_51 ?_
  refine lv_iconst (v := 1) hx hb dX8_append_54 (by decide) ?_
  refine lv_iadd hx hb dX8_append_55 ?_
  refine x_topI (v2 := 4) (by decide) ?_
  refine x_putI E h (ty := .int) (v := 4) (fi_rt_length g) rfl hwX8 tyX8_ok nmX8 (by decide) (by decide +kernel) (by decide +kernel) (by decide +kernel) rfl rfl dX8_append_56 (fun H locs h => ?_)
  refine lv_iinc (v := 2) (lv' := [(4, .int 2), (0, .ref (g.2.1 1)), (1, .long p1), (3, .int 7)]) hx hb dX8_append_59 hl (k := 0) rfl (by decide) (by decide) rfl (fun ls hl => ?_)
  refine lv_goto (tgt := 23) hx hb dX8_append_62 (by decide) ?_
  refine lv_iload hx hb dX8_append_23 (lv_at hl 0 rfl) ?_
  refine lv_if_lt (tgt := 65) hx hb dX8_append_25 (by decide) (fun c => absurd c (by decide)) (fun _ => ?_)
  refine lv_aload_n hx hb dX8_append_28 rfl (lv_at hl 1 rfl) ?_
  refine x_getR E h (fr_rt_bytes g) rfl hwX8 (by decide) (by decide +kernel) dX8_append_29 ?_
  refine lv_aload_n hx hb dX8_append_32 rfl (lv_at hl 1 rfl) ?_
  refine x_getI E h (fi_rt_length g) rfl hwX8 (by decide) (by decide +kernel) (v := 4) rfl dX8_append_33 ?_
  refine lv_lload_n hx hb dX8_append_36 rfl (lv_at hl 2 rfl) ?_
  refine lv_bipush (v := 8) hx hb dX8_append_37 (by decide) ?_
  refine lv_iload hx hb dX8_append_39 (lv_at hl 0 rfl) ?_
  refine lv_imul hx hb dX8_append_41 ?_
  refine x_topI (v2 := 16) (by decide) ?_
  refine lv_lushr hx hb dX8_append_42 rfl ?_
  refine lv_topl (fun y9 ey9 => ?_)
  refine lv_l2i hx hb dX8_append_43 rfl ?_
  refine lv_topi (fun x10 ex10 => ?_)
  refine lv_sipush (v := 255) hx hb dX8_append_44 (by decide) ?_
  refine lv_iand hx hb dX8_append_47 ?_
  refine x_stI E h (ia_rt_bytes g) (i := 4) (by unfold vp_in; decide) (j := (4)) rfl rfl dX8_append_48 (fun H locs h => ?_)
  refine lv_aload_n hx hb dX8_append_49 rfl (lv_at hl 1 rfl) ?_
  refine lv_dup hx hb dX8_append_50 rfl ?_
  refine x_getI E h (fi_rt_length g) rfl hwX8 (by decide) (by decide +kernel) (v := 4) rfl dX8_append_51 ?_
  refine lv_iconst (v := 1) hx hb dX8_append_54 (by decide) ?_
  refine lv_iadd hx hb dX8_append_55 ?_
  refine x_topI (v2 := 5) (by decide) ?_
  refine x_putI E h (ty := .int) (v := 5) (fi_rt_length g) rfl hwX8 tyX8_ok nmX8 (by decide) (by decide +kernel) (by decide +kernel) (by decide +kernel) rfl rfl dX8_append_56 (fun H locs h => ?_)
  refine lv_iinc (v := 1) (lv' := [(4, .int 1), (0, .ref (g.2.1 1)), (1, .long p1), (3, .int 7)]) hx hb dX8_append_59 hl (k := 0) rfl (by decide) (by decide) rfl (fun ls hl => ?_)
  refine lv_goto (tgt := 23) hx hb dX8_append_62 (by decide) ?_
  refine lv_iload hx hb dX8_append_23 (lv_at hl 0 rfl) ?_
  refine lv_if_lt (tgt := 65) hx hb dX8_append_25 (by decide) (fun c => absurd c (by decide)) (fun _ => ?_)
  refine lv_aload_n hx hb dX8_append_28 rfl (lv_at hl 1 rfl) ?_
  refine x_getR E h (fr_rt_bytes g) rfl hwX8 (by decide) (by decide +kernel) dX8_append_29 ?_
  refine lv_aload_n hx hb dX8_append_32 rfl (lv_at hl 1 rfl) ?_
  refine x_getI E h (fi_rt_length g) rfl hwX8 (by decide) (by decide +kernel) (v := 5) rfl dX8_append_33 ?_
  refine lv_lload_n hx hb dX8_append_36 rfl (lv_at hl 2 rfl) ?_
  refine lv_bipush (v := 8) hx hb dX8_append_37 (by decide) ?_
  refine lv_iload hx hb dX8_append_39 (lv_at hl 0 rfl) ?_
  refine lv_imul hx hb dX8_append_41 ?_
  refine x_topI (v2 := 8) (by decide) ?_
  refine lv_lushr hx hb dX8_append_42 rfl ?_
  refine lv_topl (fun y11 ey11 => ?_)
  refine lv_l2i hx hb dX8_append_43 rfl ?_
  refine lv_topi (fun x12 ex12 => ?_)
  refine lv_sipush (v := 255) hx hb dX8_append_44 (by decide) ?_
  refine lv_iand hx hb dX8_append_47 ?_
  refine x_stI E h (ia_rt_bytes g) (i := 5) (by unfold vp_in; decide) (j := (5)) rfl rfl dX8_append_48 (fun H locs h => ?_)
  refine lv_aload_n hx hb dX8_append_49 rfl (lv_at hl 1 rfl) ?_
  refine lv_dup hx hb dX8_append_50 rfl ?_
  refine x_getI E h (fi_rt_length g) rfl hwX8 (by decide) (by decide +kernel) (v := 5) rfl dX8_append_51 ?_
  refine lv_iconst (v := 1) hx hb dX8_append_54 (by decide) ?_
  refine lv_iadd hx hb dX8_append_55 ?_
  refine x_topI (v2 := 6) (by decide) ?_
  refine x_putI E h (ty := .int) (v := 6) (fi_rt_length g) rfl hwX8 tyX8_ok nmX8 (by decide) (by decide +kernel) (by decide +kernel) (by decide +kernel) rfl rfl dX8_append_56 (fun H locs h => ?_)
  refine lv_iinc (v := 0) (lv' := [(4, .int 0), (0, .ref (g.2.1 1)), (1, .long p1), (3, .int 7)]) hx hb dX8_append_59 hl (k := 0) rfl (by decide) (by decide) rfl (fun ls hl => ?_)
  refine lv_goto (tgt := 23) hx hb dX8_append_62 (by decide) ?_
  refine lv_iload hx hb dX8_append_23 (lv_at hl 0 rfl) ?_
  refine lv_if_lt (tgt := 65) hx hb dX8_append_25 (by decide) (fun c => absurd c (by decide)) (fun _ => ?_)
  refine lv_aload_n hx hb dX8_append_28 rfl (lv_at hl 1 rfl) ?_
  refine x_getR E h (fr_rt_bytes g) rfl hwX8 (by decide) (by decide +kernel) dX8_append_29 ?_
  refine lv_aload_n hx hb dX8_append_32 rfl (lv_at hl 1 rfl) ?_
  refine x_getI E h (fi_rt_length g) rfl hwX8 (by decide) (by decide +kernel) (v := 6) rfl dX8_append_33 ?_
  refine lv_lload_n hx hb dX8_append_36 rfl (lv_at hl 2 rfl) ?_
  refine lv_bipush (v := 8) hx hb dX8_append_37 (by decide) ?_
  refine lv_iload hx hb dX8_append_39 (lv_at hl 0 rfl) ?_
  refine lv_imul hx hb dX8_append_41 ?_
  refine x_topI (v2 := 0) (by decide) ?_
  refine lv_lushr hx hb dX8_append_42 rfl ?_
  refine lv_topl (fun y13 ey13 => ?_)
  refine lv_l2i hx hb dX8_append_43 rfl ?_
  refine lv_topi (fun x14 ex14 => ?_)
  refine lv_sipush (v := 255) hx hb dX8_append_44 (by decide) ?_
  refine lv_iand hx hb dX8_append_47 ?_
  refine x_stI E h (ia_rt_bytes g) (i := 6) (by unfold vp_in; decide) (j := (6)) rfl rfl dX8_append_48 (fun H locs h => ?_)
  refine lv_aload_n hx hb dX8_append_49 rfl (lv_at hl 1 rfl) ?_
  refine lv_dup hx hb dX8_append_50 rfl ?_
  refine x_getI E h (fi_rt_length g) rfl hwX8 (by decide) (by decide +kernel) (v := 6) rfl dX8_append_51 ?_
  refine lv_iconst (v := 1) hx hb dX8_append_54 (by decide) ?_
  refine lv_iadd hx hb dX8_append_55 ?_
  refine x_topI (v2 := 7) (by decide) ?_
  refine x_putI E h (ty := .int) (v := 7) (fi_rt_length g) rfl hwX8 tyX8_ok nmX8 (by decide) (by decide +kernel) (by decide +kernel) (by decide +kernel) rfl rfl dX8_append_56 (fun H locs h => ?_)
  refine lv_iinc (v := (-1)) (lv' := [(4, .int (-1)), (0, .ref (g.2.1 1)), (1, .long p1), (3, .int 7)]) hx hb dX8_append_59 hl (k := 0) rfl (by decide) (by decide) rfl (fun ls hl => ?_)
  refine lv_goto (tgt := 23) hx hb dX8_append_62 (by decide) ?_
  refine lv_iload hx hb dX8_append_23 (lv_at hl 0 rfl) ?_
  refine lv_if_lt (tgt := 65) hx hb dX8_append_25 (by decide) (fun _ => ?_) (fun c => absurd (by decide) c)
  refine lv_iconst (v := 1) hx hb dX8_append_65 (by decide) ?_
  exact x_zret E h rfl ⟨rfl, rfl, MO.refl σ⟩ dX8_append_66
set_option maxHeartbeats 4000000 in
set_option maxRecDepth 100000 in
theorem kX8_append_7 (l : Launch) (g : CX) (σ : ST) (p1 : Int64) (fI_0 : σ.1 0 = 0) : XM l g yX8_append wsX8_append { frames := 0, cells := 0, slots := 0, locals := 0 } [.ref (g.2.1 1), .long p1, .int 8] σ (XQi g (fun r σ' => 1 = r ∧ σ'.1 0 = 8 ∧ MO σ' σ)) := by
  refine x_met (own := RX8) (cc := cX8_append) (maxL := 5) (ret := (some .boolean)) (lv := [(0, .ref (g.2.1 1)), (1, .long p1), (3, .int 8)]) (by decide) rfl rfl (Nat.le_of_ble_eq_true rfl) rfl ?_
  intro p e s m args below meth c ls E h hl
  have hx := E.1
  have hb := E.2.1
  have hown := E.2.2.2.1
  have hts := E.2.2.2.2.1
  have hwX8 : ∀ w ∈ wsX80, w ∈ wsX8_append := by decide +kernel
  refine lv_iload_n hx hb dX8_append_0 rfl (lv_at hl 2 rfl) ?_
  refine lv_if_lt (tgt := 16) hx hb dX8_append_1 (by decide) (fun c => absurd c (by decide)) (fun _ => ?_)
  refine lv_iload_n hx hb dX8_append_4 rfl (lv_at hl 2 rfl) ?_
  refine lv_sipush (v := 200) hx hb dX8_append_5 (by decide) ?_
  refine lv_aload_n hx hb dX8_append_8 rfl (lv_at hl 0 rfl) ?_
  refine x_getI E h (fi_rt_length g) rfl hwX8 (by decide) (by decide +kernel) (v := 0) fI_0 dX8_append_9 ?_
  refine lv_isub hx hb dX8_append_12 ?_
  refine x_topI (v2 := 200) (by decide) ?_
  refine lv_icmp_le (tgt := 18) hx hb dX8_append_13 (by decide) (fun _ => ?_) (fun c => absurd (by decide) c)
  refine lv_iload_n hx hb dX8_append_18 rfl (lv_at hl 2 rfl) ?_
  refine lv_iconst (v := 1) hx hb dX8_append_19 (by decide) ?_
  refine lv_isub hx hb dX8_append_20 ?_
  refine x_topI (v2 := 7) (by decide) ?_
  refine lv_istore (lv' := [(4, .int 7), (0, .ref (g.2.1 1)), (1, .long p1), (3, .int 8)]) hx hb dX8_append_21 hl (by decide) rfl (fun ls hl => ?_)
  refine lv_iload hx hb dX8_append_23 (lv_at hl 0 rfl) ?_
  refine lv_if_lt (tgt := 65) hx hb dX8_append_25 (by decide) (fun c => absurd c (by decide)) (fun _ => ?_)
  refine lv_aload_n hx hb dX8_append_28 rfl (lv_at hl 1 rfl) ?_
  refine x_getR E h (fr_rt_bytes g) rfl hwX8 (by decide) (by decide +kernel) dX8_append_29 ?_
  refine lv_aload_n hx hb dX8_append_32 rfl (lv_at hl 1 rfl) ?_
  refine x_getI E h (fi_rt_length g) rfl hwX8 (by decide) (by decide +kernel) (v := 0) fI_0 dX8_append_33 ?_
  refine lv_lload_n hx hb dX8_append_36 rfl (lv_at hl 2 rfl) ?_
  refine lv_bipush (v := 8) hx hb dX8_append_37 (by decide) ?_
  refine lv_iload hx hb dX8_append_39 (lv_at hl 0 rfl) ?_
  refine lv_imul hx hb dX8_append_41 ?_
  refine x_topI (v2 := 56) (by decide) ?_
  refine lv_lushr hx hb dX8_append_42 rfl ?_
  refine lv_topl (fun y1 ey1 => ?_)
  refine lv_l2i hx hb dX8_append_43 rfl ?_
  refine lv_topi (fun x2 ex2 => ?_)
  refine lv_sipush (v := 255) hx hb dX8_append_44 (by decide) ?_
  refine lv_iand hx hb dX8_append_47 ?_
  refine x_stI E h (ia_rt_bytes g) (i := 0) (by unfold vp_in; decide) (j := (0)) rfl rfl dX8_append_48 (fun H locs h => ?_)
  refine lv_aload_n hx hb dX8_append_49 rfl (lv_at hl 1 rfl) ?_
  refine lv_dup hx hb dX8_append_50 rfl ?_
  refine x_getI E h (fi_rt_length g) rfl hwX8 (by decide) (by decide +kernel) (v := 0) fI_0 dX8_append_51 ?_
  refine lv_iconst (v := 1) hx hb dX8_append_54 (by decide) ?_
  refine lv_iadd hx hb dX8_append_55 ?_
  refine x_topI (v2 := 1) (by decide) ?_
  refine x_putI E h (ty := .int) (v := 1) (fi_rt_length g) rfl hwX8 tyX8_ok nmX8 (by decide) (by decide +kernel) (by decide +kernel) (by decide +kernel) rfl rfl dX8_append_56 (fun H locs h => ?_)
  refine lv_iinc (v := 6) (lv' := [(4, .int 6), (0, .ref (g.2.1 1)), (1, .long p1), (3, .int 8)]) hx hb dX8_append_59 hl (k := 0) rfl (by decide) (by decide) rfl (fun ls hl => ?_)
  refine lv_goto (tgt := 23) hx hb dX8_append_62 (by decide) ?_
  refine lv_iload hx hb dX8_append_23 (lv_at hl 0 rfl) ?_
  refine lv_if_lt (tgt := 65) hx hb dX8_append_25 (by decide) (fun c => absurd c (by decide)) (fun _ => ?_)
  refine lv_aload_n hx hb dX8_append_28 rfl (lv_at hl 1 rfl) ?_
  refine x_getR E h (fr_rt_bytes g) rfl hwX8 (by decide) (by decide +kernel) dX8_append_29 ?_
  refine lv_aload_n hx hb dX8_append_32 rfl (lv_at hl 1 rfl) ?_
  refine x_getI E h (fi_rt_length g) rfl hwX8 (by decide) (by decide +kernel) (v := 1) rfl dX8_append_33 ?_
  refine lv_lload_n hx hb dX8_append_36 rfl (lv_at hl 2 rfl) ?_
  refine lv_bipush (v := 8) hx hb dX8_append_37 (by decide) ?_
  refine lv_iload hx hb dX8_append_39 (lv_at hl 0 rfl) ?_
  refine lv_imul hx hb dX8_append_41 ?_
  refine x_topI (v2 := 48) (by decide) ?_
  refine lv_lushr hx hb dX8_append_42 rfl ?_
  refine lv_topl (fun y3 ey3 => ?_)
  refine lv_l2i hx hb dX8_append_43 rfl ?_
  refine lv_topi (fun x4 ex4 => ?_)
  refine lv_sipush (v := 255) hx hb dX8_append_44 (by decide) ?_
  refine lv_iand hx hb dX8_append_47 ?_
  refine x_stI E h (ia_rt_bytes g) (i := 1) (by unfold vp_in; decide) (j := (1)) rfl rfl dX8_append_48 (fun H locs h => ?_)
  refine lv_aload_n hx hb dX8_append_49 rfl (lv_at hl 1 rfl) ?_
  refine lv_dup hx hb dX8_append_50 rfl ?_
  refine x_getI E h (fi_rt_length g) rfl hwX8 (by decide) (by decide +kernel) (v := 1) rfl dX8_append_51 ?_
  refine lv_iconst (v := 1) hx hb dX8_append_54 (by decide) ?_
  refine lv_iadd hx hb dX8_append_55 ?_
  refine x_topI (v2 := 2) (by decide) ?_
  refine x_putI E h (ty := .int) (v := 2) (fi_rt_length g) rfl hwX8 tyX8_ok nmX8 (by decide) (by decide +kernel) (by decide +kernel) (by decide +kernel) rfl rfl dX8_append_56 (fun H locs h => ?_)
  refine lv_iinc (v := 5) (lv' := [(4, .int 5), (0, .ref (g.2.1 1)), (1, .long p1), (3, .int 8)]) hx hb dX8_append_59 hl (k := 0) rfl (by decide) (by decide) rfl (fun ls hl => ?_)
  refine lv_goto (tgt := 23) hx hb dX8_append_62 (by decide) ?_
  refine lv_iload hx hb dX8_append_23 (lv_at hl 0 rfl) ?_
  refine lv_if_lt (tgt := 65) hx hb dX8_append_25 (by decide) (fun c => absurd c (by decide)) (fun _ => ?_)
  refine lv_aload_n hx hb dX8_append_28 rfl (lv_at hl 1 rfl) ?_
  refine x_getR E h (fr_rt_bytes g) rfl hwX8 (by decide) (by decide +kernel) dX8_append_29 ?_
  refine lv_aload_n hx hb dX8_append_32 rfl (lv_at hl 1 rfl) ?_
  refine x_getI E h (fi_rt_length g) rfl hwX8 (by decide) (by decide +kernel) (v := 2) rfl dX8_append_33 ?_
  refine lv_lload_n hx hb dX8_append_36 rfl (lv_at hl 2 rfl) ?_
  refine lv_bipush (v := 8) hx hb dX8_append_37 (by decide) ?_
  refine lv_iload hx hb dX8_append_39 (lv_at hl 0 rfl) ?_
  refine lv_imul hx hb dX8_append_41 ?_
  refine x_topI (v2 := 40) (by decide) ?_
  refine lv_lushr hx hb dX8_append_42 rfl ?_
  refine lv_topl (fun y5 ey5 => ?_)
  refine lv_l2i hx hb dX8_append_43 rfl ?_
  refine lv_topi (fun x6 ex6 => ?_)
  refine lv_sipush (v := 255) hx hb dX8_append_44 (by decide) ?_
  refine lv_iand hx hb dX8_append_47 ?_
  refine x_stI E h (ia_rt_bytes g) (i := 2) (by unfold vp_in; decide) (j := (2)) rfl rfl dX8_append_48 (fun H locs h => ?_)
  refine lv_aload_n hx hb dX8_append_49 rfl (lv_at hl 1 rfl) ?_
  refine lv_dup hx hb dX8_append_50 rfl ?_
  refine x_getI E h (fi_rt_length g) rfl hwX8 (by decide) (by decide +kernel) (v := 2) rfl dX8_append_51 ?_
  refine lv_iconst (v := 1) hx hb dX8_append_54 (by decide) ?_
  refine lv_iadd hx hb dX8_append_55 ?_
  refine x_topI (v2 := 3) (by decide) ?_
  refine x_putI E h (ty := .int) (v := 3) (fi_rt_length g) rfl hwX8 tyX8_ok nmX8 (by decide) (by decide +kernel) (by decide +kernel) (by decide +kernel) rfl rfl dX8_append_56 (fun H locs h => ?_)
  refine lv_iinc (v := 4) (lv' := [(4, .int 4), (0, .ref (g.2.1 1)), (1, .long p1), (3, .int 8)]) hx hb dX8_append_59 hl (k := 0) rfl (by decide) (by decide) rfl (fun ls hl => ?_)
  refine lv_goto (tgt := 23) hx hb dX8_append_62 (by decide) ?_
  refine lv_iload hx hb dX8_append_23 (lv_at hl 0 rfl) ?_
  refine lv_if_lt (tgt := 65) hx hb dX8_append_25 (by decide) (fun c => absurd c (by decide)) (fun _ => ?_)
  refine lv_aload_n hx hb dX8_append_28 rfl (lv_at hl 1 rfl) ?_
  refine x_getR E h (fr_rt_bytes g) rfl hwX8 (by decide) (by decide +kernel) dX8_append_29 ?_
  refine lv_aload_n hx hb dX8_append_32 rfl (lv_at hl 1 rfl) ?_
  refine x_getI E h (fi_rt_length g) rfl hwX8 (by decide) (by decide +kernel) (v := 3) rfl dX8_append_33 ?_
  refine lv_lload_n hx hb dX8_append_36 rfl (lv_at hl 2 rfl) ?_
  refine lv_bipush (v := 8) hx hb dX8_append_37 (by decide) ?_
  refine lv_iload hx hb dX8_append_39 (lv_at hl 0 rfl) ?_
  refine lv_imul hx hb dX8_append_41 ?_
  refine x_topI (v2 := 32) (by decide) ?_
  refine lv_lushr hx hb dX8_append_42 rfl ?_
  refine lv_topl (fun y7 ey7 => ?_)
  refine lv_l2i hx hb dX8_append_43 rfl ?_
  refine lv_topi (fun x8 ex8 => ?_)
  refine lv_sipush (v := 255) hx hb dX8_append_44 (by decide) ?_
  refine lv_iand hx hb dX8_append_47 ?_
  refine x_stI E h (ia_rt_bytes g) (i := 3) (by unfold vp_in; decide) (j := (3)) rfl rfl dX8_append_48 (fun H locs h => ?_)
  refine lv_aload_n hx hb dX8_append_49 rfl (lv_at hl 1 rfl) ?_
  refine lv_dup hx hb dX8_append_50 rfl ?_
  refine x_getI E h (fi_rt_length g) rfl hwX8 (by decide) (by decide +kernel) (v := 3) rfl dX8_append_51 ?_
  refine lv_iconst (v := 1) hx hb dX8_append_54 (by decide) ?_
  refine lv_iadd hx hb dX8_append_55 ?_
  refine x_topI (v2 := 4) (by decide) ?_
  refine x_putI E h (ty := .int) (v := 4) (fi_rt_length g) rfl hwX8 tyX8_ok nmX8 (by decide) (by decide +kernel) (by decide +kernel) (by decide +kernel) rfl rfl dX8_append_56 (fun H locs h => ?_)
  refine lv_iinc (v := 3) (lv' := [(4, .int 3), (0, .ref (g.2.1 1)), (1, .long p1), (3, .int 8)]) hx hb dX8_append_59 hl (k := 0) rfl (by decide) (by decide) rfl (fun ls hl => ?_)
  refine lv_goto (tgt := 23) hx hb dX8_append_62 (by decide) ?_
  refine lv_iload hx hb dX8_append_23 (lv_at hl 0 rfl) ?_
  refine lv_if_lt (tgt := 65) hx hb dX8_append_25 (by decide) (fun c => absurd c (by decide)) (fun _ => ?_)
  refine lv_aload_n hx hb dX8_append_28 rfl (lv_at hl 1 rfl) ?_
  refine x_getR E h (fr_rt_bytes g) rfl hwX8 (by decide) (by decide +kernel) dX8_append_29 ?_
  refine lv_aload_n hx hb dX8_append_32 rfl (lv_at hl 1 rfl) ?_
  refine x_getI E h (fi_rt_length g) rfl hwX8 (by decide) (by decide +kernel) (v := 4) rfl dX8_append_33 ?_
  refine lv_lload_n hx hb dX8_append_36 rfl (lv_at hl 2 rfl) ?_
  refine lv_bipush (v := 8) hx hb dX8_append_37 (by decide) ?_
  refine lv_iload hx hb dX8_append_39 (lv_at hl 0 rfl) ?_
  refine lv_imul hx hb dX8_append_41 ?_
  refine x_topI (v2 := 24) (by decide) ?_
  refine lv_lushr hx hb dX8_append_42 rfl ?_
  refine lv_topl (fun y9 ey9 => ?_)
  refine lv_l2i hx hb dX8_append_43 rfl ?_
  refine lv_topi (fun x10 ex10 => ?_)
  refine lv_sipush (v := 255) hx hb dX8_append_44 (by decide) ?_
  refine lv_iand hx hb dX8_append_47 ?_
  refine x_stI E h (ia_rt_bytes g) (i := 4) (by unfold vp_in; decide) (j := (4)) rfl rfl dX8_append_48 (fun H locs h => ?_)
  refine lv_aload_n hx hb dX8_append_49 rfl (lv_at hl 1 rfl) ?_
  refine lv_dup hx hb dX8_append_50 rfl ?_
  refine x_getI E h (fi_rt_length g) rfl hwX8 (by decide) (by decide +kernel) (v := 4) rfl dX8_append_51 ?_
  refine lv_iconst (v := 1) hx hb dX8_append_54 (by decide) ?_
  refine lv_iadd hx hb dX8_append_55 ?_
  refine x_topI (v2 := 5) (by decide) ?_
  refine x_putI E h (ty := .int) (v := 5) (fi_rt_length g) rfl hwX8 tyX8_ok nmX8 (by decide) (by decide +kernel) (by decide +kernel) (by decide +kernel) rfl rfl dX8_append_56 (fun H locs h => ?_)
  refine lv_iinc (v := 2) (lv' := [(4, .int 2), (0, .ref (g.2.1 1)), (1, .long p1), (3, .int 8)]) hx hb dX8_append_59 hl (k := 0) rfl (by decide) (by decide) rfl (fun ls hl => ?_)
  refine lv_goto (tgt := 23) hx hb dX8_append_62 (by decide) ?_
  refine lv_iload hx hb dX8_append_23 (lv_at hl 0 rfl) ?_
  refine lv_if_lt (tgt := 65) hx hb dX8_append_25 (by decide) (fun c => absurd c (by decide)) (fun _ => ?_)
  refine lv_aload_n hx hb dX8_append_28 rfl (lv_at hl 1 rfl) ?_
  refine x_getR E h (fr_rt_bytes g) rfl hwX8 (by decide) (by decide +kernel) dX8_append_29 ?_
  refine lv_aload_n hx hb dX8_append_32 rfl (lv_at hl 1 rfl) ?_
  refine x_getI E h (fi_rt_length g) rfl hwX8 (by decide) (by decide +kernel) (v := 5) rfl dX8_append_33 ?_
  refine lv_lload_n hx hb dX8_append_36 rfl (lv_at hl 2 rfl) ?_
  refine lv_bipush (v := 8) hx hb dX8_append_37 (by decide) ?_
  refine lv_iload hx hb dX8_append_39 (lv_at hl 0 rfl) ?_
  refine lv_imul hx hb dX8_append_41 ?_
  refine x_topI (v2 := 16) (by decide) ?_
  refine lv_lushr hx hb dX8_append_42 rfl ?_
  refine lv_topl (fun y11 ey11 => ?_)
  refine lv_l2i hx hb dX8_append_43 rfl ?_
  refine lv_topi (fun x12 ex12 => ?_)
  refine lv_sipush (v := 255) hx hb dX8_append_44 (by decide) ?_
  refine lv_iand hx hb dX8_append_47 ?_
  refine x_stI E h (ia_rt_bytes g) (i := 5) (by unfold vp_in; decide) (j := (5)) rfl rfl dX8_append_48 (fun H locs h => ?_)
  refine lv_aload_n hx hb dX8_append_49 rfl (lv_at hl 1 rfl) ?_
  refine lv_dup hx hb dX8_append_50 rfl ?_
  refine x_getI E h (fi_rt_length g) rfl hwX8 (by decide) (by decide +kernel) (v := 5) rfl dX8_append_51 ?_
  refine lv_iconst (v := 1) hx hb dX8_append_54 (by decide) ?_
  refine lv_iadd hx hb dX8_append_55 ?_
  refine x_topI (v2 := 6) (by decide) ?_
  refine x_putI E h (ty := .int) (v := 6) (fi_rt_length g) rfl hwX8 tyX8_ok nmX8 (by decide) (by decide +kernel) (by decide +kernel) (by decide +kernel) rfl rfl dX8_append_56 (fun H locs h => ?_)
  refine lv_iinc (v := 1) (lv' := [(4, .int 1), (0, .ref (g.2.1 1)), (1, .long p1), (3, .int 8)]) hx hb dX8_append_59 hl (k := 0) rfl (by decide) (by decide) rfl (fun ls hl => ?_)
  refine lv_goto (tgt := 23) hx hb dX8_append_62 (by decide) ?_
  refine lv_iload hx hb dX8_append_23 (lv_at hl 0 rfl) ?_
  refine lv_if_lt (tgt := 65) hx hb dX8_append_25 (by decide) (fun c => absurd c (by decide)) (fun _ => ?_)
  refine lv_aload_n hx hb dX8_append_28 rfl (lv_at hl 1 rfl) ?_
  refine x_getR E h (fr_rt_bytes g) rfl hwX8 (by decide) (by decide +kernel) dX8_append_29 ?_
  refine lv_aload_n hx hb dX8_append_32 rfl (lv_at hl 1 rfl) ?_
  refine x_getI E h (fi_rt_length g) rfl hwX8 (by decide) (by decide +kernel) (v := 6) rfl dX8_append_33 ?_
  refine lv_lload_n hx hb dX8_append_36 rfl (lv_at hl 2 rfl) ?_
  refine lv_bipush (v := 8) hx hb dX8_append_37 (by decide) ?_
  refine lv_iload hx hb dX8_append_39 (lv_at hl 0 rfl) ?_
  refine lv_imul hx hb dX8_append_41 ?_
  refine x_topI (v2 := 8) (by decide) ?_
  refine lv_lushr hx hb dX8_append_42 rfl ?_
  refine lv_topl (fun y13 ey13 => ?_)
  refine lv_l2i hx hb dX8_append_43 rfl ?_
  refine lv_topi (fun x14 ex14 => ?_)
  refine lv_sipush (v := 255) hx hb dX8_append_44 (by decide) ?_
  refine lv_iand hx hb dX8_append_47 ?_
  refine x_stI E h (ia_rt_bytes g) (i := 6) (by unfold vp_in; decide) (j := (6)) rfl rfl dX8_append_48 (fun H locs h => ?_)
  refine lv_aload_n hx hb dX8_append_49 rfl (lv_at hl 1 rfl) ?_
  refine lv_dup hx hb dX8_append_50 rfl ?_
  refine x_getI E h (fi_rt_length g) rfl hwX8 (by decide) (by decide +kernel) (v := 6) rfl dX8_append_51 ?_
  refine lv_iconst (v := 1) hx hb dX8_append_54 (by decide) ?_
  refine lv_iadd hx hb dX8_append_55 ?_
  refine x_topI (v2 := 7) (by decide) ?_
  refine x_putI E h (ty := .int) (v := 7) (fi_rt_length g) rfl hwX8 tyX8_ok nmX8 (by decide) (by decide +kernel) (by decide +kernel) (by decide +kernel) rfl rfl dX8_append_56 (fun H locs h => ?_)
  refine lv_iinc (v := 0) (lv' := [(4, .int 0), (0, .ref (g.2.1 1)), (1, .long p1), (3, .int 8)]) hx hb dX8_append_59 hl (k := 0) rfl (by decide) (by decide) rfl (fun ls hl => ?_)
  refine lv_goto (tgt := 23) hx hb dX8_append_62 (by decide) ?_
  refine lv_iload hx hb dX8_append_23 (lv_at hl 0 rfl) ?_
  refine lv_if_lt (tgt := 65) hx hb dX8_append_25 (by decide) (fun c => absurd c (by decide)) (fun _ => ?_)
  refine lv_aload_n hx hb dX8_append_28 rfl (lv_at hl 1 rfl) ?_
  refine x_getR E h (fr_rt_bytes g) rfl hwX8 (by decide) (by decide +kernel) dX8_append_29 ?_
  refine lv_aload_n hx hb dX8_append_32 rfl (lv_at hl 1 rfl) ?_
  refine x_getI E h (fi_rt_length g) rfl hwX8 (by decide) (by decide +kernel) (v := 7) rfl dX8_append_33 ?_
  refine lv_lload_n hx hb dX8_append_36 rfl (lv_at hl 2 rfl) ?_
  refine lv_bipush (v := 8) hx hb dX8_append_37 (by decide) ?_
  refine lv_iload hx hb dX8_append_39 (lv_at hl 0 rfl) ?_
  refine lv_imul hx hb dX8_append_41 ?_
  refine x_topI (v2 := 0) (by decide) ?_
  refine lv_lushr hx hb dX8_append_42 rfl ?_
  refine lv_topl (fun y15 ey15 => ?_)
  refine lv_l2i hx hb dX8_append_43 rfl ?_
  refine lv_topi (fun x16 ex16 => ?_)
  refine lv_sipush (v := 255) hx hb dX8_append_44 (by decide) ?_
  refine lv_iand hx hb dX8_append_47 ?_
  refine x_stI E h (ia_rt_bytes g) (i := 7) (by unfold vp_in; decide) (j := (7)) rfl rfl dX8_append_48 (fun H locs h => ?_)
  refine lv_aload_n hx hb dX8_append_49 rfl (lv_at hl 1 rfl) ?_
  refine lv_dup hx hb dX8_append_50 rfl ?_
  refine x_getI E h (fi_rt_length g) rfl hwX8 (by decide) (by decide +kernel) (v := 7) rfl dX8_append_51 ?_
  refine lv_iconst (v := 1) hx hb dX8_append_54 (by decide) ?_
  refine lv_iadd hx hb dX8_append_55 ?_
  refine x_topI (v2 := 8) (by decide) ?_
  refine x_putI E h (ty := .int) (v := 8) (fi_rt_length g) rfl hwX8 tyX8_ok nmX8 (by decide) (by decide +kernel) (by decide +kernel) (by decide +kernel) rfl rfl dX8_append_56 (fun H locs h => ?_)
  refine lv_iinc (v := (-1)) (lv' := [(4, .int (-1)), (0, .ref (g.2.1 1)), (1, .long p1), (3, .int 8)]) hx hb dX8_append_59 hl (k := 0) rfl (by decide) (by decide) rfl (fun ls hl => ?_)
  refine lv_goto (tgt := 23) hx hb dX8_append_62 (by decide) ?_
  refine lv_iload hx hb dX8_append_23 (lv_at hl 0 rfl) ?_
  refine lv_if_lt (tgt := 65) hx hb dX8_append_25 (by decide) (fun _ => ?_) (fun c => absurd (by decide) c)
  refine lv_iconst (v := 1) hx hb dX8_append_65 (by decide) ?_
  exact x_zret E h rfl ⟨rfl, rfl, MO.refl σ⟩ dX8_append_66
set_option maxHeartbeats 4000000 in
set_option maxRecDepth 100000 in
theorem kX11_type_0 (l : Launch) (g : CX) (σ : ST) (p1 : Int64) (p2 : Int32) (fI_0 : σ.1 0 = 0) : XM l g yX11_type wsX11_type { frames := 1, cells := 0, slots := 0, locals := 24 } [.ref (g.2.1 0), .long p1, .int p2] σ (XQi g (fun r σ' => (bB p2 1 8 = 1 ∧ p2 = r ∧ MO σ' σ) ∨ (bB p2 1 8 = 0 ∧ (-1) = r ∧ MO σ' σ))) := by
  refine x_met (own := RX11) (cc := cX11_type) (maxL := 4) (ret := (some .int)) (lv := [(0, .ref (g.2.1 0)), (1, .long p1), (3, .int p2)]) (by decide) rfl rfl (Nat.le_of_ble_eq_true rfl) rfl ?_
  intro p e s m args below meth c ls E h hl
  have hx := E.1
  have hb := E.2.1
  have hown := E.2.2.2.1
  have hts := E.2.2.2.2.1
  have hwX11 : ∀ w ∈ wsX110, w ∈ wsX11_type := by decide +kernel
  have hwX8 : ∀ w ∈ wsX80, w ∈ wsX11_type := by decide +kernel
  refine lv_iload_n hx hb dX11_type_0 rfl (lv_at hl 2 rfl) ?_
  refine lv_iconst (v := 1) hx hb dX11_type_1 (by decide) ?_
  refine lv_bipush (v := 8) hx hb dX11_type_2 (by decide) ?_
  refine x_si E h (na := 3) (As := [.int p2, .int 1, .int 8]) (kX11_within_0 l g _ p2 1 8) gX11_type_X11_within rfl ⟨rfl, rfl⟩ rfl (by decide +kernel) ⟨Nat.le_of_ble_eq_true rfl, Nat.le_of_ble_eq_true rfl⟩ hl.1 rfl (Nat.le_of_ble_eq_true rfl) dX11_type_4 ⟨Nat.le_of_ble_eq_true rfl, Nat.le_of_ble_eq_true rfl⟩ (fun r1 s1 H locs q1 h => ?_)
  rcases q1 with ⟨k1_0, rfl, rfl⟩ | ⟨k1_0, rfl, rfl⟩
  · skip
    refine lv_if_ne (tgt := 12) hx hb dX11_type_7 (by decide) (fun _ => ?_) (fun c => absurd c (by decide))
    rcases (bB_1_8 k1_0) with rfl | rfl | rfl | rfl | rfl | rfl | rfl | rfl
    · skip
      refine lv_aload_n hx hb dX11_type_12 rfl (lv_at hl 0 rfl) ?_
      refine x_getR E h (fr_vh_ruleText g) rfl hwX11 (by decide) (by decide +kernel) dX11_type_13 ?_
      refine lv_lload_n hx hb dX11_type_16 rfl (lv_at hl 1 rfl) ?_
      refine lv_iload_n hx hb dX11_type_17 rfl (lv_at hl 2 rfl) ?_
      refine x_vi E h (na := 2) (As := [.long p1, .int 1]) (kX8_append_0 l g _ p1 fI_0) (oc_rt g) rfl gX11_type_X8_append rfl ⟨rfl, rfl⟩ rfl (by decide +kernel) ⟨Nat.le_of_ble_eq_true rfl, Nat.le_of_ble_eq_true rfl⟩ hl.1 rfl (Nat.le_of_ble_eq_true rfl) dX11_type_18 ⟨Nat.le_of_ble_eq_true rfl, Nat.le_of_ble_eq_true rfl⟩ (fun r2 s2 H locs q2 h => ?_)
      rcases q2 with ⟨rfl, z2_0, mo2⟩
      refine lv_if_eq (tgt := 34) hx hb dX11_type_21 (by decide) (fun c => absurd c (by decide)) (fun _ => ?_)
      refine lv_aload_n hx hb dX11_type_24 rfl (lv_at hl 0 rfl) ?_
      refine x_getR E h (fr_vh_ruleText g) rfl hwX11 (by decide) (by decide +kernel) dX11_type_25 ?_
      refine x_getIN E h (fi_rt_length g) rfl hwX8 (by decide) (by decide +kernel) (v := 1) z2_0 dX11_type_28 ?_
      refine lv_goto (tgt := 36) hx hb dX11_type_31 (by decide) ?_
      exact x_iret E h (Or.inl ⟨k1_0, rfl, mo2⟩) dX11_type_36
    · skip
      refine lv_aload_n hx hb dX11_type_12 rfl (lv_at hl 0 rfl) ?_
      refine x_getR E h (fr_vh_ruleText g) rfl hwX11 (by decide) (by decide +kernel) dX11_type_13 ?_
      refine lv_lload_n hx hb dX11_type_16 rfl (lv_at hl 1 rfl) ?_
      refine lv_iload_n hx hb dX11_type_17 rfl (lv_at hl 2 rfl) ?_
      refine x_vi E h (na := 2) (As := [.long p1, .int 2]) (kX8_append_1 l g _ p1 fI_0) (oc_rt g) rfl gX11_type_X8_append rfl ⟨rfl, rfl⟩ rfl (by decide +kernel) ⟨Nat.le_of_ble_eq_true rfl, Nat.le_of_ble_eq_true rfl⟩ hl.1 rfl (Nat.le_of_ble_eq_true rfl) dX11_type_18 ⟨Nat.le_of_ble_eq_true rfl, Nat.le_of_ble_eq_true rfl⟩ (fun r3 s3 H locs q3 h => ?_)
      rcases q3 with ⟨rfl, z3_0, mo3⟩
      refine lv_if_eq (tgt := 34) hx hb dX11_type_21 (by decide) (fun c => absurd c (by decide)) (fun _ => ?_)
      refine lv_aload_n hx hb dX11_type_24 rfl (lv_at hl 0 rfl) ?_
      refine x_getR E h (fr_vh_ruleText g) rfl hwX11 (by decide) (by decide +kernel) dX11_type_25 ?_
      refine x_getIN E h (fi_rt_length g) rfl hwX8 (by decide) (by decide +kernel) (v := 2) z3_0 dX11_type_28 ?_
      refine lv_goto (tgt := 36) hx hb dX11_type_31 (by decide) ?_
      exact x_iret E h (Or.inl ⟨k1_0, rfl, mo3⟩) dX11_type_36
    · skip
      refine lv_aload_n hx hb dX11_type_12 rfl (lv_at hl 0 rfl) ?_
      refine x_getR E h (fr_vh_ruleText g) rfl hwX11 (by decide) (by decide +kernel) dX11_type_13 ?_
      refine lv_lload_n hx hb dX11_type_16 rfl (lv_at hl 1 rfl) ?_
      refine lv_iload_n hx hb dX11_type_17 rfl (lv_at hl 2 rfl) ?_
      refine x_vi E h (na := 2) (As := [.long p1, .int 3]) (kX8_append_2 l g _ p1 fI_0) (oc_rt g) rfl gX11_type_X8_append rfl ⟨rfl, rfl⟩ rfl (by decide +kernel) ⟨Nat.le_of_ble_eq_true rfl, Nat.le_of_ble_eq_true rfl⟩ hl.1 rfl (Nat.le_of_ble_eq_true rfl) dX11_type_18 ⟨Nat.le_of_ble_eq_true rfl, Nat.le_of_ble_eq_true rfl⟩ (fun r4 s4 H locs q4 h => ?_)
      rcases q4 with ⟨rfl, z4_0, mo4⟩
      refine lv_if_eq (tgt := 34) hx hb dX11_type_21 (by decide) (fun c => absurd c (by decide)) (fun _ => ?_)
      refine lv_aload_n hx hb dX11_type_24 rfl (lv_at hl 0 rfl) ?_
      refine x_getR E h (fr_vh_ruleText g) rfl hwX11 (by decide) (by decide +kernel) dX11_type_25 ?_
      refine x_getIN E h (fi_rt_length g) rfl hwX8 (by decide) (by decide +kernel) (v := 3) z4_0 dX11_type_28 ?_
      refine lv_goto (tgt := 36) hx hb dX11_type_31 (by decide) ?_
      exact x_iret E h (Or.inl ⟨k1_0, rfl, mo4⟩) dX11_type_36
    · skip
      refine lv_aload_n hx hb dX11_type_12 rfl (lv_at hl 0 rfl) ?_
      refine x_getR E h (fr_vh_ruleText g) rfl hwX11 (by decide) (by decide +kernel) dX11_type_13 ?_
      refine lv_lload_n hx hb dX11_type_16 rfl (lv_at hl 1 rfl) ?_
      refine lv_iload_n hx hb dX11_type_17 rfl (lv_at hl 2 rfl) ?_
      refine x_vi E h (na := 2) (As := [.long p1, .int 4]) (kX8_append_3 l g _ p1 fI_0) (oc_rt g) rfl gX11_type_X8_append rfl ⟨rfl, rfl⟩ rfl (by decide +kernel) ⟨Nat.le_of_ble_eq_true rfl, Nat.le_of_ble_eq_true rfl⟩ hl.1 rfl (Nat.le_of_ble_eq_true rfl) dX11_type_18 ⟨Nat.le_of_ble_eq_true rfl, Nat.le_of_ble_eq_true rfl⟩ (fun r5 s5 H locs q5 h => ?_)
      rcases q5 with ⟨rfl, z5_0, mo5⟩
      refine lv_if_eq (tgt := 34) hx hb dX11_type_21 (by decide) (fun c => absurd c (by decide)) (fun _ => ?_)
      refine lv_aload_n hx hb dX11_type_24 rfl (lv_at hl 0 rfl) ?_
      refine x_getR E h (fr_vh_ruleText g) rfl hwX11 (by decide) (by decide +kernel) dX11_type_25 ?_
      refine x_getIN E h (fi_rt_length g) rfl hwX8 (by decide) (by decide +kernel) (v := 4) z5_0 dX11_type_28 ?_
      refine lv_goto (tgt := 36) hx hb dX11_type_31 (by decide) ?_
      exact x_iret E h (Or.inl ⟨k1_0, rfl, mo5⟩) dX11_type_36
    · skip
      refine lv_aload_n hx hb dX11_type_12 rfl (lv_at hl 0 rfl) ?_
      refine x_getR E h (fr_vh_ruleText g) rfl hwX11 (by decide) (by decide +kernel) dX11_type_13 ?_
      refine lv_lload_n hx hb dX11_type_16 rfl (lv_at hl 1 rfl) ?_
      refine lv_iload_n hx hb dX11_type_17 rfl (lv_at hl 2 rfl) ?_
      refine x_vi E h (na := 2) (As := [.long p1, .int 5]) (kX8_append_4 l g _ p1 fI_0) (oc_rt g) rfl gX11_type_X8_append rfl ⟨rfl, rfl⟩ rfl (by decide +kernel) ⟨Nat.le_of_ble_eq_true rfl, Nat.le_of_ble_eq_true rfl⟩ hl.1 rfl (Nat.le_of_ble_eq_true rfl) dX11_type_18 ⟨Nat.le_of_ble_eq_true rfl, Nat.le_of_ble_eq_true rfl⟩ (fun r6 s6 H locs q6 h => ?_)
      rcases q6 with ⟨rfl, z6_0, mo6⟩
      refine lv_if_eq (tgt := 34) hx hb dX11_type_21 (by decide) (fun c => absurd c (by decide)) (fun _ => ?_)
      refine lv_aload_n hx hb dX11_type_24 rfl (lv_at hl 0 rfl) ?_
      refine x_getR E h (fr_vh_ruleText g) rfl hwX11 (by decide) (by decide +kernel) dX11_type_25 ?_
      refine x_getIN E h (fi_rt_length g) rfl hwX8 (by decide) (by decide +kernel) (v := 5) z6_0 dX11_type_28 ?_
      refine lv_goto (tgt := 36) hx hb dX11_type_31 (by decide) ?_
      exact x_iret E h (Or.inl ⟨k1_0, rfl, mo6⟩) dX11_type_36
    · skip
      refine lv_aload_n hx hb dX11_type_12 rfl (lv_at hl 0 rfl) ?_
      refine x_getR E h (fr_vh_ruleText g) rfl hwX11 (by decide) (by decide +kernel) dX11_type_13 ?_
      refine lv_lload_n hx hb dX11_type_16 rfl (lv_at hl 1 rfl) ?_
      refine lv_iload_n hx hb dX11_type_17 rfl (lv_at hl 2 rfl) ?_
      refine x_vi E h (na := 2) (As := [.long p1, .int 6]) (kX8_append_5 l g _ p1 fI_0) (oc_rt g) rfl gX11_type_X8_append rfl ⟨rfl, rfl⟩ rfl (by decide +kernel) ⟨Nat.le_of_ble_eq_true rfl, Nat.le_of_ble_eq_true rfl⟩ hl.1 rfl (Nat.le_of_ble_eq_true rfl) dX11_type_18 ⟨Nat.le_of_ble_eq_true rfl, Nat.le_of_ble_eq_true rfl⟩ (fun r7 s7 H locs q7 h => ?_)
      rcases q7 with ⟨rfl, z7_0, mo7⟩
      refine lv_if_eq (tgt := 34) hx hb dX11_type_21 (by decide) (fun c => absurd c (by decide)) (fun _ => ?_)
      refine lv_aload_n hx hb dX11_type_24 rfl (lv_at hl 0 rfl) ?_
      refine x_getR E h (fr_vh_ruleText g) rfl hwX11 (by decide) (by decide +kernel) dX11_type_25 ?_
      refine x_getIN E h (fi_rt_length g) rfl hwX8 (by decide) (by decide +kernel) (v := 6) z7_0 dX11_type_28 ?_
      refine lv_goto (tgt := 36) hx hb dX11_type_31 (by decide) ?_
      exact x_iret E h (Or.inl ⟨k1_0, rfl, mo7⟩) dX11_type_36
    · skip
      refine lv_aload_n hx hb dX11_type_12 rfl (lv_at hl 0 rfl) ?_
      refine x_getR E h (fr_vh_ruleText g) rfl hwX11 (by decide) (by decide +kernel) dX11_type_13 ?_
      refine lv_lload_n hx hb dX11_type_16 rfl (lv_at hl 1 rfl) ?_
      refine lv_iload_n hx hb dX11_type_17 rfl (lv_at hl 2 rfl) ?_
      refine x_vi E h (na := 2) (As := [.long p1, .int 7]) (kX8_append_6 l g _ p1 fI_0) (oc_rt g) rfl gX11_type_X8_append rfl ⟨rfl, rfl⟩ rfl (by decide +kernel) ⟨Nat.le_of_ble_eq_true rfl, Nat.le_of_ble_eq_true rfl⟩ hl.1 rfl (Nat.le_of_ble_eq_true rfl) dX11_type_18 ⟨Nat.le_of_ble_eq_true rfl, Nat.le_of_ble_eq_true rfl⟩ (fun r8 s8 H locs q8 h => ?_)
      rcases q8 with ⟨rfl, z8_0, mo8⟩
      refine lv_if_eq (tgt := 34) hx hb dX11_type_21 (by decide) (fun c => absurd c (by decide)) (fun _ => ?_)
      refine lv_aload_n hx hb dX11_type_24 rfl (lv_at hl 0 rfl) ?_
      refine x_getR E h (fr_vh_ruleText g) rfl hwX11 (by decide) (by decide +kernel) dX11_type_25 ?_
      refine x_getIN E h (fi_rt_length g) rfl hwX8 (by decide) (by decide +kernel) (v := 7) z8_0 dX11_type_28 ?_
      refine lv_goto (tgt := 36) hx hb dX11_type_31 (by decide) ?_
      exact x_iret E h (Or.inl ⟨k1_0, rfl, mo8⟩) dX11_type_36
    · skip
      refine lv_aload_n hx hb dX11_type_12 rfl (lv_at hl 0 rfl) ?_
      refine x_getR E h (fr_vh_ruleText g) rfl hwX11 (by decide) (by decide +kernel) dX11_type_13 ?_
      refine lv_lload_n hx hb dX11_type_16 rfl (lv_at hl 1 rfl) ?_
      refine lv_iload_n hx hb dX11_type_17 rfl (lv_at hl 2 rfl) ?_
      refine x_vi E h (na := 2) (As := [.long p1, .int 8]) (kX8_append_7 l g _ p1 fI_0) (oc_rt g) rfl gX11_type_X8_append rfl ⟨rfl, rfl⟩ rfl (by decide +kernel) ⟨Nat.le_of_ble_eq_true rfl, Nat.le_of_ble_eq_true rfl⟩ hl.1 rfl (Nat.le_of_ble_eq_true rfl) dX11_type_18 ⟨Nat.le_of_ble_eq_true rfl, Nat.le_of_ble_eq_true rfl⟩ (fun r9 s9 H locs q9 h => ?_)
      rcases q9 with ⟨rfl, z9_0, mo9⟩
      refine lv_if_eq (tgt := 34) hx hb dX11_type_21 (by decide) (fun c => absurd c (by decide)) (fun _ => ?_)
      refine lv_aload_n hx hb dX11_type_24 rfl (lv_at hl 0 rfl) ?_
      refine x_getR E h (fr_vh_ruleText g) rfl hwX11 (by decide) (by decide +kernel) dX11_type_25 ?_
      refine x_getIN E h (fi_rt_length g) rfl hwX8 (by decide) (by decide +kernel) (v := 8) z9_0 dX11_type_28 ?_
      refine lv_goto (tgt := 36) hx hb dX11_type_31 (by decide) ?_
      exact x_iret E h (Or.inl ⟨k1_0, rfl, mo9⟩) dX11_type_36
  · skip
    refine lv_if_ne (tgt := 12) hx hb dX11_type_7 (by decide) (fun c => absurd (by decide) c) (fun _ => ?_)
    refine lv_iconst (v := (-1)) hx hb dX11_type_10 (by decide) ?_
    exact x_iret E h (Or.inr (⟨k1_0, rfl, (MO.refl σ)⟩)) dX11_type_11
set_option maxHeartbeats 4000000 in
set_option maxRecDepth 100000 in
theorem kX11_clear_0 (l : Launch) (g : CX) (σ : ST) (fI_0 : σ.1 0 = 0) : XM l g yX11_clear wsX11_clear { frames := 0, cells := 0, slots := 0, locals := 0 } [.ref (g.2.1 0)] σ (XQi g (fun r σ' => (0 = r ∧ MO σ' σ))) := by
  refine x_met (own := RX11) (cc := cX11_clear) (maxL := 2) (ret := (some .int)) (lv := [(0, .ref (g.2.1 0))]) (by decide) rfl rfl (Nat.le_of_ble_eq_true rfl) rfl ?_
  intro p e s m args below meth c ls E h hl
  have hx := E.1
  have hb := E.2.1
  have hown := E.2.2.2.1
  have hts := E.2.2.2.2.1
  have hwX11 : ∀ w ∈ wsX110, w ∈ wsX11_clear := by decide +kernel
  have hwX8 : ∀ w ∈ wsX80, w ∈ wsX11_clear := by decide +kernel
  refine lv_aload_n hx hb dX11_clear_0 rfl (lv_at hl 0 rfl) ?_
  refine x_getR E h (fr_vh_ruleText g) rfl hwX11 (by decide) (by decide +kernel) dX11_clear_1 ?_
  refine x_getIN E h (fi_rt_length g) rfl hwX8 (by decide) (by decide +kernel) (v := 0) fI_0 dX11_clear_4 ?_
  refine lv_istore_n (lv' := [(1, .int 0), (0, .ref (g.2.1 0))]) hx hb dX11_clear_7 rfl hl (by decide) rfl (fun ls hl => ?_)
  refine lv_aload_n hx hb dX11_clear_8 rfl (lv_at hl 1 rfl) ?_
  refine x_getR E h (fr_vh_ruleText g) rfl hwX11 (by decide) (by decide +kernel) dX11_clear_9 ?_
  refine lv_iconst (v := 0) hx hb dX11_clear_12 (by decide) ?_
  refine x_putIN E h (ty := .int) (v := 0) (fi_rt_length g) rfl hwX8 tyX8_ok nmX8 (by decide) (by decide +kernel) (by decide +kernel) (by decide +kernel) rfl rfl dX11_clear_13 (fun H locs h => ?_)
  refine lv_iload_n hx hb dX11_clear_16 rfl (lv_at hl 0 rfl) ?_
  exact x_iret E h ⟨rfl, (MO.refl σ)⟩ dX11_clear_17
set_option maxHeartbeats 4000000 in
set_option maxRecDepth 100000 in
theorem kX8_endsBehindBlanks_0 (l : Launch) (g : CX) (σ : ST) (fI_0 : σ.1 0 = 0) (fI_1 : σ.1 1 = 0) : XM l g yX8_endsBehindBlanks wsX8_endsBehindBlanks { frames := 0, cells := 0, slots := 0, locals := 0 } [.ref (g.2.1 1)] σ (XQi g (fun r σ' => (1 = r ∧ σ = σ'))) := by
  refine x_met (own := RX8) (cc := cX8_endsBehindBlanks) (maxL := 1) (ret := (some .boolean)) (lv := [(0, .ref (g.2.1 1))]) (by decide) rfl rfl (Nat.le_of_ble_eq_true rfl) rfl ?_
  intro p e s m args below meth c ls E h hl
  have hx := E.1
  have hb := E.2.1
  have hown := E.2.2.2.1
  have hts := E.2.2.2.2.1
  have hwX8 : ∀ w ∈ wsX80, w ∈ wsX8_endsBehindBlanks := by decide +kernel
  refine lv_aload_n hx hb dX8_endsBehindBlanks_0 rfl (lv_at hl 0 rfl) ?_
  refine x_getI E h (fi_rt_at g) rfl hwX8 (by decide) (by decide +kernel) (v := 0) fI_1 dX8_endsBehindBlanks_1 ?_
  refine lv_aload_n hx hb dX8_endsBehindBlanks_4 rfl (lv_at hl 0 rfl) ?_
  refine x_getI E h (fi_rt_length g) rfl hwX8 (by decide) (by decide +kernel) (v := 0) fI_0 dX8_endsBehindBlanks_5 ?_
  refine lv_icmp_ge (tgt := 38) hx hb dX8_endsBehindBlanks_8 (by decide) (fun _ => ?_) (fun c => absurd (by decide) c)
  refine lv_aload_n hx hb dX8_endsBehindBlanks_38 rfl (lv_at hl 0 rfl) ?_
  refine x_getI E h (fi_rt_at g) rfl hwX8 (by decide) (by decide +kernel) (v := 0) fI_1 dX8_endsBehindBlanks_39 ?_
  refine lv_aload_n hx hb dX8_endsBehindBlanks_42 rfl (lv_at hl 0 rfl) ?_
  refine x_getI E h (fi_rt_length g) rfl hwX8 (by decide) (by decide +kernel) (v := 0) fI_0 dX8_endsBehindBlanks_43 ?_
  refine lv_icmp_lt (tgt := 53) hx hb dX8_endsBehindBlanks_46 (by decide) (fun c => absurd c (by decide)) (fun _ => ?_)
  refine lv_iconst (v := 1) hx hb dX8_endsBehindBlanks_49 (by decide) ?_
  refine lv_goto (tgt := 54) hx hb dX8_endsBehindBlanks_50 (by decide) ?_
  exact x_zret E h rfl ⟨rfl, rfl⟩ dX8_endsBehindBlanks_54
set_option maxHeartbeats 4000000 in
set_option maxRecDepth 100000 in
theorem kX8_adopt_0 (l : Launch) (g : CX) (σ : ST) (fA_2_0 : σ.2.2 2 0 = (-1)) (fA_2_1 : σ.2.2 2 1 = (-1)) (fA_2_2 : σ.2.2 2 2 = (-1)) (fA_2_3 : σ.2.2 2 3 = (-1)) (fA_2_4 : σ.2.2 2 4 = (-1)) (fA_2_5 : σ.2.2 2 5 = (-1)) : XM l g yX8_adopt wsX8_adopt { frames := 0, cells := 0, slots := 0, locals := 0 } [.ref (g.2.1 1)] σ (XQv g (fun σ' => ((sI (sA (sA (sA (sA (sA (sA σ 1 (upd (σ.2.2 1) 0 20)) 1 (upd (upd (σ.2.2 1) 0 20) 1 10)) 1 (upd (upd (upd (σ.2.2 1) 0 20) 1 10) 2 40)) 1 (upd (upd (upd (upd (σ.2.2 1) 0 20) 1 10) 2 40) 3 0)) 1 (upd (upd (upd (upd (upd (σ.2.2 1) 0 20) 1 10) 2 40) 3 0) 4 0)) 1 (upd (upd (upd (upd (upd (upd (σ.2.2 1) 0 20) 1 10) 2 40) 3 0) 4 0) 5 10)) 0 0) = σ'))) := by
  refine x_met (own := RX8) (cc := cX8_adopt) (maxL := 2) (ret := none) (lv := [(0, .ref (g.2.1 1))]) (by decide) rfl rfl (Nat.le_of_ble_eq_true rfl) rfl ?_
  intro p e s m args below meth c ls E h hl
  have hx := E.1
  have hb := E.2.1
  have hown := E.2.2.2.1
  have hts := E.2.2.2.2.1
  have hwX8 : ∀ w ∈ wsX80, w ∈ wsX8_adopt := by decide +kernel
  refine lv_iconst (v := 0) hx hb dX8_adopt_0 (by decide) ?_
  refine lv_istore_n (lv' := [(1, .int 0), (0, .ref (g.2.1 1))]) hx hb dX8_adopt_1 rfl hl (by decide) rfl (fun ls hl => ?_)
  refine lv_iload_n hx hb dX8_adopt_2 rfl (lv_at hl 0 rfl) ?_
  refine lv_bipush (v := 6) hx hb dX8_adopt_3 (by decide) ?_
  refine lv_icmp_ge (tgt := 44) hx hb dX8_adopt_5 (by decide) (fun c => absurd c (by decide)) (fun _ => ?_)
  refine lv_aload_n hx hb dX8_adopt_8 rfl (lv_at hl 1 rfl) ?_
  refine x_getR E h (fr_rt_now g) rfl hwX8 (by decide) (by decide +kernel) dX8_adopt_9 ?_
  refine lv_iload_n hx hb dX8_adopt_12 rfl (lv_at hl 0 rfl) ?_
  refine lv_aload_n hx hb dX8_adopt_13 rfl (lv_at hl 1 rfl) ?_
  refine x_getR E h (fr_rt_told g) rfl hwX8 (by decide) (by decide +kernel) dX8_adopt_14 ?_
  refine lv_iload_n hx hb dX8_adopt_17 rfl (lv_at hl 0 rfl) ?_
  refine x_ldI E h (ia_rt_told g) (i := 0) (by unfold vp_in; decide) (v := (-1)) fA_2_0 dX8_adopt_18 ?_
  refine lv_iconst (v := (-1)) hx hb dX8_adopt_19 (by decide) ?_
  refine lv_icmp_ne (tgt := 31) hx hb dX8_adopt_20 (by decide) (fun c => absurd (by decide) c) (fun _ => ?_)
  refine x_gets0 E h (by decide +kernel) dX8_adopt_23 ?_
  refine lv_iload_n hx hb dX8_adopt_26 rfl (lv_at hl 0 rfl) ?_
  refine x_tab0 E h (i := 0) (v := 20) (by unfold vp_in; decide) rfl dX8_adopt_27 ?_
  refine lv_goto (tgt := 37) hx hb dX8_adopt_28 (by decide) ?_
  refine x_stI E h (ia_rt_now g) (i := 0) (by unfold vp_in; decide) (j := (0)) rfl rfl dX8_adopt_37 (fun H locs h => ?_)
  refine lv_iinc (v := 1) (lv' := [(1, .int 1), (0, .ref (g.2.1 1))]) hx hb dX8_adopt_38 hl (k := 0) rfl (by decide) (by decide) rfl (fun ls hl => ?_)
  refine lv_goto (tgt := 2) hx hb dX8_adopt_41 (by decide) ?_
  refine lv_iload_n hx hb dX8_adopt_2 rfl (lv_at hl 0 rfl) ?_
  refine lv_bipush (v := 6) hx hb dX8_adopt_3 (by decide) ?_
  refine lv_icmp_ge (tgt := 44) hx hb dX8_adopt_5 (by decide) (fun c => absurd c (by decide)) (fun _ => ?_)
  refine lv_aload_n hx hb dX8_adopt_8 rfl (lv_at hl 1 rfl) ?_
  refine x_getR E h (fr_rt_now g) rfl hwX8 (by decide) (by decide +kernel) dX8_adopt_9 ?_
  refine lv_iload_n hx hb dX8_adopt_12 rfl (lv_at hl 0 rfl) ?_
  refine lv_aload_n hx hb dX8_adopt_13 rfl (lv_at hl 1 rfl) ?_
  refine x_getR E h (fr_rt_told g) rfl hwX8 (by decide) (by decide +kernel) dX8_adopt_14 ?_
  refine lv_iload_n hx hb dX8_adopt_17 rfl (lv_at hl 0 rfl) ?_
  refine x_ldI E h (ia_rt_told g) (i := 1) (by unfold vp_in; decide) (v := (-1)) fA_2_1 dX8_adopt_18 ?_
  refine lv_iconst (v := (-1)) hx hb dX8_adopt_19 (by decide) ?_
  refine lv_icmp_ne (tgt := 31) hx hb dX8_adopt_20 (by decide) (fun c => absurd (by decide) c) (fun _ => ?_)
  refine x_gets0 E h (by decide +kernel) dX8_adopt_23 ?_
  refine lv_iload_n hx hb dX8_adopt_26 rfl (lv_at hl 0 rfl) ?_
  refine x_tab0 E h (i := 1) (v := 10) (by unfold vp_in; decide) rfl dX8_adopt_27 ?_
  refine lv_goto (tgt := 37) hx hb dX8_adopt_28 (by decide) ?_
  refine x_stI E h (ia_rt_now g) (i := 1) (by unfold vp_in; decide) (j := (1)) rfl rfl dX8_adopt_37 (fun H locs h => ?_)
  refine lv_iinc (v := 2) (lv' := [(1, .int 2), (0, .ref (g.2.1 1))]) hx hb dX8_adopt_38 hl (k := 0) rfl (by decide) (by decide) rfl (fun ls hl => ?_)
  refine lv_goto (tgt := 2) hx hb dX8_adopt_41 (by decide) ?_
  refine lv_iload_n hx hb dX8_adopt_2 rfl (lv_at hl 0 rfl) ?_
  refine lv_bipush (v := 6) hx hb dX8_adopt_3 (by decide) ?_
  refine lv_icmp_ge (tgt := 44) hx hb dX8_adopt_5 (by decide) (fun c => absurd c (by decide)) (fun _ => ?_)
  refine lv_aload_n hx hb dX8_adopt_8 rfl (lv_at hl 1 rfl) ?_
  refine x_getR E h (fr_rt_now g) rfl hwX8 (by decide) (by decide +kernel) dX8_adopt_9 ?_
  refine lv_iload_n hx hb dX8_adopt_12 rfl (lv_at hl 0 rfl) ?_
  refine lv_aload_n hx hb dX8_adopt_13 rfl (lv_at hl 1 rfl) ?_
  refine x_getR E h (fr_rt_told g) rfl hwX8 (by decide) (by decide +kernel) dX8_adopt_14 ?_
  refine lv_iload_n hx hb dX8_adopt_17 rfl (lv_at hl 0 rfl) ?_
  refine x_ldI E h (ia_rt_told g) (i := 2) (by unfold vp_in; decide) (v := (-1)) fA_2_2 dX8_adopt_18 ?_
  refine lv_iconst (v := (-1)) hx hb dX8_adopt_19 (by decide) ?_
  refine lv_icmp_ne (tgt := 31) hx hb dX8_adopt_20 (by decide) (fun c => absurd (by decide) c) (fun _ => ?_)
  refine x_gets0 E h (by decide +kernel) dX8_adopt_23 ?_
  refine lv_iload_n hx hb dX8_adopt_26 rfl (lv_at hl 0 rfl) ?_
  refine x_tab0 E h (i := 2) (v := 40) (by unfold vp_in; decide) rfl dX8_adopt_27 ?_
  refine lv_goto (tgt := 37) hx hb dX8_adopt_28 (by decide) ?_
  refine x_stI E h (ia_rt_now g) (i := 2) (by unfold vp_in; decide) (j := (2)) rfl rfl dX8_adopt_37 (fun H locs h => ?_)
  refine lv_iinc (v := 3) (lv' := [(1, .int 3), (0, .ref (g.2.1 1))]) hx hb dX8_adopt_38 hl (k := 0) rfl (by decide) (by decide) rfl (fun ls hl => ?_)
  refine lv_goto (tgt := 2) hx hb dX8_adopt_41 (by decide) ?_
  refine lv_iload_n hx hb dX8_adopt_2 rfl (lv_at hl 0 rfl) ?_
  refine lv_bipush (v := 6) hx hb dX8_adopt_3 (by decide) ?_
  refine lv_icmp_ge (tgt := 44) hx hb dX8_adopt_5 (by decide) (fun c => absurd c (by decide)) (fun _ => ?_)
  refine lv_aload_n hx hb dX8_adopt_8 rfl (lv_at hl 1 rfl) ?_
  refine x_getR E h (fr_rt_now g) rfl hwX8 (by decide) (by decide +kernel) dX8_adopt_9 ?_
  refine lv_iload_n hx hb dX8_adopt_12 rfl (lv_at hl 0 rfl) ?_
  refine lv_aload_n hx hb dX8_adopt_13 rfl (lv_at hl 1 rfl) ?_
  refine x_getR E h (fr_rt_told g) rfl hwX8 (by decide) (by decide +kernel) dX8_adopt_14 ?_
  refine lv_iload_n hx hb dX8_adopt_17 rfl (lv_at hl 0 rfl) ?_
  refine x_ldI E h (ia_rt_told g) (i := 3) (by unfold vp_in; decide) (v := (-1)) fA_2_3 dX8_adopt_18 ?_
  refine lv_iconst (v := (-1)) hx hb dX8_adopt_19 (by decide) ?_
  refine lv_icmp_ne (tgt := 31) hx hb dX8_adopt_20 (by decide) (fun c => absurd (by decide) c) (fun _ => ?_)
  refine x_gets0 E h (by decide +kernel) dX8_adopt_23 ?_
  refine lv_iload_n hx hb dX8_adopt_26 rfl (lv_at hl 0 rfl) ?_
  refine x_tab0 E h (i := 3) (v := 0) (by unfold vp_in; decide) rfl dX8_adopt_27 ?_
  refine lv_goto (tgt := 37) hx hb dX8_adopt_28 (by decide) ?_
  refine x_stI E h (ia_rt_now g) (i := 3) (by unfold vp_in; decide) (j := (3)) rfl rfl dX8_adopt_37 (fun H locs h => ?_)
  refine lv_iinc (v := 4) (lv' := [(1, .int 4), (0, .ref (g.2.1 1))]) hx hb dX8_adopt_38 hl (k := 0) rfl (by decide) (by decide) rfl (fun ls hl => ?_)
  refine lv_goto (tgt := 2) hx hb dX8_adopt_41 (by decide) ?_
  refine lv_iload_n hx hb dX8_adopt_2 rfl (lv_at hl 0 rfl) ?_
  refine lv_bipush (v := 6) hx hb dX8_adopt_3 (by decide) ?_
  refine lv_icmp_ge (tgt := 44) hx hb dX8_adopt_5 (by decide) (fun c => absurd c (by decide)) (fun _ => ?_)
  refine lv_aload_n hx hb dX8_adopt_8 rfl (lv_at hl 1 rfl) ?_
  refine x_getR E h (fr_rt_now g) rfl hwX8 (by decide) (by decide +kernel) dX8_adopt_9 ?_
  refine lv_iload_n hx hb dX8_adopt_12 rfl (lv_at hl 0 rfl) ?_
  refine lv_aload_n hx hb dX8_adopt_13 rfl (lv_at hl 1 rfl) ?_
  refine x_getR E h (fr_rt_told g) rfl hwX8 (by decide) (by decide +kernel) dX8_adopt_14 ?_
  refine lv_iload_n hx hb dX8_adopt_17 rfl (lv_at hl 0 rfl) ?_
  refine x_ldI E h (ia_rt_told g) (i := 4) (by unfold vp_in; decide) (v := (-1)) fA_2_4 dX8_adopt_18 ?_
  refine lv_iconst (v := (-1)) hx hb dX8_adopt_19 (by decide) ?_
  refine lv_icmp_ne (tgt := 31) hx hb dX8_adopt_20 (by decide) (fun c => absurd (by decide) c) (fun _ => ?_)
  refine x_gets0 E h (by decide +kernel) dX8_adopt_23 ?_
  refine lv_iload_n hx hb dX8_adopt_26 rfl (lv_at hl 0 rfl) ?_
  refine x_tab0 E h (i := 4) (v := 0) (by unfold vp_in; decide) rfl dX8_adopt_27 ?_
  refine lv_goto (tgt := 37) hx hb dX8_adopt_28 (by decide) ?_
  refine x_stI E h (ia_rt_now g) (i := 4) (by unfold vp_in; decide) (j := (4)) rfl rfl dX8_adopt_37 (fun H locs h => ?_)
  refine lv_iinc (v := 5) (lv' := [(1, .int 5), (0, .ref (g.2.1 1))]) hx hb dX8_adopt_38 hl (k := 0) rfl (by decide) (by decide) rfl (fun ls hl => ?_)
  refine lv_goto (tgt := 2) hx hb dX8_adopt_41 (by decide) ?_
  refine lv_iload_n hx hb dX8_adopt_2 rfl (lv_at hl 0 rfl) ?_
  refine lv_bipush (v := 6) hx hb dX8_adopt_3 (by decide) ?_
  refine lv_icmp_ge (tgt := 44) hx hb dX8_adopt_5 (by decide) (fun c => absurd c (by decide)) (fun _ => ?_)
  refine lv_aload_n hx hb dX8_adopt_8 rfl (lv_at hl 1 rfl) ?_
  refine x_getR E h (fr_rt_now g) rfl hwX8 (by decide) (by decide +kernel) dX8_adopt_9 ?_
  refine lv_iload_n hx hb dX8_adopt_12 rfl (lv_at hl 0 rfl) ?_
  refine lv_aload_n hx hb dX8_adopt_13 rfl (lv_at hl 1 rfl) ?_
  refine x_getR E h (fr_rt_told g) rfl hwX8 (by decide) (by decide +kernel) dX8_adopt_14 ?_
  refine lv_iload_n hx hb dX8_adopt_17 rfl (lv_at hl 0 rfl) ?_
  refine x_ldI E h (ia_rt_told g) (i := 5) (by unfold vp_in; decide) (v := (-1)) fA_2_5 dX8_adopt_18 ?_
  refine lv_iconst (v := (-1)) hx hb dX8_adopt_19 (by decide) ?_
  refine lv_icmp_ne (tgt := 31) hx hb dX8_adopt_20 (by decide) (fun c => absurd (by decide) c) (fun _ => ?_)
  refine x_gets0 E h (by decide +kernel) dX8_adopt_23 ?_
  refine lv_iload_n hx hb dX8_adopt_26 rfl (lv_at hl 0 rfl) ?_
  refine x_tab0 E h (i := 5) (v := 10) (by unfold vp_in; decide) rfl dX8_adopt_27 ?_
  refine lv_goto (tgt := 37) hx hb dX8_adopt_28 (by decide) ?_
  refine x_stI E h (ia_rt_now g) (i := 5) (by unfold vp_in; decide) (j := (5)) rfl rfl dX8_adopt_37 (fun H locs h => ?_)
  refine lv_iinc (v := 6) (lv' := [(1, .int 6), (0, .ref (g.2.1 1))]) hx hb dX8_adopt_38 hl (k := 0) rfl (by decide) (by decide) rfl (fun ls hl => ?_)
  refine lv_goto (tgt := 2) hx hb dX8_adopt_41 (by decide) ?_
  refine lv_iload_n hx hb dX8_adopt_2 rfl (lv_at hl 0 rfl) ?_
  refine lv_bipush (v := 6) hx hb dX8_adopt_3 (by decide) ?_
  refine lv_icmp_ge (tgt := 44) hx hb dX8_adopt_5 (by decide) (fun _ => ?_) (fun c => absurd (by decide) c)
  refine lv_aload_n hx hb dX8_adopt_44 rfl (lv_at hl 1 rfl) ?_
  refine lv_iconst (v := 0) hx hb dX8_adopt_45 (by decide) ?_
  refine x_putI E h (ty := .int) (v := 0) (fi_rt_length g) rfl hwX8 tyX8_ok nmX8 (by decide) (by decide +kernel) (by decide +kernel) (by decide +kernel) rfl rfl dX8_adopt_46 (fun H locs h => ?_)
  exact x_vret E h rfl dX8_adopt_49
