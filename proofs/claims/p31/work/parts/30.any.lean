set_option maxHeartbeats 4000000 in
set_option maxRecDepth 100000 in
theorem aX11_within_0 (l : Launch) (g : CX) (σ : ST) (hI : INV σ) (p0 : Int32) (p1 : Int32) (p2 : Int32) : XM l g yX11_within wsX11_within { frames := 0, cells := 0, slots := 0, locals := 0 } [.int p0, .int p1, .int p2] σ (XQi g (fun r σ' => fX11_within_0 p0 p1 p2 σ = r ∧ ((1 = r ∧ ¬ p0 < p1 ∧ ¬ p2 < p0) ∨ (0 = r)) ∧ σ = σ')) := by
  refine x_met (own := RX11) (cc := cX11_within) (maxL := 3) (ret := (some .boolean)) (lv := [(0, .int p0), (1, .int p1), (2, .int p2)]) (by decide) rfl rfl (Nat.le_of_ble_eq_true rfl) rfl ?_
  intro p e s m args below meth c ls E h hl
  have hx := E.1
  have hb := E.2.1
  have hown := E.2.2.2.1
  have hts := E.2.2.2.2.1
  obtain ⟨R, hR0⟩ : ∃ R, fX11_within_0 p0 p1 p2 σ = R := ⟨_, rfl⟩
  have hR : fX11_within_0b0 p0 p1 p2 σ = R := hR0
  generalize hPQ : XQi g (fun r σ' => fX11_within_0 p0 p1 p2 σ = r ∧ ((1 = r ∧ ¬ p0 < p1 ∧ ¬ p2 < p0) ∨ (0 = r)) ∧ σ = σ') = PQz
  refine lv_iload_n hx hb dX11_within_0 rfl (lv_at hl 0 rfl) ?_
  refine lv_iload_n hx hb dX11_within_1 rfl (lv_at hl 1 rfl) ?_
  refine lv_icmp_lt (tgt := 14) hx hb dX11_within_2 (by decide) (fun c1 => ?_) (fun c1 => ?_)
  · skip
    replace hR := it_t hR c1
    refine lv_iconst (v := 0) hx hb dX11_within_14 (by decide) ?_
    replace hR : fX11_within_0b15 0 σ = R := hR
    subst hPQ
    exact x_zret E h rfl ⟨hR0.trans hR.symm, (Or.inr (rfl)), rfl⟩ dX11_within_15
  · skip
    replace hR := it_f hR c1
    refine lv_iload_n hx hb dX11_within_5 rfl (lv_at hl 0 rfl) ?_
    refine lv_iload_n hx hb dX11_within_6 rfl (lv_at hl 2 rfl) ?_
    refine lv_icmp_gt (tgt := 14) hx hb dX11_within_7 (by decide) (fun c4 => ?_) (fun c4 => ?_)
    · skip
      replace hR := it_t hR c4
      refine lv_iconst (v := 0) hx hb dX11_within_14 (by decide) ?_
      replace hR : fX11_within_0b15 0 σ = R := hR
      subst hPQ
      exact x_zret E h rfl ⟨hR0.trans hR.symm, (Or.inr (rfl)), rfl⟩ dX11_within_15
    · skip
      replace hR := it_f hR c4
      refine lv_iconst (v := 1) hx hb dX11_within_10 (by decide) ?_
      refine lv_goto (tgt := 15) hx hb dX11_within_11 (by decide) ?_
      replace hR : fX11_within_0b15 1 σ = R := hR
      subst hPQ
      exact x_zret E h rfl ⟨hR0.trans hR.symm, (Or.inl ⟨rfl, c1, c4⟩), rfl⟩ dX11_within_15
set_option maxHeartbeats 4000000 in
set_option maxRecDepth 100000 in
theorem aX8_append_0 (l : Launch) (g : CX) (σ : ST) (hI : INV σ) (p1 : Int64) (p2 : Nat) (hh0 : p2 ≤ 8) : XM l g yX8_append wsX8_append { frames := 0, cells := 0, slots := 0, locals := 0 } [.ref (g.2.1 1), .long p1, .int (nI p2)] σ (XQi g (fun r σ' => fX8_append_0 p1 (nI p2) σ = (r, σ') ∧ INV σ' ∧ Fr [(0, 0)] [(0, 0)] σ σ')) := by
  refine x_met (own := RX8) (cc := cX8_append) (maxL := 5) (ret := (some .boolean)) (lv := [(0, .ref (g.2.1 1)), (1, .long p1), (3, .int (nI p2))]) (by decide) rfl rfl (Nat.le_of_ble_eq_true rfl) rfl ?_
  intro p e s m args below meth c ls E h hl
  have hx := E.1
  have hb := E.2.1
  have hown := E.2.2.2.1
  have hts := E.2.2.2.2.1
  have hF : Fr [(0, 0)] [(0, 0)] σ σ := Fr.refl σ
  obtain ⟨R, hR0⟩ : ∃ R, fX8_append_0 p1 (nI p2) σ = R := ⟨_, rfl⟩
  have hR : fX8_append_0b0 p1 (nI p2) σ = R := hR0
  have hwX8 : ∀ w ∈ wsX80, w ∈ wsX8_append := by decide +kernel
  generalize hPQ : XQi g (fun r σ' => fX8_append_0 p1 (nI p2) σ = (r, σ') ∧ INV σ' ∧ Fr [(0, 0)] [(0, 0)] σ σ') = PQz
  refine lv_iload_n hx hb dX8_append_0 rfl (lv_at hl 2 rfl) ?_
  replace hR := it_f hR (nI_pos (by omega))
  refine lv_if_lt (tgt := 16) hx hb dX8_append_1 (by decide) (fun c => absurd c (nI_pos (by omega))) (fun _ => ?_)
  refine lv_iload_n hx hb dX8_append_4 rfl (lv_at hl 2 rfl) ?_
  refine lv_sipush (v := 200) hx hb dX8_append_5 (by decide) ?_
  refine lv_aload_n hx hb dX8_append_8 rfl (lv_at hl 0 rfl) ?_
  obtain ⟨n1, b1, e1⟩ := hI.1 0 200 rfl
  refine x_getI E h (fi_rt_length g) rfl hwX8 (by decide) (by decide +kernel) (v := nI n1) e1 dX8_append_9 ?_
  replace hR := bd_to hR e1
  refine lv_isub hx hb dX8_append_12 ?_
  refine x_topI (v2 := nI (200 - n1)) (pk_sub (a := 200) (b := n1) (by omega)) ?_
  replace hR := bd_to hR (pk_sub (a := 200) (b := n1) (by omega))
  refine lv_icmp_le (tgt := 18) hx hb dX8_append_13 (by decide) (fun c2 => ?_) (fun c2 => ?_)
  · skip
    replace hR := it_t hR c2
    have b3 : p2 ≤ (200 - n1) := y_le (a := p2) (b := (200 - n1)) (by omega) (by omega) c2
    refine lv_iload_n hx hb dX8_append_18 rfl (lv_at hl 2 rfl) ?_
    refine lv_iconst (v := 1) hx hb dX8_append_19 (by decide) ?_
    refine lv_isub hx hb dX8_append_20 ?_
    replace hR := bd_to hR rfl
    refine lv_istore (lv' := [(4, .int (nI p2 - 1)), (0, .ref (g.2.1 1)), (1, .long p1), (3, .int (nI p2))]) hx hb dX8_append_21 hl (by decide) rfl (fun ls hl => ?_)
    have loop23_4 : ∀ (fu : Nat) (t4 : ST) (f4_0 : Nat) (i4_4 : Nat), INV t4 → Fr [(0, 0)] [(0, 0)] σ t4 → t4.1 0 = nI f4_0 → i4_4 ≤ 8 → f4_0 + i4_4 ≤ 200 → fX8_append_0l23 fu p1 (nI i4_4 - 1) t4 = R → i4_4 < fu → ∀ (H : Heap) (locs : List Loc) (ls : Array Slot), HW g t4 s H locs → lv_has ls 5 [(4, .int (nI i4_4 - 1)), (0, .ref (g.2.1 1)), (1, .long p1), (3, .int (nI p2))] → W p l e { frames := 0, cells := 0, slots := 0, locals := 0 } s m args below meth c H locs 0 0 (MQ below PQz args s 0 0 (Aw g)) (F0 m 23 ls []) := by
      intro fu4
      induction fu4 with
      | zero => intro t4 f4_0 i4_4 hI_4 hF_4 ef4_0 bi4_4 pp4_0 hR4 hm; exact absurd hm (Nat.not_lt_zero _)
      | succ fu4 ih =>
        have ih4 := ih
        clear ih
        intro t4 f4_0 i4_4 hI_4 hF_4 ef4_0 bi4_4 pp4_0 hR4 hm4 H locs ls h hl
        replace hR4 : fX8_append_0b23 (fX8_append_0l23 fu4) p1 (nI i4_4 - 1) t4 = R := hR4
        refine lv_iload hx hb dX8_append_23 (lv_at hl 0 rfl) ?_
        refine lv_if_lt (tgt := 65) hx hb dX8_append_25 (by decide) (fun c5 => ?_) (fun c5 => ?_)
        · skip
          replace hR4 := it_t hR4 c5
          have b6 : i4_4 < 0 + 1 := y_ltL (a := i4_4) (b := 0) (by omega) (by omega) c5
          refine lv_iconst (v := 1) hx hb dX8_append_65 (by decide) ?_
          subst hPQ
          exact x_zret E h rfl ⟨hR0.trans hR4.symm, hI_4, hF_4⟩ dX8_append_66
        · skip
          replace hR4 := it_f hR4 c5
          have b7 : 0 + 1 ≤ i4_4 := y_nltL (a := i4_4) (b := 0) (by omega) (by omega) c5
          obtain ⟨n8, rfl⟩ : ∃ z, i4_4 = z + 1 := ⟨i4_4 - 1, by omega⟩
          rw [nI_pred] at hl
          try rw [nI_pred] at hR4
          refine lv_aload_n hx hb dX8_append_28 rfl (lv_at hl 1 rfl) ?_
          refine x_getR E h (fr_rt_bytes g) rfl hwX8 (by decide) (by decide +kernel) dX8_append_29 ?_
          refine lv_aload_n hx hb dX8_append_32 rfl (lv_at hl 1 rfl) ?_
          refine x_getI E h (fi_rt_length g) rfl hwX8 (by decide) (by decide +kernel) (v := nI f4_0) ef4_0 dX8_append_33 ?_
          replace hR4 := bd_to hR4 ef4_0
          refine lv_lload_n hx hb dX8_append_36 rfl (lv_at hl 2 rfl) ?_
          refine lv_bipush (v := 8) hx hb dX8_append_37 (by decide) ?_
          refine lv_iload hx hb dX8_append_39 (lv_at hl 0 rfl) ?_
          refine lv_imul hx hb dX8_append_41 ?_
          refine x_topI (v2 := nI (8 * n8)) (pk_mul 8 n8) ?_
          replace hR4 := bd_to hR4 (pk_mul 8 n8)
          refine lv_lushr hx hb dX8_append_42 rfl ?_
          refine lv_topl (fun y9 e9 => ?_)
          replace hR4 := bd_to hR4 e9.symm
          refine lv_l2i hx hb dX8_append_43 rfl ?_
          refine lv_topi (fun x10 e10 => ?_)
          replace hR4 := bd_to hR4 e10.symm
          refine lv_sipush (v := 255) hx hb dX8_append_44 (by decide) ?_
          refine lv_iand hx hb dX8_append_47 ?_
          obtain ⟨n11, b11, e11⟩ := pk_andE x10 (m := 255) 8 (by decide)
          refine x_topI (v2 := nI n11) e11 ?_
          replace hR4 := bd_to hR4 e11
          refine y_stI E h hI_4 hF_4 (ia_rt_bytes g) (i := nI f4_0) (vp_in_nI (by omega) (by decide)) (j := f4_0) (nI_clamp (by omega)) (ba_none rfl) rfl dX8_append_48 (fun s12 H locs q12 hI12 hF12 h => ?_)
          replace hR4 := st_to hR4 (nI_clamp (n := f4_0) (by omega)) q12
          have e13 : s12.1 0 = nI f4_0 := (congrArg (fun t : ST => t.1 0) q12).trans ef4_0
          refine lv_aload_n hx hb dX8_append_49 rfl (lv_at hl 1 rfl) ?_
          refine lv_dup hx hb dX8_append_50 rfl ?_
          refine x_getI E h (fi_rt_length g) rfl hwX8 (by decide) (by decide +kernel) (v := nI f4_0) e13 dX8_append_51 ?_
          replace hR4 := bd_to hR4 e13
          refine lv_iconst (v := 1) hx hb dX8_append_54 (by decide) ?_
          refine lv_iadd hx hb dX8_append_55 ?_
          refine x_topI (v2 := nI (f4_0 + 1)) (nI_add f4_0 1) ?_
          replace hR4 := bd_to hR4 (nI_add f4_0 1)
          refine y_putI E h hI12 hF12 (ty := .int) (v := nI (f4_0 + 1)) (fi_rt_length g) rfl hwX8 tyX8_ok nmX8 (by decide) (by decide +kernel) (by decide +kernel) (by decide +kernel) rfl rfl (ba_some rfl (Bd.mk (n := (f4_0 + 1)) (by omega))) rfl dX8_append_56 (fun s14 H locs q14 hI14 hF14 h => ?_)
          replace hR4 := bd_to hR4 q14.symm
          have e15 : s14.1 0 = nI (f4_0 + 1) := congrArg (fun t : ST => t.1 0) q14
          replace hR4 := bd_to hR4 (y_m1 n8)
          refine lv_iinc (v := (nI n8 - 1)) (lv' := [(4, .int (nI n8 - 1)), (0, .ref (g.2.1 1)), (1, .long p1), (3, .int (nI p2))]) hx hb dX8_append_59 hl (k := 0) rfl (y_m1 n8) (by decide) rfl (fun ls hl => ?_)
          refine lv_goto (tgt := 23) hx hb dX8_append_62 (by decide) ?_
          exact ih4 s14 (f4_0 + 1) n8 hI14 hF14 e15 (by omega) (by omega) hR4 (by omega) _ _ _ h (lv_sub hl [0, 1, 2, 3] rfl)
    exact loop23_4 4096 σ n1 p2 hI hF e1 (by omega) (by omega) (by first | exact hR | (rw [nI_pred]; exact hR)) (by omega) _ _ _ h (lv_sub hl [0, 1, 2, 3] rfl)
  · skip
    replace hR := it_f hR c2
    have b16 : (200 - n1) < p2 := y_nle (a := p2) (b := (200 - n1)) (by omega) (by omega) c2
    refine lv_iconst (v := 0) hx hb dX8_append_16 (by decide) ?_
    subst hPQ
    exact x_zret E h rfl ⟨hR0.trans hR.symm, hI, hF⟩ dX8_append_17
set_option maxHeartbeats 4000000 in
set_option maxRecDepth 100000 in
theorem aX11_type_0 (l : Launch) (g : CX) (σ : ST) (hI : INV σ) (p1 : Int64) (p2 : Int32) : XM l g yX11_type wsX11_type { frames := 1, cells := 0, slots := 0, locals := 24 } [.ref (g.2.1 0), .long p1, .int p2] σ (XQi g (fun r σ' => fX11_type_0 p1 p2 σ = (r, σ') ∧ INV σ' ∧ Fr [(0, 0)] [(0, 0)] σ σ')) := by
  refine x_met (own := RX11) (cc := cX11_type) (maxL := 4) (ret := (some .int)) (lv := [(0, .ref (g.2.1 0)), (1, .long p1), (3, .int p2)]) (by decide) rfl rfl (Nat.le_of_ble_eq_true rfl) rfl ?_
  intro p e s m args below meth c ls E h hl
  have hx := E.1
  have hb := E.2.1
  have hown := E.2.2.2.1
  have hts := E.2.2.2.2.1
  have hF : Fr [(0, 0)] [(0, 0)] σ σ := Fr.refl σ
  obtain ⟨R, hR0⟩ : ∃ R, fX11_type_0 p1 p2 σ = R := ⟨_, rfl⟩
  have hR : fX11_type_0b0 p1 p2 σ = R := hR0
  have hwX11 : ∀ w ∈ wsX110, w ∈ wsX11_type := by decide +kernel
  have hwX8 : ∀ w ∈ wsX80, w ∈ wsX11_type := by decide +kernel
  generalize hPQ : XQi g (fun r σ' => fX11_type_0 p1 p2 σ = (r, σ') ∧ INV σ' ∧ Fr [(0, 0)] [(0, 0)] σ σ') = PQz
  refine lv_iload_n hx hb dX11_type_0 rfl (lv_at hl 2 rfl) ?_
  refine lv_iconst (v := 1) hx hb dX11_type_1 (by decide) ?_
  refine lv_bipush (v := 8) hx hb dX11_type_2 (by decide) ?_
  refine x_si E h (na := 3) (As := [.int p2, .int 1, .int 8]) (aX11_within_0 l g σ hI p2 1 8) gX11_type_X11_within rfl ⟨rfl, rfl⟩ rfl (by decide +kernel) ⟨Nat.le_of_ble_eq_true rfl, Nat.le_of_ble_eq_true rfl⟩ hl.1 rfl (Nat.le_of_ble_eq_true rfl) dX11_type_4 ⟨Nat.le_of_ble_eq_true rfl, Nat.le_of_ble_eq_true rfl⟩ (fun r1 s1 H locs q1 h => ?_)
  obtain ⟨x1, d1, rfl⟩ := q1
  replace hR := bd_to hR x1
  rcases d1 with ⟨rfl, u1_0_0, u1_0_1⟩ | rfl
  · skip
    obtain ⟨n2, b2, rfl⟩ := y_rnlt (N := 8) (y_lo1 u1_0_0 (by decide)) u1_0_1 (by omega)
    have b3 : 1 ≤ n2 := y_nlt (a := n2) (b := 1) (by omega) (by omega) u1_0_0
    have b4 : n2 ≤ 8 := y_nlt (a := 8) (b := n2) (by omega) (by omega) u1_0_1
    replace hR := it_f hR (by decide)
    refine lv_if_ne (tgt := 12) hx hb dX11_type_7 (by decide) (fun _ => ?_) (fun c => absurd c (by decide))
    refine lv_aload_n hx hb dX11_type_12 rfl (lv_at hl 0 rfl) ?_
    refine x_getR E h (fr_vh_ruleText g) rfl hwX11 (by decide) (by decide +kernel) dX11_type_13 ?_
    refine lv_lload_n hx hb dX11_type_16 rfl (lv_at hl 1 rfl) ?_
    refine lv_iload_n hx hb dX11_type_17 rfl (lv_at hl 2 rfl) ?_
    refine x_vi E h (na := 2) (As := [.long p1, .int (nI n2)]) (aX8_append_0 l g σ hI p1 n2 (by omega)) (oc_rt g) rfl gX11_type_X8_append rfl ⟨rfl, rfl⟩ rfl (by decide +kernel) ⟨Nat.le_of_ble_eq_true rfl, Nat.le_of_ble_eq_true rfl⟩ hl.1 rfl (Nat.le_of_ble_eq_true rfl) dX11_type_18 ⟨Nat.le_of_ble_eq_true rfl, Nat.le_of_ble_eq_true rfl⟩ (fun r5 s5 H locs q5 h => ?_)
    obtain ⟨x5, hI5, f5⟩ := q5
    replace hR := bp_to hR x5
    have hF5 := hF.call f5 (I := [(0, 0)]) (J := [(0, 0)]) rfl rfl
    refine lv_if_eq (tgt := 34) hx hb dX11_type_21 (by decide) (fun c6 => ?_) (fun c6 => ?_)
    · skip
      replace hR := it_t hR c6
      subst c6
      refine lv_bipush (v := (-3)) hx hb dX11_type_34 (by decide) ?_
      replace hR : fX11_type_0b36 (-3) s5 = R := hR
      subst hPQ
      exact x_iret E h ⟨hR0.trans hR.symm, hI5, hF5⟩ dX11_type_36
    · skip
      replace hR := it_f hR c6
      refine lv_aload_n hx hb dX11_type_24 rfl (lv_at hl 0 rfl) ?_
      refine x_getR E h (fr_vh_ruleText g) rfl hwX11 (by decide) (by decide +kernel) dX11_type_25 ?_
      obtain ⟨n9, b9, e9⟩ := hI5.1 0 200 rfl
      refine x_getIN E h (fi_rt_length g) rfl hwX8 (by decide) (by decide +kernel) (v := nI n9) e9 dX11_type_28 ?_
      replace hR := bd_to hR e9
      refine lv_goto (tgt := 36) hx hb dX11_type_31 (by decide) ?_
      subst hPQ
      exact x_iret E h ⟨hR0.trans hR.symm, hI5, hF5⟩ dX11_type_36
  · skip
    replace hR := it_t hR (by decide)
    refine lv_if_ne (tgt := 12) hx hb dX11_type_7 (by decide) (fun c => absurd (by decide) c) (fun _ => ?_)
    refine lv_iconst (v := (-1)) hx hb dX11_type_10 (by decide) ?_
    subst hPQ
    exact x_iret E h ⟨hR0.trans hR.symm, hI, hF⟩ dX11_type_11
set_option maxHeartbeats 4000000 in
set_option maxRecDepth 100000 in
theorem aX11_clear_0 (l : Launch) (g : CX) (σ : ST) (hI : INV σ)  : XM l g yX11_clear wsX11_clear { frames := 0, cells := 0, slots := 0, locals := 0 } [.ref (g.2.1 0)] σ (XQi g (fun r σ' => fX11_clear_0 σ = (r, σ') ∧ INV σ' ∧ Fr [(0, 0)] [] σ σ')) := by
  refine x_met (own := RX11) (cc := cX11_clear) (maxL := 2) (ret := (some .int)) (lv := [(0, .ref (g.2.1 0))]) (by decide) rfl rfl (Nat.le_of_ble_eq_true rfl) rfl ?_
  intro p e s m args below meth c ls E h hl
  have hx := E.1
  have hb := E.2.1
  have hown := E.2.2.2.1
  have hts := E.2.2.2.2.1
  have hF : Fr [(0, 0)] [] σ σ := Fr.refl σ
  obtain ⟨R, hR0⟩ : ∃ R, fX11_clear_0 σ = R := ⟨_, rfl⟩
  have hR : fX11_clear_0b0 σ = R := hR0
  have hwX11 : ∀ w ∈ wsX110, w ∈ wsX11_clear := by decide +kernel
  have hwX8 : ∀ w ∈ wsX80, w ∈ wsX11_clear := by decide +kernel
  generalize hPQ : XQi g (fun r σ' => fX11_clear_0 σ = (r, σ') ∧ INV σ' ∧ Fr [(0, 0)] [] σ σ') = PQz
  refine lv_aload_n hx hb dX11_clear_0 rfl (lv_at hl 0 rfl) ?_
  refine x_getR E h (fr_vh_ruleText g) rfl hwX11 (by decide) (by decide +kernel) dX11_clear_1 ?_
  obtain ⟨n1, b1, e1⟩ := hI.1 0 200 rfl
  refine x_getIN E h (fi_rt_length g) rfl hwX8 (by decide) (by decide +kernel) (v := nI n1) e1 dX11_clear_4 ?_
  replace hR := bd_to hR e1
  refine lv_istore_n (lv' := [(1, .int (nI n1)), (0, .ref (g.2.1 0))]) hx hb dX11_clear_7 rfl hl (by decide) rfl (fun ls hl => ?_)
  refine lv_aload_n hx hb dX11_clear_8 rfl (lv_at hl 1 rfl) ?_
  refine x_getR E h (fr_vh_ruleText g) rfl hwX11 (by decide) (by decide +kernel) dX11_clear_9 ?_
  refine lv_iconst (v := 0) hx hb dX11_clear_12 (by decide) ?_
  refine y_putIN E h hI hF (ty := .int) (v := nI 0) (fi_rt_length g) rfl hwX8 tyX8_ok nmX8 (by decide) (by decide +kernel) (by decide +kernel) (by decide +kernel) rfl rfl (ba_some rfl (Bd.mk (n := 0) (by omega))) rfl dX11_clear_13 (fun s2 H locs q2 hI2 hF2 h => ?_)
  replace hR := bd_to hR q2.symm
  have e3 : s2.1 0 = nI 0 := congrArg (fun t : ST => t.1 0) q2
  refine lv_iload_n hx hb dX11_clear_16 rfl (lv_at hl 0 rfl) ?_
  subst hPQ
  exact x_iret E h ⟨hR0.trans hR.symm, hI2, hF2⟩ dX11_clear_17
set_option maxHeartbeats 4000000 in
set_option maxRecDepth 100000 in
theorem aX8_endsBehindBlanks_0 (l : Launch) (g : CX) (σ : ST) (hI : INV σ)  : XM l g yX8_endsBehindBlanks wsX8_endsBehindBlanks { frames := 0, cells := 0, slots := 0, locals := 0 } [.ref (g.2.1 1)] σ (XQi g (fun r σ' => fX8_endsBehindBlanks_0 σ = (r, σ') ∧ ((1 = r) ∨ (0 = r ∧ ∃ a L : Nat, σ'.1 1 = nI a ∧ σ'.1 0 = nI L ∧ L ≤ 200 ∧ a < L)) ∧ INV σ' ∧ Fr [(1, 1)] [] σ σ')) := by
  refine x_met (own := RX8) (cc := cX8_endsBehindBlanks) (maxL := 1) (ret := (some .boolean)) (lv := [(0, .ref (g.2.1 1))]) (by decide) rfl rfl (Nat.le_of_ble_eq_true rfl) rfl ?_
  intro p e s m args below meth c ls E h hl
  have hx := E.1
  have hb := E.2.1
  have hown := E.2.2.2.1
  have hts := E.2.2.2.2.1
  have hF : Fr [(1, 1)] [] σ σ := Fr.refl σ
  obtain ⟨R, hR0⟩ : ∃ R, fX8_endsBehindBlanks_0 σ = R := ⟨_, rfl⟩
  have hR : fX8_endsBehindBlanks_0l0 4096 σ = R := hR0
  have hwX8 : ∀ w ∈ wsX80, w ∈ wsX8_endsBehindBlanks := by decide +kernel
  generalize hPQ : XQi g (fun r σ' => fX8_endsBehindBlanks_0 σ = (r, σ') ∧ ((1 = r) ∨ (0 = r ∧ ∃ a L : Nat, σ'.1 1 = nI a ∧ σ'.1 0 = nI L ∧ L ≤ 200 ∧ a < L)) ∧ INV σ' ∧ Fr [(1, 1)] [] σ σ') = PQz
  obtain ⟨n2, b2, e2⟩ := hI.1 0 200 rfl
  obtain ⟨n3, b3, e3⟩ := hI.1 1 200 rfl
  have loop0_1 : ∀ (fu : Nat) (t1 : ST) (f1_1 : Nat), INV t1 → Fr [(1, 1)] [] σ t1 → t1.1 0 = nI n2 → t1.1 1 = nI f1_1 → f1_1 ≤ 200 → fX8_endsBehindBlanks_0l0 fu t1 = R → 200 - f1_1 < fu → ∀ (H : Heap) (locs : List Loc) (ls : Array Slot), HW g t1 s H locs → lv_has ls 1 [(0, .ref (g.2.1 1))] → W p l e { frames := 0, cells := 0, slots := 0, locals := 0 } s m args below meth c H locs 0 0 (MQ below PQz args s 0 0 (Aw g)) (F0 m 0 ls []) := by
    intro fu1
    induction fu1 with
    | zero => intro t1 f1_1 hI_1 hF_1 e4 ef1_1 pp1_0 hR1 hm; exact absurd hm (Nat.not_lt_zero _)
    | succ fu1 ih =>
      have ih1 := ih
      clear ih
      intro t1 f1_1 hI_1 hF_1 e4 ef1_1 pp1_0 hR1 hm1 H locs ls h hl
      replace hR1 : fX8_endsBehindBlanks_0b0 (fX8_endsBehindBlanks_0l0 fu1) t1 = R := hR1
      refine lv_aload_n hx hb dX8_endsBehindBlanks_0 rfl (lv_at hl 0 rfl) ?_
      refine x_getI E h (fi_rt_at g) rfl hwX8 (by decide) (by decide +kernel) (v := nI f1_1) ef1_1 dX8_endsBehindBlanks_1 ?_
      replace hR1 := bd_to hR1 ef1_1
      refine lv_aload_n hx hb dX8_endsBehindBlanks_4 rfl (lv_at hl 0 rfl) ?_
      refine x_getI E h (fi_rt_length g) rfl hwX8 (by decide) (by decide +kernel) (v := nI n2) e4 dX8_endsBehindBlanks_5 ?_
      replace hR1 := bd_to hR1 e4
      refine lv_icmp_ge (tgt := 38) hx hb dX8_endsBehindBlanks_8 (by decide) (fun c5 => ?_) (fun c5 => ?_)
      · skip
        replace hR1 := it_t hR1 c5
        have b6 : n2 ≤ f1_1 := y_le (a := n2) (b := f1_1) (by omega) (by omega) c5
        refine lv_aload_n hx hb dX8_endsBehindBlanks_38 rfl (lv_at hl 0 rfl) ?_
        refine x_getI E h (fi_rt_at g) rfl hwX8 (by decide) (by decide +kernel) (v := nI f1_1) ef1_1 dX8_endsBehindBlanks_39 ?_
        replace hR1 := bd_to hR1 ef1_1
        refine lv_aload_n hx hb dX8_endsBehindBlanks_42 rfl (lv_at hl 0 rfl) ?_
        refine x_getI E h (fi_rt_length g) rfl hwX8 (by decide) (by decide +kernel) (v := nI n2) e4 dX8_endsBehindBlanks_43 ?_
        replace hR1 := bd_to hR1 e4
        refine lv_icmp_lt (tgt := 53) hx hb dX8_endsBehindBlanks_46 (by decide) (fun c7 => ?_) (fun c7 => ?_)
        · skip
          replace hR1 := it_t hR1 c7
          have b8 : f1_1 < n2 := y_lt (a := f1_1) (b := n2) (by omega) (by omega) c7
          refine lv_iconst (v := 0) hx hb dX8_endsBehindBlanks_53 (by decide) ?_
          replace hR1 : fX8_endsBehindBlanks_0b54 0 t1 = R := hR1
          subst hPQ
          exact x_zret E h rfl ⟨hR0.trans hR1.symm, (Or.inr (⟨rfl, f1_1, n2, ef1_1, e4, (by omega), (by omega)⟩)), hI_1, hF_1⟩ dX8_endsBehindBlanks_54
        · skip
          replace hR1 := it_f hR1 c7
          have b9 : n2 ≤ f1_1 := y_nlt (a := f1_1) (b := n2) (by omega) (by omega) c7
          refine lv_iconst (v := 1) hx hb dX8_endsBehindBlanks_49 (by decide) ?_
          refine lv_goto (tgt := 54) hx hb dX8_endsBehindBlanks_50 (by decide) ?_
          replace hR1 : fX8_endsBehindBlanks_0b54 1 t1 = R := hR1
          subst hPQ
          exact x_zret E h rfl ⟨hR0.trans hR1.symm, (Or.inl rfl), hI_1, hF_1⟩ dX8_endsBehindBlanks_54
      · skip
        replace hR1 := it_f hR1 c5
        have b10 : f1_1 < n2 := y_nle (a := n2) (b := f1_1) (by omega) (by omega) c5
        refine lv_aload_n hx hb dX8_endsBehindBlanks_11 rfl (lv_at hl 0 rfl) ?_
        refine x_getR E h (fr_rt_bytes g) rfl hwX8 (by decide) (by decide +kernel) dX8_endsBehindBlanks_12 ?_
        refine lv_aload_n hx hb dX8_endsBehindBlanks_15 rfl (lv_at hl 0 rfl) ?_
        refine x_getI E h (fi_rt_at g) rfl hwX8 (by decide) (by decide +kernel) (v := nI f1_1) ef1_1 dX8_endsBehindBlanks_16 ?_
        replace hR1 := bd_to hR1 ef1_1
        refine x_ldI E h (ia_rt_bytes g) (i := nI f1_1) (vp_in_nI (by omega) (by decide)) (v := t1.2.2 0 f1_1) (congrArg (t1.2.2 0) (nI_clamp (n := f1_1) (by omega))) dX8_endsBehindBlanks_19 ?_
        replace hR1 := bd_to hR1 (congrArg (t1.2.2 0) (nI_clamp (n := f1_1) (by omega)))
        refine lv_bipush (v := 32) hx hb dX8_endsBehindBlanks_20 (by decide) ?_
        refine lv_icmp_ne (tgt := 38) hx hb dX8_endsBehindBlanks_22 (by decide) (fun c11 => ?_) (fun c11 => ?_)
        · skip
          replace hR1 := it_f hR1 c11
          refine lv_aload_n hx hb dX8_endsBehindBlanks_38 rfl (lv_at hl 0 rfl) ?_
          refine x_getI E h (fi_rt_at g) rfl hwX8 (by decide) (by decide +kernel) (v := nI f1_1) ef1_1 dX8_endsBehindBlanks_39 ?_
          replace hR1 := bd_to hR1 ef1_1
          refine lv_aload_n hx hb dX8_endsBehindBlanks_42 rfl (lv_at hl 0 rfl) ?_
          refine x_getI E h (fi_rt_length g) rfl hwX8 (by decide) (by decide +kernel) (v := nI n2) e4 dX8_endsBehindBlanks_43 ?_
          replace hR1 := bd_to hR1 e4
          refine lv_icmp_lt (tgt := 53) hx hb dX8_endsBehindBlanks_46 (by decide) (fun c13 => ?_) (fun c13 => ?_)
          · skip
            replace hR1 := it_t hR1 c13
            have b14 : f1_1 < n2 := y_lt (a := f1_1) (b := n2) (by omega) (by omega) c13
            refine lv_iconst (v := 0) hx hb dX8_endsBehindBlanks_53 (by decide) ?_
            replace hR1 : fX8_endsBehindBlanks_0b54 0 t1 = R := hR1
            subst hPQ
            exact x_zret E h rfl ⟨hR0.trans hR1.symm, (Or.inr (⟨rfl, f1_1, n2, ef1_1, e4, (by omega), (by omega)⟩)), hI_1, hF_1⟩ dX8_endsBehindBlanks_54
          · skip
            replace hR1 := it_f hR1 c13
            have b15 : n2 ≤ f1_1 := y_nlt (a := f1_1) (b := n2) (by omega) (by omega) c13
            refine lv_iconst (v := 1) hx hb dX8_endsBehindBlanks_49 (by decide) ?_
            refine lv_goto (tgt := 54) hx hb dX8_endsBehindBlanks_50 (by decide) ?_
            replace hR1 : fX8_endsBehindBlanks_0b54 1 t1 = R := hR1
            subst hPQ
            exact x_zret E h rfl ⟨hR0.trans hR1.symm, (Or.inl rfl), hI_1, hF_1⟩ dX8_endsBehindBlanks_54
        · skip
          replace hR1 := it_t hR1 c11
          refine lv_aload_n hx hb dX8_endsBehindBlanks_25 rfl (lv_at hl 0 rfl) ?_
          refine lv_dup hx hb dX8_endsBehindBlanks_26 rfl ?_
          refine x_getI E h (fi_rt_at g) rfl hwX8 (by decide) (by decide +kernel) (v := nI f1_1) ef1_1 dX8_endsBehindBlanks_27 ?_
          replace hR1 := bd_to hR1 ef1_1
          refine lv_iconst (v := 1) hx hb dX8_endsBehindBlanks_30 (by decide) ?_
          refine lv_iadd hx hb dX8_endsBehindBlanks_31 ?_
          refine x_topI (v2 := nI (f1_1 + 1)) (nI_add f1_1 1) ?_
          replace hR1 := bd_to hR1 (nI_add f1_1 1)
          refine y_putI E h hI_1 hF_1 (ty := .int) (v := nI (f1_1 + 1)) (fi_rt_at g) rfl hwX8 tyX8_ok nmX8 (by decide) (by decide +kernel) (by decide +kernel) (by decide +kernel) rfl rfl (ba_some rfl (Bd.mk (n := (f1_1 + 1)) (by omega))) rfl dX8_endsBehindBlanks_32 (fun s17 H locs q17 hI17 hF17 h => ?_)
          replace hR1 := bd_to hR1 q17.symm
          have e18 : s17.1 0 = nI n2 := (congrArg (fun t : ST => t.1 0) q17).trans e4
          have e19 : s17.1 1 = nI (f1_1 + 1) := congrArg (fun t : ST => t.1 1) q17
          refine lv_goto (tgt := 0) hx hb dX8_endsBehindBlanks_35 (by decide) ?_
          exact ih1 s17 (f1_1 + 1) hI17 hF17 e18 e19 (by omega) hR1 (by omega) _ _ _ h (lv_sub hl [0] rfl)
  exact loop0_1 4096 σ n3 hI hF e2 e3 (by omega) hR (by omega) _ _ _ h (lv_sub hl [0] rfl)
set_option maxHeartbeats 4000000 in
set_option maxRecDepth 100000 in
theorem aX8_adopt_0 (l : Launch) (g : CX) (σ : ST) (hI : INV σ)  : XM l g yX8_adopt wsX8_adopt { frames := 0, cells := 0, slots := 0, locals := 0 } [.ref (g.2.1 1)] σ (XQv g (fun σ' => fX8_adopt_0 σ = σ' ∧ INV σ' ∧ Fr [(0, 0)] [(1, 1)] σ σ')) := by
  refine x_met (own := RX8) (cc := cX8_adopt) (maxL := 2) (ret := none) (lv := [(0, .ref (g.2.1 1))]) (by decide) rfl rfl (Nat.le_of_ble_eq_true rfl) rfl ?_
  intro p e s m args below meth c ls E h hl
  have hx := E.1
  have hb := E.2.1
  have hown := E.2.2.2.1
  have hts := E.2.2.2.2.1
  have hF : Fr [(0, 0)] [(1, 1)] σ σ := Fr.refl σ
  obtain ⟨R, hR0⟩ : ∃ R, fX8_adopt_0 σ = R := ⟨_, rfl⟩
  have hR : fX8_adopt_0b0 σ = R := hR0
  have hwX8 : ∀ w ∈ wsX80, w ∈ wsX8_adopt := by decide +kernel
  generalize hPQ : XQv g (fun σ' => fX8_adopt_0 σ = σ' ∧ INV σ' ∧ Fr [(0, 0)] [(1, 1)] σ σ') = PQz
  refine lv_iconst (v := 0) hx hb dX8_adopt_0 (by decide) ?_
  refine lv_istore_n (lv' := [(1, .int 0), (0, .ref (g.2.1 1))]) hx hb dX8_adopt_1 rfl hl (by decide) rfl (fun ls hl => ?_)
  have loop2_1 : ∀ (fu : Nat) (t1 : ST) (i1_1 : Nat), INV t1 → Fr [(0, 0)] [(1, 1)] σ t1 → i1_1 ≤ 6 → fX8_adopt_0l2 fu (nI i1_1) t1 = R → 6 - i1_1 < fu → ∀ (H : Heap) (locs : List Loc) (ls : Array Slot), HW g t1 s H locs → lv_has ls 2 [(1, .int (nI i1_1)), (0, .ref (g.2.1 1))] → W p l e { frames := 0, cells := 0, slots := 0, locals := 0 } s m args below meth c H locs 0 0 (MQ below PQz args s 0 0 (Aw g)) (F0 m 2 ls []) := by
    intro fu1
    induction fu1 with
    | zero => intro t1 i1_1 hI_1 hF_1 bi1_1 hR1 hm; exact absurd hm (Nat.not_lt_zero _)
    | succ fu1 ih =>
      have ih1 := ih
      clear ih
      intro t1 i1_1 hI_1 hF_1 bi1_1 hR1 hm1 H locs ls h hl
      replace hR1 : fX8_adopt_0b2 (fX8_adopt_0l2 fu1) (nI i1_1) t1 = R := hR1
      refine lv_iload_n hx hb dX8_adopt_2 rfl (lv_at hl 0 rfl) ?_
      refine lv_bipush (v := 6) hx hb dX8_adopt_3 (by decide) ?_
      refine lv_icmp_ge (tgt := 44) hx hb dX8_adopt_5 (by decide) (fun c2 => ?_) (fun c2 => ?_)
      · skip
        replace hR1 := it_t hR1 c2
        have b3 : 6 ≤ i1_1 := y_le (a := 6) (b := i1_1) (by omega) (by omega) c2
        refine lv_aload_n hx hb dX8_adopt_44 rfl (lv_at hl 1 rfl) ?_
        refine lv_iconst (v := 0) hx hb dX8_adopt_45 (by decide) ?_
        refine y_putI E h hI_1 hF_1 (ty := .int) (v := nI 0) (fi_rt_length g) rfl hwX8 tyX8_ok nmX8 (by decide) (by decide +kernel) (by decide +kernel) (by decide +kernel) rfl rfl (ba_some rfl (Bd.mk (n := 0) (by omega))) rfl dX8_adopt_46 (fun s4 H locs q4 hI4 hF4 h => ?_)
        replace hR1 := bd_to hR1 q4.symm
        have e5 : s4.1 0 = nI 0 := congrArg (fun t : ST => t.1 0) q4
        subst hPQ
        exact x_vret E h ⟨hR0.trans hR1.symm, hI4, hF4⟩ dX8_adopt_49
      · skip
        replace hR1 := it_f hR1 c2
        have b6 : i1_1 < 6 := y_nle (a := 6) (b := i1_1) (by omega) (by omega) c2
        refine lv_aload_n hx hb dX8_adopt_8 rfl (lv_at hl 1 rfl) ?_
        refine x_getR E h (fr_rt_now g) rfl hwX8 (by decide) (by decide +kernel) dX8_adopt_9 ?_
        refine lv_iload_n hx hb dX8_adopt_12 rfl (lv_at hl 0 rfl) ?_
        refine lv_aload_n hx hb dX8_adopt_13 rfl (lv_at hl 1 rfl) ?_
        refine x_getR E h (fr_rt_told g) rfl hwX8 (by decide) (by decide +kernel) dX8_adopt_14 ?_
        refine lv_iload_n hx hb dX8_adopt_17 rfl (lv_at hl 0 rfl) ?_
        refine x_ldI E h (ia_rt_told g) (i := nI i1_1) (vp_in_nI (by omega) (by decide)) (v := t1.2.2 2 i1_1) (congrArg (t1.2.2 2) (nI_clamp (n := i1_1) (by omega))) dX8_adopt_18 ?_
        replace hR1 := bd_to hR1 (congrArg (t1.2.2 2) (nI_clamp (n := i1_1) (by omega)))
        refine lv_iconst (v := (-1)) hx hb dX8_adopt_19 (by decide) ?_
        have j37_9 : ∀ (y9_s0 : Int32), fX8_adopt_0b37 (fX8_adopt_0l2 fu1) (nI i1_1) y9_s0 (nI i1_1) t1 = R → ∀ (H : Heap) (locs : List Loc) (ls : Array Slot), HW g t1 s H locs → lv_has ls 2 [(1, .int (nI i1_1)), (0, .ref (g.2.1 1))] → W p l e { frames := 0, cells := 0, slots := 0, locals := 0 } s m args below meth c H locs 0 0 (MQ below PQz args s 0 0 (Aw g)) (F0 m 37 ls [.int y9_s0, .int (nI i1_1), .ref (g.2.1 3)]) := by
          intro y9_s0 hR9 H locs ls h hl
          refine y_stI E h hI_1 hF_1 (ia_rt_now g) (i := nI i1_1) (vp_in_nI (by omega) (by decide)) (j := i1_1) (nI_clamp (by omega)) (ba_none rfl) rfl dX8_adopt_37 (fun s10 H locs q10 hI10 hF10 h => ?_)
          replace hR9 := st_to hR9 (nI_clamp (n := i1_1) (by omega)) q10
          replace hR9 := bd_to hR9 (nI_add i1_1 1)
          refine lv_iinc (v := (nI (i1_1 + 1))) (lv' := [(1, .int (nI (i1_1 + 1))), (0, .ref (g.2.1 1))]) hx hb dX8_adopt_38 hl (k := 0) rfl (nI_add i1_1 1) (by decide) rfl (fun ls hl => ?_)
          refine lv_goto (tgt := 2) hx hb dX8_adopt_41 (by decide) ?_
          exact ih1 s10 (i1_1 + 1) hI10 hF10 (by omega) hR9 (by omega) _ _ _ h (lv_sub hl [0, 1] rfl)
        refine lv_icmp_ne (tgt := 31) hx hb dX8_adopt_20 (by decide) (fun c7 => ?_) (fun c7 => ?_)
        · skip
          replace hR1 := it_f hR1 c7
          refine lv_aload_n hx hb dX8_adopt_31 rfl (lv_at hl 1 rfl) ?_
          refine x_getR E h (fr_rt_told g) rfl hwX8 (by decide) (by decide +kernel) dX8_adopt_32 ?_
          refine lv_iload_n hx hb dX8_adopt_35 rfl (lv_at hl 0 rfl) ?_
          refine x_ldI E h (ia_rt_told g) (i := nI i1_1) (vp_in_nI (by omega) (by decide)) (v := t1.2.2 2 i1_1) (congrArg (t1.2.2 2) (nI_clamp (n := i1_1) (by omega))) dX8_adopt_36 ?_
          replace hR1 := bd_to hR1 (congrArg (t1.2.2 2) (nI_clamp (n := i1_1) (by omega)))
          exact j37_9 (t1.2.2 2 i1_1) hR1 _ _ _ h (lv_sub hl [0, 1] rfl)
        · skip
          replace hR1 := it_t hR1 c7
          refine x_gets0 E h (by decide +kernel) dX8_adopt_23 ?_
          refine lv_iload_n hx hb dX8_adopt_26 rfl (lv_at hl 0 rfl) ?_
          obtain ⟨v12, e12⟩ := y_tab0 (nI i1_1).toNatClampNeg
          refine x_tab0 E h (i := nI i1_1) (v := v12) (vp_in_nI (by omega) (by decide)) e12 dX8_adopt_27 ?_
          replace hR1 := bd_to hR1 (tab0_e e12)
          refine lv_goto (tgt := 37) hx hb dX8_adopt_28 (by decide) ?_
          exact j37_9 v12 hR1 _ _ _ h (lv_sub hl [0, 1] rfl)
  exact loop2_1 4096 σ 0 hI hF (Nat.zero_le _) hR (by omega) _ _ _ h (lv_sub hl [0, 1] rfl)
set_option maxHeartbeats 4000000 in
set_option maxRecDepth 100000 in
theorem aX8_wordOf_0 (l : Launch) (g : CX) (σ : ST) (hI : INV σ) (p0 : Int32) : XM l g yX8_wordOf wsX8_wordOf { frames := 0, cells := 0, slots := 0, locals := 0 } [.int p0] σ (XQr g (fun r σ' => (∃ i : Nat, i < 6 ∧ 210 + i = r ∧ fX8_wordOf_0 p0 σ = i) ∧ σ = σ')) := by
  refine x_met (own := RX8) (cc := cX8_wordOf) (maxL := 1) (ret := (some (.object "java/lang/String"))) (lv := [(0, .int p0)]) (by decide) rfl rfl (Nat.le_of_ble_eq_true rfl) rfl ?_
  intro p e s m args below meth c ls E h hl
  have hx := E.1
  have hb := E.2.1
  have hown := E.2.2.2.1
  have hts := E.2.2.2.2.1
  obtain ⟨R, hR0⟩ : ∃ R, fX8_wordOf_0 p0 σ = R := ⟨_, rfl⟩
  have hR : fX8_wordOf_0b0 p0 σ = R := hR0
  generalize hPQ : XQr g (fun r σ' => (∃ i : Nat, i < 6 ∧ 210 + i = r ∧ fX8_wordOf_0 p0 σ = i) ∧ σ = σ') = PQz
  refine lv_iload_n hx hb dX8_wordOf_0 rfl (lv_at hl 0 rfl) ?_
  by_cases c_1_0 : p0 = 0
  · refine x_topI (v2 := 0) c_1_0 ?_
    replace hR := it_t hR c_1_0
    refine lv_tableIn (tgt := 36) (off := 35) hx hb dX8_wordOf_1 (by decide) (by decide) (by decide) (by decide) ?_
    refine z_ldc E (i := 0) (by decide) rfl dX8_wordOf_36 ?_
    subst hPQ
    exact x_aret E h (Or.inl ⟨_, rfl⟩) ⟨⟨0, by decide, rfl, hR0.trans hR.symm⟩, rfl⟩ dX8_wordOf_38
  replace hR := it_f hR c_1_0
  by_cases c_1_1 : p0 = 1
  · refine x_topI (v2 := 1) c_1_1 ?_
    replace hR := it_t hR c_1_1
    refine lv_tableIn (tgt := 39) (off := 38) hx hb dX8_wordOf_1 (by decide) (by decide) (by decide) (by decide) ?_
    refine z_ldc E (i := 1) (by decide) rfl dX8_wordOf_39 ?_
    subst hPQ
    exact x_aret E h (Or.inl ⟨_, rfl⟩) ⟨⟨1, by decide, rfl, hR0.trans hR.symm⟩, rfl⟩ dX8_wordOf_41
  replace hR := it_f hR c_1_1
  by_cases c_1_2 : p0 = 2
  · refine x_topI (v2 := 2) c_1_2 ?_
    replace hR := it_t hR c_1_2
    refine lv_tableIn (tgt := 42) (off := 41) hx hb dX8_wordOf_1 (by decide) (by decide) (by decide) (by decide) ?_
    refine z_ldc E (i := 2) (by decide) rfl dX8_wordOf_42 ?_
    subst hPQ
    exact x_aret E h (Or.inl ⟨_, rfl⟩) ⟨⟨2, by decide, rfl, hR0.trans hR.symm⟩, rfl⟩ dX8_wordOf_44
  replace hR := it_f hR c_1_2
  by_cases c_1_3 : p0 = 3
  · refine x_topI (v2 := 3) c_1_3 ?_
    replace hR := it_t hR c_1_3
    refine lv_tableIn (tgt := 45) (off := 44) hx hb dX8_wordOf_1 (by decide) (by decide) (by decide) (by decide) ?_
    refine z_ldc E (i := 3) (by decide) rfl dX8_wordOf_45 ?_
    subst hPQ
    exact x_aret E h (Or.inl ⟨_, rfl⟩) ⟨⟨3, by decide, rfl, hR0.trans hR.symm⟩, rfl⟩ dX8_wordOf_47
  replace hR := it_f hR c_1_3
  by_cases c_1_4 : p0 = 4
  · refine x_topI (v2 := 4) c_1_4 ?_
    replace hR := it_t hR c_1_4
    refine lv_tableIn (tgt := 48) (off := 47) hx hb dX8_wordOf_1 (by decide) (by decide) (by decide) (by decide) ?_
    refine z_ldc E (i := 4) (by decide) rfl dX8_wordOf_48 ?_
    subst hPQ
    exact x_aret E h (Or.inl ⟨_, rfl⟩) ⟨⟨4, by decide, rfl, hR0.trans hR.symm⟩, rfl⟩ dX8_wordOf_50
  replace hR := it_f hR c_1_4
  refine lv_tableOut (tgt := 51) hx hb dX8_wordOf_1 (x_out4 c_1_0 c_1_1 c_1_2 c_1_3 c_1_4) (by decide) ?_
  refine z_ldc E (i := 5) (by decide) rfl dX8_wordOf_51 ?_
  subst hPQ
  exact x_aret E h (Or.inl ⟨_, rfl⟩) ⟨⟨5, by decide, rfl, hR0.trans hR.symm⟩, rfl⟩ dX8_wordOf_53
set_option maxHeartbeats 4000000 in
set_option maxRecDepth 100000 in
theorem aX8_isWord_0 (l : Launch) (g : CX) (σ : ST) (hI : INV σ) (p1 : Nat) (p2 : Nat) (p3 : Nat) (hh0 : p2 ≤ p3) (hh1 : p3 ≤ 200) (hh2 : p1 < 6) : XM l g yX8_isWord wsX8_isWord { frames := 4, cells := 0, slots := 0, locals := 85 } [.ref (g.2.1 1), .ref (g.2.1 (210 + p1)), .int (nI p2), .int (nI p3)] σ (XQi g (fun r σ' => fX8_isWord_0 p1 (nI p2) (nI p3) σ = r ∧ σ = σ')) := by
  refine x_met (own := RX8) (cc := cX8_isWord) (maxL := 5) (ret := (some .boolean)) (lv := [(0, .ref (g.2.1 1)), (1, .ref (g.2.1 (210 + p1))), (2, .int (nI p2)), (3, .int (nI p3))]) (by decide) rfl rfl (Nat.le_of_ble_eq_true rfl) rfl ?_
  intro p e s m args below meth c ls E h hl
  have hx := E.1
  have hb := E.2.1
  have hown := E.2.2.2.1
  have hts := E.2.2.2.2.1
  obtain ⟨R, hR0⟩ : ∃ R, fX8_isWord_0 p1 (nI p2) (nI p3) σ = R := ⟨_, rfl⟩
  have hR : fX8_isWord_0b0 p1 (nI p2) (nI p3) σ = R := hR0
  have hwX8 : ∀ w ∈ wsX80, w ∈ wsX8_isWord := by decide +kernel
  generalize hPQ : XQi g (fun r σ' => fX8_isWord_0 p1 (nI p2) (nI p3) σ = r ∧ σ = σ') = PQz
  refine lv_iload_n hx hb dX8_isWord_0 rfl (lv_at hl 3 rfl) ?_
  refine lv_iload_n hx hb dX8_isWord_1 rfl (lv_at hl 2 rfl) ?_
  refine lv_isub hx hb dX8_isWord_2 ?_
  refine x_topI (v2 := nI (p3 - p2)) (pk_sub (a := p3) (b := p2) (by omega)) ?_
  replace hR := bd_to hR (pk_sub (a := p3) (b := p2) (by omega))
  refine lv_aload_n hx hb dX8_isWord_3 rfl (lv_at hl 1 rfl) ?_
  refine z_vi E h (i := p1) (na := 0) (As := []) (by omega) (zJ0_length_8abf5 l g _ (i := p1) (by omega)) gX8_isWord_J0_length_8abf5 rfl ⟨rfl, rfl⟩ rfl (by decide +kernel) ⟨Nat.le_of_ble_eq_true rfl, Nat.le_of_ble_eq_true rfl⟩ hl.1 rfl (Nat.le_of_ble_eq_true rfl) dX8_isWord_4 ⟨Nat.le_of_ble_eq_true rfl, Nat.le_of_ble_eq_true rfl⟩ (fun r1 s1 H locs q1 h => ?_)
  rcases q1 with ⟨rfl, rfl⟩
  have b1 := lenS_b p1 (by omega)
  replace hR := bd_to hR rfl
  refine lv_icmp_eq (tgt := 12) hx hb dX8_isWord_7 (by decide) (fun c2 => ?_) (fun c2 => ?_)
  · skip
    replace hR := it_t hR c2
    have b3 : (p3 - p2) = (lenS.getD p1 0) := y_eq (a := (p3 - p2)) (b := (lenS.getD p1 0)) (by omega) (by omega) c2
    refine lv_iconst (v := 0) hx hb dX8_isWord_12 (by decide) ?_
    refine lv_istore (lv' := [(4, .int 0), (0, .ref (g.2.1 1)), (1, .ref (g.2.1 (210 + p1))), (2, .int (nI p2)), (3, .int (nI p3))]) hx hb dX8_isWord_13 hl (by decide) rfl (fun ls hl => ?_)
    have loop15_4 : ∀ (fu : Nat) (i4_4 : Nat), i4_4 ≤ 6 → fX8_isWord_0l15 fu p1 (nI p2) (nI i4_4) σ = R → 6 - i4_4 < fu → ∀ (H : Heap) (locs : List Loc) (ls : Array Slot), HW g σ s H locs → lv_has ls 5 [(4, .int (nI i4_4)), (0, .ref (g.2.1 1)), (1, .ref (g.2.1 (210 + p1))), (2, .int (nI p2)), (3, .int (nI p3))] → W p l e { frames := 4, cells := 0, slots := 0, locals := 85 } s m args below meth c H locs 0 0 (MQ below PQz args s 0 0 (Aw g)) (F0 m 15 ls []) := by
      intro fu4
      induction fu4 with
      | zero => intro i4_4 bi4_4 hR4 hm; exact absurd hm (Nat.not_lt_zero _)
      | succ fu4 ih =>
        have ih4 := ih
        clear ih
        intro i4_4 bi4_4 hR4 hm4 H locs ls h hl
        replace hR4 : fX8_isWord_0b15 (fX8_isWord_0l15 fu4) p1 (nI p2) (nI i4_4) σ = R := hR4
        refine lv_iload hx hb dX8_isWord_15 (lv_at hl 0 rfl) ?_
        refine lv_aload_n hx hb dX8_isWord_17 rfl (lv_at hl 2 rfl) ?_
        refine z_vi E h (i := p1) (na := 0) (As := []) (by omega) (zJ0_length_8abf5 l g _ (i := p1) (by omega)) gX8_isWord_J0_length_8abf5 rfl ⟨rfl, rfl⟩ rfl (by decide +kernel) ⟨Nat.le_of_ble_eq_true rfl, Nat.le_of_ble_eq_true rfl⟩ hl.1 rfl (Nat.le_of_ble_eq_true rfl) dX8_isWord_18 ⟨Nat.le_of_ble_eq_true rfl, Nat.le_of_ble_eq_true rfl⟩ (fun r5 s5 H locs q5 h => ?_)
        rcases q5 with ⟨rfl, rfl⟩
        have b5 := lenS_b p1 (by omega)
        replace hR4 := bd_to hR4 rfl
        refine lv_icmp_ge (tgt := 50) hx hb dX8_isWord_21 (by decide) (fun c6 => ?_) (fun c6 => ?_)
        · skip
          replace hR4 := it_t hR4 c6
          have b7 : (lenS.getD p1 0) ≤ i4_4 := y_le (a := (lenS.getD p1 0)) (b := i4_4) (by omega) (by omega) c6
          refine lv_iconst (v := 1) hx hb dX8_isWord_50 (by decide) ?_
          subst hPQ
          exact x_zret E h rfl ⟨hR0.trans hR4.symm, rfl⟩ dX8_isWord_51
        · skip
          replace hR4 := it_f hR4 c6
          have b8 : i4_4 < (lenS.getD p1 0) := y_nle (a := (lenS.getD p1 0)) (b := i4_4) (by omega) (by omega) c6
          refine lv_aload_n hx hb dX8_isWord_24 rfl (lv_at hl 1 rfl) ?_
          refine x_getR E h (fr_rt_bytes g) rfl hwX8 (by decide) (by decide +kernel) dX8_isWord_25 ?_
          refine lv_iload_n hx hb dX8_isWord_28 rfl (lv_at hl 3 rfl) ?_
          refine lv_iload hx hb dX8_isWord_29 (lv_at hl 0 rfl) ?_
          refine lv_iadd hx hb dX8_isWord_31 ?_
          refine x_topI (v2 := nI (p2 + i4_4)) (nI_add p2 i4_4) ?_
          replace hR4 := bd_to hR4 (nI_add p2 i4_4)
          refine x_ldI E h (ia_rt_bytes g) (i := nI (p2 + i4_4)) (vp_in_nI (by omega) (by decide)) (v := σ.2.2 0 (p2 + i4_4)) (congrArg (σ.2.2 0) (nI_clamp (n := p2 + i4_4) (by omega))) dX8_isWord_32 ?_
          replace hR4 := bd_to hR4 (congrArg (σ.2.2 0) (nI_clamp (n := p2 + i4_4) (by omega)))
          refine lv_aload_n hx hb dX8_isWord_33 rfl (lv_at hl 2 rfl) ?_
          refine lv_iload hx hb dX8_isWord_34 (lv_at hl 0 rfl) ?_
          refine z_vi E h (i := p1) (na := 1) (As := [.int (nI i4_4)]) (by omega) (zJ0_charAt_5068e l g _ (i := p1) (k := i4_4) (by omega) (by omega)) gX8_isWord_J0_charAt_5068e rfl ⟨rfl, rfl⟩ rfl (by decide +kernel) ⟨Nat.le_of_ble_eq_true rfl, Nat.le_of_ble_eq_true rfl⟩ hl.1 rfl (Nat.le_of_ble_eq_true rfl) dX8_isWord_36 ⟨Nat.le_of_ble_eq_true rfl, Nat.le_of_ble_eq_true rfl⟩ (fun r9 s9 H locs q9 h => ?_)
          obtain ⟨d9, rfl⟩ := q9
          replace hR4 := bd_to hR4 ((congrArg (chS p1) (nI_clamp (n := i4_4) (by omega))).trans d9.2)
          refine lv_icmp_eq (tgt := 44) hx hb dX8_isWord_39 (by decide) (fun c10 => ?_) (fun c10 => ?_)
          · skip
            replace hR4 := it_t hR4 c10
            replace hR4 := bd_to hR4 (nI_add i4_4 1)
            refine lv_iinc (v := (nI (i4_4 + 1))) (lv' := [(4, .int (nI (i4_4 + 1))), (0, .ref (g.2.1 1)), (1, .ref (g.2.1 (210 + p1))), (2, .int (nI p2)), (3, .int (nI p3))]) hx hb dX8_isWord_44 hl (k := 0) rfl (nI_add i4_4 1) (by decide) rfl (fun ls hl => ?_)
            refine lv_goto (tgt := 15) hx hb dX8_isWord_47 (by decide) ?_
            exact ih4 (i4_4 + 1) (by omega) hR4 (by omega) _ _ _ h (lv_sub hl [0, 1, 2, 3, 4] rfl)
          · skip
            replace hR4 := it_f hR4 c10
            refine lv_iconst (v := 0) hx hb dX8_isWord_42 (by decide) ?_
            subst hPQ
            exact x_zret E h rfl ⟨hR0.trans hR4.symm, rfl⟩ dX8_isWord_43
    exact loop15_4 4096 0 (Nat.zero_le _) hR (by omega) _ _ _ h (lv_sub hl [0, 1, 2, 3, 4] rfl)
  · skip
    replace hR := it_f hR c2
    have b13 : ¬ (p3 - p2) = (lenS.getD p1 0) := y_ne (a := (p3 - p2)) (b := (lenS.getD p1 0)) (by omega) (by omega) c2
    refine lv_iconst (v := 0) hx hb dX8_isWord_10 (by decide) ?_
    subst hPQ
    exact x_zret E h rfl ⟨hR0.trans hR.symm, rfl⟩ dX8_isWord_11
set_option maxHeartbeats 4000000 in
set_option maxRecDepth 100000 in
theorem aX8_isLetter_0 (l : Launch) (g : CX) (σ : ST) (hI : INV σ) (p0 : Int32) : XM l g yX8_isLetter wsX8_isLetter { frames := 0, cells := 0, slots := 0, locals := 0 } [.int p0] σ (XQi g (fun r σ' => fX8_isLetter_0 p0 σ = r ∧ σ = σ')) := by
  refine x_met (own := RX8) (cc := cX8_isLetter) (maxL := 1) (ret := (some .boolean)) (lv := [(0, .int p0)]) (by decide) rfl rfl (Nat.le_of_ble_eq_true rfl) rfl ?_
  intro p e s m args below meth c ls E h hl
  have hx := E.1
  have hb := E.2.1
  have hown := E.2.2.2.1
  have hts := E.2.2.2.2.1
  obtain ⟨R, hR0⟩ : ∃ R, fX8_isLetter_0 p0 σ = R := ⟨_, rfl⟩
  have hR : fX8_isLetter_0b0 p0 σ = R := hR0
  generalize hPQ : XQi g (fun r σ' => fX8_isLetter_0 p0 σ = r ∧ σ = σ') = PQz
  refine lv_iload_n hx hb dX8_isLetter_0 rfl (lv_at hl 0 rfl) ?_
  refine lv_bipush (v := 97) hx hb dX8_isLetter_1 (by decide) ?_
  refine lv_icmp_lt (tgt := 12) hx hb dX8_isLetter_3 (by decide) (fun c1 => ?_) (fun c1 => ?_)
  · skip
    replace hR := it_t hR c1
    refine lv_iload_n hx hb dX8_isLetter_12 rfl (lv_at hl 0 rfl) ?_
    refine lv_bipush (v := 65) hx hb dX8_isLetter_13 (by decide) ?_
    refine lv_icmp_lt (tgt := 28) hx hb dX8_isLetter_15 (by decide) (fun c3 => ?_) (fun c3 => ?_)
    · skip
      replace hR := it_t hR c3
      refine lv_iconst (v := 0) hx hb dX8_isLetter_28 (by decide) ?_
      replace hR : fX8_isLetter_0b29 0 σ = R := hR
      subst hPQ
      exact x_zret E h rfl ⟨hR0.trans hR.symm, rfl⟩ dX8_isLetter_29
    · skip
      replace hR := it_f hR c3
      obtain ⟨n6, b6, rfl⟩ := y_rlt (N := 97) (y_lo1 c3 (by decide)) c1 (by omega)
      have b7 : n6 < 97 := y_lt (a := n6) (b := 97) (by omega) (by omega) c1
      have b8 : 65 ≤ n6 := y_nlt (a := n6) (b := 65) (by omega) (by omega) c3
      refine lv_iload_n hx hb dX8_isLetter_18 rfl (lv_at hl 0 rfl) ?_
      refine lv_bipush (v := 90) hx hb dX8_isLetter_19 (by decide) ?_
      refine lv_icmp_gt (tgt := 28) hx hb dX8_isLetter_21 (by decide) (fun c9 => ?_) (fun c9 => ?_)
      · skip
        replace hR := it_t hR c9
        have b10 : 90 < n6 := y_lt (a := 90) (b := n6) (by omega) (by omega) c9
        refine lv_iconst (v := 0) hx hb dX8_isLetter_28 (by decide) ?_
        replace hR : fX8_isLetter_0b29 0 σ = R := hR
        subst hPQ
        exact x_zret E h rfl ⟨hR0.trans hR.symm, rfl⟩ dX8_isLetter_29
      · skip
        replace hR := it_f hR c9
        have b11 : n6 ≤ 90 := y_nlt (a := 90) (b := n6) (by omega) (by omega) c9
        refine lv_iconst (v := 1) hx hb dX8_isLetter_24 (by decide) ?_
        refine lv_goto (tgt := 29) hx hb dX8_isLetter_25 (by decide) ?_
        replace hR : fX8_isLetter_0b29 1 σ = R := hR
        subst hPQ
        exact x_zret E h rfl ⟨hR0.trans hR.symm, rfl⟩ dX8_isLetter_29
  · skip
    replace hR := it_f hR c1
    refine lv_iload_n hx hb dX8_isLetter_6 rfl (lv_at hl 0 rfl) ?_
    refine lv_bipush (v := 122) hx hb dX8_isLetter_7 (by decide) ?_
    refine lv_icmp_le (tgt := 24) hx hb dX8_isLetter_9 (by decide) (fun c13 => ?_) (fun c13 => ?_)
    · skip
      replace hR := it_t hR c13
      obtain ⟨n15, b15, rfl⟩ := y_rle (N := 122) (y_lo1 c1 (by decide)) c13 (by omega)
      have b16 : 97 ≤ n15 := y_nlt (a := n15) (b := 97) (by omega) (by omega) c1
      have b17 : n15 ≤ 122 := y_le (a := n15) (b := 122) (by omega) (by omega) c13
      refine lv_iconst (v := 1) hx hb dX8_isLetter_24 (by decide) ?_
      refine lv_goto (tgt := 29) hx hb dX8_isLetter_25 (by decide) ?_
      replace hR : fX8_isLetter_0b29 1 σ = R := hR
      subst hPQ
      exact x_zret E h rfl ⟨hR0.trans hR.symm, rfl⟩ dX8_isLetter_29
    · skip
      replace hR := it_f hR c13
      refine lv_iload_n hx hb dX8_isLetter_12 rfl (lv_at hl 0 rfl) ?_
      refine lv_bipush (v := 65) hx hb dX8_isLetter_13 (by decide) ?_
      refine lv_icmp_lt (tgt := 28) hx hb dX8_isLetter_15 (by decide) (fun c19 => ?_) (fun c19 => ?_)
      · skip
        replace hR := it_t hR c19
        obtain ⟨n21, b21, rfl⟩ := y_rlt (N := 65) (y_lo1 c1 (by decide)) c19 (by omega)
        have b22 : 97 ≤ n21 := y_nlt (a := n21) (b := 97) (by omega) (by omega) c1
        have b23 : 122 < n21 := y_nle (a := n21) (b := 122) (by omega) (by omega) c13
        have b24 : n21 < 65 := y_lt (a := n21) (b := 65) (by omega) (by omega) c19
        refine lv_iconst (v := 0) hx hb dX8_isLetter_28 (by decide) ?_
        replace hR : fX8_isLetter_0b29 0 σ = R := hR
        subst hPQ
        exact x_zret E h rfl ⟨hR0.trans hR.symm, rfl⟩ dX8_isLetter_29
      · skip
        replace hR := it_f hR c19
        refine lv_iload_n hx hb dX8_isLetter_18 rfl (lv_at hl 0 rfl) ?_
        refine lv_bipush (v := 90) hx hb dX8_isLetter_19 (by decide) ?_
        refine lv_icmp_gt (tgt := 28) hx hb dX8_isLetter_21 (by decide) (fun c26 => ?_) (fun c26 => ?_)
        · skip
          replace hR := it_t hR c26
          refine lv_iconst (v := 0) hx hb dX8_isLetter_28 (by decide) ?_
          replace hR : fX8_isLetter_0b29 0 σ = R := hR
          subst hPQ
          exact x_zret E h rfl ⟨hR0.trans hR.symm, rfl⟩ dX8_isLetter_29
        · skip
          replace hR := it_f hR c26
          obtain ⟨n29, b29, rfl⟩ := y_rnlt (N := 90) (y_lo1 c19 (by decide)) c26 (by omega)
          have b30 : 97 ≤ n29 := y_nlt (a := n29) (b := 97) (by omega) (by omega) c1
          have b31 : 122 < n29 := y_nle (a := n29) (b := 122) (by omega) (by omega) c13
          have b32 : 65 ≤ n29 := y_nlt (a := n29) (b := 65) (by omega) (by omega) c19
          have b33 : n29 ≤ 90 := y_nlt (a := 90) (b := n29) (by omega) (by omega) c26
          refine lv_iconst (v := 1) hx hb dX8_isLetter_24 (by decide) ?_
          refine lv_goto (tgt := 29) hx hb dX8_isLetter_25 (by decide) ?_
          replace hR : fX8_isLetter_0b29 1 σ = R := hR
          subst hPQ
          exact x_zret E h rfl ⟨hR0.trans hR.symm, rfl⟩ dX8_isLetter_29
set_option maxHeartbeats 4000000 in
set_option maxRecDepth 100000 in
theorem aX8_readWord_0 (l : Launch) (g : CX) (σ : ST) (hI : INV σ)  : XM l g yX8_readWord wsX8_readWord { frames := 5, cells := 0, slots := 0, locals := 109 } [.ref (g.2.1 1)] σ (XQi g (fun r σ' => fX8_readWord_0 σ = (r, σ') ∧ Opt (-1) 6 r ∧ INV σ' ∧ Fr [(1, 1)] [] σ σ')) := by
  refine x_met (own := RX8) (cc := cX8_readWord) (maxL := 3) (ret := (some .int)) (lv := [(0, .ref (g.2.1 1))]) (by decide) rfl rfl (Nat.le_of_ble_eq_true rfl) rfl ?_
  intro p e s m args below meth c ls E h hl
  have hx := E.1
  have hb := E.2.1
  have hown := E.2.2.2.1
  have hts := E.2.2.2.2.1
  have hF : Fr [(1, 1)] [] σ σ := Fr.refl σ
  obtain ⟨R, hR0⟩ : ∃ R, fX8_readWord_0 σ = R := ⟨_, rfl⟩
  have hR : fX8_readWord_0b0 σ = R := hR0
  have hwX8 : ∀ w ∈ wsX80, w ∈ wsX8_readWord := by decide +kernel
  generalize hPQ : XQi g (fun r σ' => fX8_readWord_0 σ = (r, σ') ∧ Opt (-1) 6 r ∧ INV σ' ∧ Fr [(1, 1)] [] σ σ') = PQz
  refine lv_aload_n hx hb dX8_readWord_0 rfl (lv_at hl 0 rfl) ?_
  obtain ⟨n1, b1, e1⟩ := hI.1 1 200 rfl
  refine x_getI E h (fi_rt_at g) rfl hwX8 (by decide) (by decide +kernel) (v := nI n1) e1 dX8_readWord_1 ?_
  replace hR := bd_to hR e1
  refine lv_istore_n (lv' := [(1, .int (nI n1)), (0, .ref (g.2.1 1))]) hx hb dX8_readWord_4 rfl hl (by decide) rfl (fun ls hl => ?_)
  obtain ⟨n3, b3, e3⟩ := hI.1 0 200 rfl
  have loop5_2 : ∀ (fu : Nat) (t2 : ST) (f2_1 : Nat), INV t2 → Fr [(1, 1)] [] σ t2 → t2.1 0 = nI n3 → t2.1 1 = nI f2_1 → f2_1 ≤ 200 → n1 ≤ f2_1 → fX8_readWord_0l5 fu (nI n1) t2 = R → 200 - f2_1 < fu → ∀ (H : Heap) (locs : List Loc) (ls : Array Slot), HW g t2 s H locs → lv_has ls 3 [(1, .int (nI n1)), (0, .ref (g.2.1 1))] → W p l e { frames := 5, cells := 0, slots := 0, locals := 109 } s m args below meth c H locs 0 0 (MQ below PQz args s 0 0 (Aw g)) (F0 m 5 ls []) := by
    intro fu2
    induction fu2 with
    | zero => intro t2 f2_1 hI_2 hF_2 e4 ef2_1 pp2_0 pp2_1 hR2 hm; exact absurd hm (Nat.not_lt_zero _)
    | succ fu2 ih =>
      have ih2 := ih
      clear ih
      intro t2 f2_1 hI_2 hF_2 e4 ef2_1 pp2_0 pp2_1 hR2 hm2 H locs ls h hl
      replace hR2 : fX8_readWord_0b5 (fX8_readWord_0l5 fu2) (nI n1) t2 = R := hR2
      refine lv_aload_n hx hb dX8_readWord_5 rfl (lv_at hl 1 rfl) ?_
      refine x_getI E h (fi_rt_at g) rfl hwX8 (by decide) (by decide +kernel) (v := nI f2_1) ef2_1 dX8_readWord_6 ?_
      replace hR2 := bd_to hR2 ef2_1
      refine lv_aload_n hx hb dX8_readWord_9 rfl (lv_at hl 1 rfl) ?_
      refine x_getI E h (fi_rt_length g) rfl hwX8 (by decide) (by decide +kernel) (v := nI n3) e4 dX8_readWord_10 ?_
      replace hR2 := bd_to hR2 e4
      refine lv_icmp_ge (tgt := 44) hx hb dX8_readWord_13 (by decide) (fun c5 => ?_) (fun c5 => ?_)
      · skip
        replace hR2 := it_t hR2 c5
        have b6 : n3 ≤ f2_1 := y_le (a := n3) (b := f2_1) (by omega) (by omega) c5
        refine lv_iconst (v := 0) hx hb dX8_readWord_44 (by decide) ?_
        refine lv_istore_n (lv' := [(2, .int 0), (1, .int (nI n1)), (0, .ref (g.2.1 1))]) hx hb dX8_readWord_45 rfl hl (by decide) rfl (fun ls hl => ?_)
        have loop46_7 : ∀ (fu : Nat) (i7_2 : Nat), i7_2 ≤ 6 → fX8_readWord_0l46 fu (nI n1) (nI i7_2) t2 = R → 6 - i7_2 < fu → ∀ (H : Heap) (locs : List Loc) (ls : Array Slot), HW g t2 s H locs → lv_has ls 3 [(2, .int (nI i7_2)), (1, .int (nI n1)), (0, .ref (g.2.1 1))] → W p l e { frames := 5, cells := 0, slots := 0, locals := 109 } s m args below meth c H locs 0 0 (MQ below PQz args s 0 0 (Aw g)) (F0 m 46 ls []) := by
          intro fu7
          induction fu7 with
          | zero => intro i7_2 bi7_2 hR7 hm; exact absurd hm (Nat.not_lt_zero _)
          | succ fu7 ih =>
            have ih7 := ih
            clear ih
            intro i7_2 bi7_2 hR7 hm7 H locs ls h hl
            replace hR7 : fX8_readWord_0b46 (fX8_readWord_0l46 fu7) (nI n1) (nI i7_2) t2 = R := hR7
            refine lv_iload_n hx hb dX8_readWord_46 rfl (lv_at hl 0 rfl) ?_
            refine lv_bipush (v := 6) hx hb dX8_readWord_47 (by decide) ?_
            refine lv_icmp_ge (tgt := 76) hx hb dX8_readWord_49 (by decide) (fun c8 => ?_) (fun c8 => ?_)
            · skip
              replace hR7 := it_t hR7 c8
              have b9 : 6 ≤ i7_2 := y_le (a := 6) (b := i7_2) (by omega) (by omega) c8
              refine lv_iconst (v := (-1)) hx hb dX8_readWord_76 (by decide) ?_
              subst hPQ
              exact x_iret E h ⟨hR0.trans hR7.symm, (Or.inl rfl), hI_2, hF_2⟩ dX8_readWord_77
            · skip
              replace hR7 := it_f hR7 c8
              have b10 : i7_2 < 6 := y_nle (a := 6) (b := i7_2) (by omega) (by omega) c8
              refine lv_aload_n hx hb dX8_readWord_52 rfl (lv_at hl 2 rfl) ?_
              refine lv_iload_n hx hb dX8_readWord_53 rfl (lv_at hl 0 rfl) ?_
              refine x_sr E h (na := 1) (As := [.int (nI i7_2)]) (aX8_wordOf_0 l g t2 hI_2 (nI i7_2)) gX8_readWord_X8_wordOf rfl ⟨rfl, rfl⟩ rfl (by decide +kernel) ⟨Nat.le_of_ble_eq_true rfl, Nat.le_of_ble_eq_true rfl⟩ hl.1 rfl (Nat.le_of_ble_eq_true rfl) dX8_readWord_54 ⟨Nat.le_of_ble_eq_true rfl, Nat.le_of_ble_eq_true rfl⟩ (fun r11 s11 H locs q11 h => ?_)
              obtain ⟨d11, rfl⟩ := q11
              obtain ⟨i11, b11, rfl, x11⟩ := d11
              replace hR7 := bd_to hR7 x11
              refine lv_iload_n hx hb dX8_readWord_57 rfl (lv_at hl 1 rfl) ?_
              refine lv_aload_n hx hb dX8_readWord_58 rfl (lv_at hl 2 rfl) ?_
              refine x_getI E h (fi_rt_at g) rfl hwX8 (by decide) (by decide +kernel) (v := nI f2_1) ef2_1 dX8_readWord_59 ?_
              replace hR7 := bd_to hR7 ef2_1
              refine x_vi E h (na := 3) (As := [.ref (g.2.1 (210 + i11)), .int (nI n1), .int (nI f2_1)]) (aX8_isWord_0 l g t2 hI_2 i11 n1 f2_1 (by omega) (by omega) (by omega)) (oc_rt g) rfl gX8_readWord_X8_isWord rfl ⟨rfl, rfl⟩ rfl (by decide +kernel) ⟨Nat.le_of_ble_eq_true rfl, Nat.le_of_ble_eq_true rfl⟩ hl.1 rfl (Nat.le_of_ble_eq_true rfl) dX8_readWord_62 ⟨Nat.le_of_ble_eq_true rfl, Nat.le_of_ble_eq_true rfl⟩ (fun r12 s12 H locs q12 h => ?_)
              obtain ⟨x12, rfl⟩ := q12
              replace hR7 := bd_to hR7 x12
              refine lv_if_eq (tgt := 70) hx hb dX8_readWord_65 (by decide) (fun c13 => ?_) (fun c13 => ?_)
              · skip
                replace hR7 := it_t hR7 c13
                subst c13
                replace hR7 := bd_to hR7 (nI_add i7_2 1)
                refine lv_iinc (v := (nI (i7_2 + 1))) (lv' := [(2, .int (nI (i7_2 + 1))), (1, .int (nI n1)), (0, .ref (g.2.1 1))]) hx hb dX8_readWord_70 hl (k := 0) rfl (nI_add i7_2 1) (by decide) rfl (fun ls hl => ?_)
                refine lv_goto (tgt := 46) hx hb dX8_readWord_73 (by decide) ?_
                exact ih7 (i7_2 + 1) (by omega) hR7 (by omega) _ _ _ h (lv_sub hl [0, 1, 2] rfl)
              · skip
                replace hR7 := it_f hR7 c13
                refine lv_iload_n hx hb dX8_readWord_68 rfl (lv_at hl 0 rfl) ?_
                subst hPQ
                exact x_iret E h ⟨hR0.trans hR7.symm, (Or.inr ⟨i7_2, by omega, rfl⟩), hI_2, hF_2⟩ dX8_readWord_69
        exact loop46_7 4096 0 (Nat.zero_le _) hR2 (by omega) _ _ _ h (lv_sub hl [0, 1, 2] rfl)
      · skip
        replace hR2 := it_f hR2 c5
        have b16 : f2_1 < n3 := y_nle (a := n3) (b := f2_1) (by omega) (by omega) c5
        refine lv_aload_n hx hb dX8_readWord_16 rfl (lv_at hl 1 rfl) ?_
        refine x_getR E h (fr_rt_bytes g) rfl hwX8 (by decide) (by decide +kernel) dX8_readWord_17 ?_
        refine lv_aload_n hx hb dX8_readWord_20 rfl (lv_at hl 1 rfl) ?_
        refine x_getI E h (fi_rt_at g) rfl hwX8 (by decide) (by decide +kernel) (v := nI f2_1) ef2_1 dX8_readWord_21 ?_
        replace hR2 := bd_to hR2 ef2_1
        refine x_ldI E h (ia_rt_bytes g) (i := nI f2_1) (vp_in_nI (by omega) (by decide)) (v := t2.2.2 0 f2_1) (congrArg (t2.2.2 0) (nI_clamp (n := f2_1) (by omega))) dX8_readWord_24 ?_
        replace hR2 := bd_to hR2 (congrArg (t2.2.2 0) (nI_clamp (n := f2_1) (by omega)))
        refine x_si E h (na := 1) (As := [.int (t2.2.2 0 f2_1)]) (aX8_isLetter_0 l g t2 hI_2 (t2.2.2 0 f2_1)) gX8_readWord_X8_isLetter rfl ⟨rfl, rfl⟩ rfl (by decide +kernel) ⟨Nat.le_of_ble_eq_true rfl, Nat.le_of_ble_eq_true rfl⟩ hl.1 rfl (Nat.le_of_ble_eq_true rfl) dX8_readWord_25 ⟨Nat.le_of_ble_eq_true rfl, Nat.le_of_ble_eq_true rfl⟩ (fun r17 s17 H locs q17 h => ?_)
        obtain ⟨x17, rfl⟩ := q17
        replace hR2 := bd_to hR2 x17
        refine lv_if_eq (tgt := 44) hx hb dX8_readWord_28 (by decide) (fun c18 => ?_) (fun c18 => ?_)
        · skip
          replace hR2 := it_t hR2 c18
          subst c18
          refine lv_iconst (v := 0) hx hb dX8_readWord_44 (by decide) ?_
          refine lv_istore_n (lv' := [(2, .int 0), (1, .int (nI n1)), (0, .ref (g.2.1 1))]) hx hb dX8_readWord_45 rfl hl (by decide) rfl (fun ls hl => ?_)
          have loop46_20 : ∀ (fu : Nat) (i20_2 : Nat), i20_2 ≤ 6 → fX8_readWord_0l46 fu (nI n1) (nI i20_2) t2 = R → 6 - i20_2 < fu → ∀ (H : Heap) (locs : List Loc) (ls : Array Slot), HW g t2 s H locs → lv_has ls 3 [(2, .int (nI i20_2)), (1, .int (nI n1)), (0, .ref (g.2.1 1))] → W p l e { frames := 5, cells := 0, slots := 0, locals := 109 } s m args below meth c H locs 0 0 (MQ below PQz args s 0 0 (Aw g)) (F0 m 46 ls []) := by
            intro fu20
            induction fu20 with
            | zero => intro i20_2 bi20_2 hR20 hm; exact absurd hm (Nat.not_lt_zero _)
            | succ fu20 ih =>
              have ih20 := ih
              clear ih
              intro i20_2 bi20_2 hR20 hm20 H locs ls h hl
              replace hR20 : fX8_readWord_0b46 (fX8_readWord_0l46 fu20) (nI n1) (nI i20_2) t2 = R := hR20
              refine lv_iload_n hx hb dX8_readWord_46 rfl (lv_at hl 0 rfl) ?_
              refine lv_bipush (v := 6) hx hb dX8_readWord_47 (by decide) ?_
              refine lv_icmp_ge (tgt := 76) hx hb dX8_readWord_49 (by decide) (fun c21 => ?_) (fun c21 => ?_)
              · skip
                replace hR20 := it_t hR20 c21
                have b22 : 6 ≤ i20_2 := y_le (a := 6) (b := i20_2) (by omega) (by omega) c21
                refine lv_iconst (v := (-1)) hx hb dX8_readWord_76 (by decide) ?_
                subst hPQ
                exact x_iret E h ⟨hR0.trans hR20.symm, (Or.inl rfl), hI_2, hF_2⟩ dX8_readWord_77
              · skip
                replace hR20 := it_f hR20 c21
                have b23 : i20_2 < 6 := y_nle (a := 6) (b := i20_2) (by omega) (by omega) c21
                refine lv_aload_n hx hb dX8_readWord_52 rfl (lv_at hl 2 rfl) ?_
                refine lv_iload_n hx hb dX8_readWord_53 rfl (lv_at hl 0 rfl) ?_
                refine x_sr E h (na := 1) (As := [.int (nI i20_2)]) (aX8_wordOf_0 l g t2 hI_2 (nI i20_2)) gX8_readWord_X8_wordOf rfl ⟨rfl, rfl⟩ rfl (by decide +kernel) ⟨Nat.le_of_ble_eq_true rfl, Nat.le_of_ble_eq_true rfl⟩ hl.1 rfl (Nat.le_of_ble_eq_true rfl) dX8_readWord_54 ⟨Nat.le_of_ble_eq_true rfl, Nat.le_of_ble_eq_true rfl⟩ (fun r24 s24 H locs q24 h => ?_)
                obtain ⟨d24, rfl⟩ := q24
                obtain ⟨i24, b24, rfl, x24⟩ := d24
                replace hR20 := bd_to hR20 x24
                refine lv_iload_n hx hb dX8_readWord_57 rfl (lv_at hl 1 rfl) ?_
                refine lv_aload_n hx hb dX8_readWord_58 rfl (lv_at hl 2 rfl) ?_
                refine x_getI E h (fi_rt_at g) rfl hwX8 (by decide) (by decide +kernel) (v := nI f2_1) ef2_1 dX8_readWord_59 ?_
                replace hR20 := bd_to hR20 ef2_1
                refine x_vi E h (na := 3) (As := [.ref (g.2.1 (210 + i24)), .int (nI n1), .int (nI f2_1)]) (aX8_isWord_0 l g t2 hI_2 i24 n1 f2_1 (by omega) (by omega) (by omega)) (oc_rt g) rfl gX8_readWord_X8_isWord rfl ⟨rfl, rfl⟩ rfl (by decide +kernel) ⟨Nat.le_of_ble_eq_true rfl, Nat.le_of_ble_eq_true rfl⟩ hl.1 rfl (Nat.le_of_ble_eq_true rfl) dX8_readWord_62 ⟨Nat.le_of_ble_eq_true rfl, Nat.le_of_ble_eq_true rfl⟩ (fun r25 s25 H locs q25 h => ?_)
                obtain ⟨x25, rfl⟩ := q25
                replace hR20 := bd_to hR20 x25
                refine lv_if_eq (tgt := 70) hx hb dX8_readWord_65 (by decide) (fun c26 => ?_) (fun c26 => ?_)
                · skip
                  replace hR20 := it_t hR20 c26
                  subst c26
                  replace hR20 := bd_to hR20 (nI_add i20_2 1)
                  refine lv_iinc (v := (nI (i20_2 + 1))) (lv' := [(2, .int (nI (i20_2 + 1))), (1, .int (nI n1)), (0, .ref (g.2.1 1))]) hx hb dX8_readWord_70 hl (k := 0) rfl (nI_add i20_2 1) (by decide) rfl (fun ls hl => ?_)
                  refine lv_goto (tgt := 46) hx hb dX8_readWord_73 (by decide) ?_
                  exact ih20 (i20_2 + 1) (by omega) hR20 (by omega) _ _ _ h (lv_sub hl [0, 1, 2] rfl)
                · skip
                  replace hR20 := it_f hR20 c26
                  refine lv_iload_n hx hb dX8_readWord_68 rfl (lv_at hl 0 rfl) ?_
                  subst hPQ
                  exact x_iret E h ⟨hR0.trans hR20.symm, (Or.inr ⟨i20_2, by omega, rfl⟩), hI_2, hF_2⟩ dX8_readWord_69
          exact loop46_20 4096 0 (Nat.zero_le _) hR2 (by omega) _ _ _ h (lv_sub hl [0, 1, 2] rfl)
        · skip
          replace hR2 := it_f hR2 c18
          refine lv_aload_n hx hb dX8_readWord_31 rfl (lv_at hl 1 rfl) ?_
          refine lv_dup hx hb dX8_readWord_32 rfl ?_
          refine x_getI E h (fi_rt_at g) rfl hwX8 (by decide) (by decide +kernel) (v := nI f2_1) ef2_1 dX8_readWord_33 ?_
          replace hR2 := bd_to hR2 ef2_1
          refine lv_iconst (v := 1) hx hb dX8_readWord_36 (by decide) ?_
          refine lv_iadd hx hb dX8_readWord_37 ?_
          refine x_topI (v2 := nI (f2_1 + 1)) (nI_add f2_1 1) ?_
          replace hR2 := bd_to hR2 (nI_add f2_1 1)
          refine y_putI E h hI_2 hF_2 (ty := .int) (v := nI (f2_1 + 1)) (fi_rt_at g) rfl hwX8 tyX8_ok nmX8 (by decide) (by decide +kernel) (by decide +kernel) (by decide +kernel) rfl rfl (ba_some rfl (Bd.mk (n := (f2_1 + 1)) (by omega))) rfl dX8_readWord_38 (fun s30 H locs q30 hI30 hF30 h => ?_)
          replace hR2 := bd_to hR2 q30.symm
          have e31 : s30.1 0 = nI n3 := (congrArg (fun t : ST => t.1 0) q30).trans e4
          have e32 : s30.1 1 = nI (f2_1 + 1) := congrArg (fun t : ST => t.1 1) q30
          refine lv_goto (tgt := 5) hx hb dX8_readWord_41 (by decide) ?_
          exact ih2 s30 (f2_1 + 1) hI30 hF30 e31 e32 (by omega) (by omega) hR2 (by omega) _ _ _ h (lv_sub hl [0, 1] rfl)
  exact loop5_2 4096 σ n1 hI hF e3 e1 (by omega) (by omega) hR (by omega) _ _ _ h (lv_sub hl [0, 1] rfl)
set_option maxHeartbeats 4000000 in
set_option maxRecDepth 100000 in
theorem aX8_isDigit_0 (l : Launch) (g : CX) (σ : ST) (hI : INV σ) (p0 : Int32) : XM l g yX8_isDigit wsX8_isDigit { frames := 0, cells := 0, slots := 0, locals := 0 } [.int p0] σ (XQi g (fun r σ' => fX8_isDigit_0 p0 σ = r ∧ σ = σ')) := by
  refine x_met (own := RX8) (cc := cX8_isDigit) (maxL := 1) (ret := (some .boolean)) (lv := [(0, .int p0)]) (by decide) rfl rfl (Nat.le_of_ble_eq_true rfl) rfl ?_
  intro p e s m args below meth c ls E h hl
  have hx := E.1
  have hb := E.2.1
  have hown := E.2.2.2.1
  have hts := E.2.2.2.2.1
  obtain ⟨R, hR0⟩ : ∃ R, fX8_isDigit_0 p0 σ = R := ⟨_, rfl⟩
  have hR : fX8_isDigit_0b0 p0 σ = R := hR0
  generalize hPQ : XQi g (fun r σ' => fX8_isDigit_0 p0 σ = r ∧ σ = σ') = PQz
  refine lv_iload_n hx hb dX8_isDigit_0 rfl (lv_at hl 0 rfl) ?_
  refine lv_bipush (v := 48) hx hb dX8_isDigit_1 (by decide) ?_
  refine lv_icmp_lt (tgt := 16) hx hb dX8_isDigit_3 (by decide) (fun c1 => ?_) (fun c1 => ?_)
  · skip
    replace hR := it_t hR c1
    refine lv_iconst (v := 0) hx hb dX8_isDigit_16 (by decide) ?_
    replace hR : fX8_isDigit_0b17 0 σ = R := hR
    subst hPQ
    exact x_zret E h rfl ⟨hR0.trans hR.symm, rfl⟩ dX8_isDigit_17
  · skip
    replace hR := it_f hR c1
    refine lv_iload_n hx hb dX8_isDigit_6 rfl (lv_at hl 0 rfl) ?_
    refine lv_bipush (v := 57) hx hb dX8_isDigit_7 (by decide) ?_
    refine lv_icmp_gt (tgt := 16) hx hb dX8_isDigit_9 (by decide) (fun c4 => ?_) (fun c4 => ?_)
    · skip
      replace hR := it_t hR c4
      refine lv_iconst (v := 0) hx hb dX8_isDigit_16 (by decide) ?_
      replace hR : fX8_isDigit_0b17 0 σ = R := hR
      subst hPQ
      exact x_zret E h rfl ⟨hR0.trans hR.symm, rfl⟩ dX8_isDigit_17
    · skip
      replace hR := it_f hR c4
      obtain ⟨n7, b7, rfl⟩ := y_rnlt (N := 57) (y_lo1 c1 (by decide)) c4 (by omega)
      have b8 : 48 ≤ n7 := y_nlt (a := n7) (b := 48) (by omega) (by omega) c1
      have b9 : n7 ≤ 57 := y_nlt (a := 57) (b := n7) (by omega) (by omega) c4
      refine lv_iconst (v := 1) hx hb dX8_isDigit_12 (by decide) ?_
      refine lv_goto (tgt := 17) hx hb dX8_isDigit_13 (by decide) ?_
      replace hR : fX8_isDigit_0b17 1 σ = R := hR
      subst hPQ
      exact x_zret E h rfl ⟨hR0.trans hR.symm, rfl⟩ dX8_isDigit_17
set_option maxHeartbeats 4000000 in
set_option maxRecDepth 100000 in
theorem aX8_readNumber_0 (l : Launch) (g : CX) (σ : ST) (hI : INV σ)  : XM l g yX8_readNumber wsX8_readNumber { frames := 1, cells := 0, slots := 0, locals := 21 } [.ref (g.2.1 1)] σ (XQi g (fun r σ' => fX8_readNumber_0 σ = (r, σ') ∧ INV σ' ∧ Fr [(1, 1)] [] σ σ')) := by
  refine x_met (own := RX8) (cc := cX8_readNumber) (maxL := 4) (ret := (some .int)) (lv := [(0, .ref (g.2.1 1))]) (by decide) rfl rfl (Nat.le_of_ble_eq_true rfl) rfl ?_
  intro p e s m args below meth c ls E h hl
  have hx := E.1
  have hb := E.2.1
  have hown := E.2.2.2.1
  have hts := E.2.2.2.2.1
  have hF : Fr [(1, 1)] [] σ σ := Fr.refl σ
  obtain ⟨R, hR0⟩ : ∃ R, fX8_readNumber_0 σ = R := ⟨_, rfl⟩
  have hR : fX8_readNumber_0b0 σ = R := hR0
  have hwX8 : ∀ w ∈ wsX80, w ∈ wsX8_readNumber := by decide +kernel
  generalize hPQ : XQi g (fun r σ' => fX8_readNumber_0 σ = (r, σ') ∧ INV σ' ∧ Fr [(1, 1)] [] σ σ') = PQz
  refine lv_aload_n hx hb dX8_readNumber_0 rfl (lv_at hl 0 rfl) ?_
  obtain ⟨n1, b1, e1⟩ := hI.1 1 200 rfl
  refine x_getI E h (fi_rt_at g) rfl hwX8 (by decide) (by decide +kernel) (v := nI n1) e1 dX8_readNumber_1 ?_
  replace hR := bd_to hR e1
  refine lv_istore_n (lv' := [(1, .int (nI n1)), (0, .ref (g.2.1 1))]) hx hb dX8_readNumber_4 rfl hl (by decide) rfl (fun ls hl => ?_)
  refine lv_iconst (v := 0) hx hb dX8_readNumber_5 (by decide) ?_
  refine lv_istore_n (lv' := [(2, .int 0), (1, .int (nI n1)), (0, .ref (g.2.1 1))]) hx hb dX8_readNumber_6 rfl hl (by decide) rfl (fun ls hl => ?_)
  obtain ⟨n3, b3, e3⟩ := hI.1 0 200 rfl
  have loop7_2 : ∀ (fu : Nat) (t2 : ST) (f2_1 : Nat) (i2_2 : Int32), INV t2 → Fr [(1, 1)] [] σ t2 → t2.1 0 = nI n3 → t2.1 1 = nI f2_1 → f2_1 ≤ 200 → n1 ≤ f2_1 → fX8_readNumber_0l7 fu (nI n1) i2_2 t2 = R → 200 - f2_1 < fu → ∀ (H : Heap) (locs : List Loc) (ls : Array Slot), HW g t2 s H locs → lv_has ls 4 [(2, .int i2_2), (1, .int (nI n1)), (0, .ref (g.2.1 1))] → W p l e { frames := 1, cells := 0, slots := 0, locals := 21 } s m args below meth c H locs 0 0 (MQ below PQz args s 0 0 (Aw g)) (F0 m 7 ls []) := by
    intro fu2
    induction fu2 with
    | zero => intro t2 f2_1 i2_2 hI_2 hF_2 e4 ef2_1 pp2_0 pp2_1 hR2 hm; exact absurd hm (Nat.not_lt_zero _)
    | succ fu2 ih =>
      have ih2 := ih
      clear ih
      intro t2 f2_1 i2_2 hI_2 hF_2 e4 ef2_1 pp2_0 pp2_1 hR2 hm2 H locs ls h hl
      replace hR2 : fX8_readNumber_0b7 (fX8_readNumber_0l7 fu2) (nI n1) i2_2 t2 = R := hR2
      refine lv_aload_n hx hb dX8_readNumber_7 rfl (lv_at hl 2 rfl) ?_
      refine x_getI E h (fi_rt_at g) rfl hwX8 (by decide) (by decide +kernel) (v := nI f2_1) ef2_1 dX8_readNumber_8 ?_
      replace hR2 := bd_to hR2 ef2_1
      refine lv_aload_n hx hb dX8_readNumber_11 rfl (lv_at hl 2 rfl) ?_
      refine x_getI E h (fi_rt_length g) rfl hwX8 (by decide) (by decide +kernel) (v := nI n3) e4 dX8_readNumber_12 ?_
      replace hR2 := bd_to hR2 e4
      refine lv_icmp_ge (tgt := 70) hx hb dX8_readNumber_15 (by decide) (fun c5 => ?_) (fun c5 => ?_)
      · skip
        replace hR2 := it_t hR2 c5
        have b6 : n3 ≤ f2_1 := y_le (a := n3) (b := f2_1) (by omega) (by omega) c5
        refine lv_aload_n hx hb dX8_readNumber_70 rfl (lv_at hl 2 rfl) ?_
        refine x_getI E h (fi_rt_at g) rfl hwX8 (by decide) (by decide +kernel) (v := nI f2_1) ef2_1 dX8_readNumber_71 ?_
        replace hR2 := bd_to hR2 ef2_1
        refine lv_iload_n hx hb dX8_readNumber_74 rfl (lv_at hl 1 rfl) ?_
        refine lv_isub hx hb dX8_readNumber_75 ?_
        refine x_topI (v2 := nI (f2_1 - n1)) (pk_sub (a := f2_1) (b := n1) (by omega)) ?_
        replace hR2 := bd_to hR2 (pk_sub (a := f2_1) (b := n1) (by omega))
        refine lv_istore_n (lv' := [(3, .int (nI (f2_1 - n1))), (2, .int i2_2), (1, .int (nI n1)), (0, .ref (g.2.1 1))]) hx hb dX8_readNumber_76 rfl hl (by decide) rfl (fun ls hl => ?_)
        refine lv_iload_n hx hb dX8_readNumber_77 rfl (lv_at hl 0 rfl) ?_
        refine lv_if_eq (tgt := 104) hx hb dX8_readNumber_78 (by decide) (fun c7 => ?_) (fun c7 => ?_)
        · skip
          replace hR2 := it_t hR2 c7
          have b8 : (f2_1 - n1) = 0 := y_eq (a := (f2_1 - n1)) (b := 0) (by omega) (by omega) c7
          refine lv_iconst (v := (-1)) hx hb dX8_readNumber_104 (by decide) ?_
          subst hPQ
          exact x_iret E h ⟨hR0.trans hR2.symm, hI_2, hF_2⟩ dX8_readNumber_105
        · skip
          replace hR2 := it_f hR2 c7
          have b9 : ¬ (f2_1 - n1) = 0 := y_ne (a := (f2_1 - n1)) (b := 0) (by omega) (by omega) c7
          refine lv_iload_n hx hb dX8_readNumber_81 rfl (lv_at hl 1 rfl) ?_
          refine lv_sipush (v := 9999) hx hb dX8_readNumber_82 (by decide) ?_
          refine lv_icmp_gt (tgt := 104) hx hb dX8_readNumber_85 (by decide) (fun c10 => ?_) (fun c10 => ?_)
          · skip
            replace hR2 := it_t hR2 c10
            refine lv_iconst (v := (-1)) hx hb dX8_readNumber_104 (by decide) ?_
            subst hPQ
            exact x_iret E h ⟨hR0.trans hR2.symm, hI_2, hF_2⟩ dX8_readNumber_105
          · skip
            replace hR2 := it_f hR2 c10
            refine lv_iload_n hx hb dX8_readNumber_88 rfl (lv_at hl 0 rfl) ?_
            refine lv_iconst (v := 1) hx hb dX8_readNumber_89 (by decide) ?_
            refine lv_icmp_le (tgt := 106) hx hb dX8_readNumber_90 (by decide) (fun c13 => ?_) (fun c13 => ?_)
            · skip
              replace hR2 := it_t hR2 c13
              have b14 : (f2_1 - n1) ≤ 1 := y_le (a := (f2_1 - n1)) (b := 1) (by omega) (by omega) c13
              refine lv_iload_n hx hb dX8_readNumber_106 rfl (lv_at hl 1 rfl) ?_
              subst hPQ
              exact x_iret E h ⟨hR0.trans hR2.symm, hI_2, hF_2⟩ dX8_readNumber_107
            · skip
              replace hR2 := it_f hR2 c13
              have b15 : 1 < (f2_1 - n1) := y_nle (a := (f2_1 - n1)) (b := 1) (by omega) (by omega) c13
              refine lv_aload_n hx hb dX8_readNumber_93 rfl (lv_at hl 3 rfl) ?_
              refine x_getR E h (fr_rt_bytes g) rfl hwX8 (by decide) (by decide +kernel) dX8_readNumber_94 ?_
              refine lv_iload_n hx hb dX8_readNumber_97 rfl (lv_at hl 2 rfl) ?_
              refine x_ldI E h (ia_rt_bytes g) (i := nI n1) (vp_in_nI (by omega) (by decide)) (v := t2.2.2 0 n1) (congrArg (t2.2.2 0) (nI_clamp (n := n1) (by omega))) dX8_readNumber_98 ?_
              replace hR2 := bd_to hR2 (congrArg (t2.2.2 0) (nI_clamp (n := n1) (by omega)))
              refine lv_bipush (v := 48) hx hb dX8_readNumber_99 (by decide) ?_
              refine lv_icmp_ne (tgt := 106) hx hb dX8_readNumber_101 (by decide) (fun c16 => ?_) (fun c16 => ?_)
              · skip
                replace hR2 := it_f hR2 c16
                refine lv_iload_n hx hb dX8_readNumber_106 rfl (lv_at hl 1 rfl) ?_
                subst hPQ
                exact x_iret E h ⟨hR0.trans hR2.symm, hI_2, hF_2⟩ dX8_readNumber_107
              · skip
                replace hR2 := it_t hR2 c16
                refine lv_iconst (v := (-1)) hx hb dX8_readNumber_104 (by decide) ?_
                subst hPQ
                exact x_iret E h ⟨hR0.trans hR2.symm, hI_2, hF_2⟩ dX8_readNumber_105
      · skip
        replace hR2 := it_f hR2 c5
        have b19 : f2_1 < n3 := y_nle (a := n3) (b := f2_1) (by omega) (by omega) c5
        refine lv_aload_n hx hb dX8_readNumber_18 rfl (lv_at hl 2 rfl) ?_
        refine x_getR E h (fr_rt_bytes g) rfl hwX8 (by decide) (by decide +kernel) dX8_readNumber_19 ?_
        refine lv_aload_n hx hb dX8_readNumber_22 rfl (lv_at hl 2 rfl) ?_
        refine x_getI E h (fi_rt_at g) rfl hwX8 (by decide) (by decide +kernel) (v := nI f2_1) ef2_1 dX8_readNumber_23 ?_
        replace hR2 := bd_to hR2 ef2_1
        refine x_ldI E h (ia_rt_bytes g) (i := nI f2_1) (vp_in_nI (by omega) (by decide)) (v := t2.2.2 0 f2_1) (congrArg (t2.2.2 0) (nI_clamp (n := f2_1) (by omega))) dX8_readNumber_26 ?_
        replace hR2 := bd_to hR2 (congrArg (t2.2.2 0) (nI_clamp (n := f2_1) (by omega)))
        refine x_si E h (na := 1) (As := [.int (t2.2.2 0 f2_1)]) (aX8_isDigit_0 l g t2 hI_2 (t2.2.2 0 f2_1)) gX8_readNumber_X8_isDigit rfl ⟨rfl, rfl⟩ rfl (by decide +kernel) ⟨Nat.le_of_ble_eq_true rfl, Nat.le_of_ble_eq_true rfl⟩ hl.1 rfl (Nat.le_of_ble_eq_true rfl) dX8_readNumber_27 ⟨Nat.le_of_ble_eq_true rfl, Nat.le_of_ble_eq_true rfl⟩ (fun r20 s20 H locs q20 h => ?_)
        obtain ⟨x20, rfl⟩ := q20
        replace hR2 := bd_to hR2 x20
        refine lv_if_eq (tgt := 70) hx hb dX8_readNumber_30 (by decide) (fun c21 => ?_) (fun c21 => ?_)
        · skip
          replace hR2 := it_t hR2 c21
          subst c21
          refine lv_aload_n hx hb dX8_readNumber_70 rfl (lv_at hl 2 rfl) ?_
          refine x_getI E h (fi_rt_at g) rfl hwX8 (by decide) (by decide +kernel) (v := nI f2_1) ef2_1 dX8_readNumber_71 ?_
          replace hR2 := bd_to hR2 ef2_1
          refine lv_iload_n hx hb dX8_readNumber_74 rfl (lv_at hl 1 rfl) ?_
          refine lv_isub hx hb dX8_readNumber_75 ?_
          refine x_topI (v2 := nI (f2_1 - n1)) (pk_sub (a := f2_1) (b := n1) (by omega)) ?_
          replace hR2 := bd_to hR2 (pk_sub (a := f2_1) (b := n1) (by omega))
          refine lv_istore_n (lv' := [(3, .int (nI (f2_1 - n1))), (2, .int i2_2), (1, .int (nI n1)), (0, .ref (g.2.1 1))]) hx hb dX8_readNumber_76 rfl hl (by decide) rfl (fun ls hl => ?_)
          refine lv_iload_n hx hb dX8_readNumber_77 rfl (lv_at hl 0 rfl) ?_
          refine lv_if_eq (tgt := 104) hx hb dX8_readNumber_78 (by decide) (fun c23 => ?_) (fun c23 => ?_)
          · skip
            replace hR2 := it_t hR2 c23
            have b24 : (f2_1 - n1) = 0 := y_eq (a := (f2_1 - n1)) (b := 0) (by omega) (by omega) c23
            refine lv_iconst (v := (-1)) hx hb dX8_readNumber_104 (by decide) ?_
            subst hPQ
            exact x_iret E h ⟨hR0.trans hR2.symm, hI_2, hF_2⟩ dX8_readNumber_105
          · skip
            replace hR2 := it_f hR2 c23
            have b25 : ¬ (f2_1 - n1) = 0 := y_ne (a := (f2_1 - n1)) (b := 0) (by omega) (by omega) c23
            refine lv_iload_n hx hb dX8_readNumber_81 rfl (lv_at hl 1 rfl) ?_
            refine lv_sipush (v := 9999) hx hb dX8_readNumber_82 (by decide) ?_
            refine lv_icmp_gt (tgt := 104) hx hb dX8_readNumber_85 (by decide) (fun c26 => ?_) (fun c26 => ?_)
            · skip
              replace hR2 := it_t hR2 c26
              refine lv_iconst (v := (-1)) hx hb dX8_readNumber_104 (by decide) ?_
              subst hPQ
              exact x_iret E h ⟨hR0.trans hR2.symm, hI_2, hF_2⟩ dX8_readNumber_105
            · skip
              replace hR2 := it_f hR2 c26
              refine lv_iload_n hx hb dX8_readNumber_88 rfl (lv_at hl 0 rfl) ?_
              refine lv_iconst (v := 1) hx hb dX8_readNumber_89 (by decide) ?_
              refine lv_icmp_le (tgt := 106) hx hb dX8_readNumber_90 (by decide) (fun c29 => ?_) (fun c29 => ?_)
              · skip
                replace hR2 := it_t hR2 c29
                have b30 : (f2_1 - n1) ≤ 1 := y_le (a := (f2_1 - n1)) (b := 1) (by omega) (by omega) c29
                refine lv_iload_n hx hb dX8_readNumber_106 rfl (lv_at hl 1 rfl) ?_
                subst hPQ
                exact x_iret E h ⟨hR0.trans hR2.symm, hI_2, hF_2⟩ dX8_readNumber_107
              · skip
                replace hR2 := it_f hR2 c29
                have b31 : 1 < (f2_1 - n1) := y_nle (a := (f2_1 - n1)) (b := 1) (by omega) (by omega) c29
                refine lv_aload_n hx hb dX8_readNumber_93 rfl (lv_at hl 3 rfl) ?_
                refine x_getR E h (fr_rt_bytes g) rfl hwX8 (by decide) (by decide +kernel) dX8_readNumber_94 ?_
                refine lv_iload_n hx hb dX8_readNumber_97 rfl (lv_at hl 2 rfl) ?_
                refine x_ldI E h (ia_rt_bytes g) (i := nI n1) (vp_in_nI (by omega) (by decide)) (v := t2.2.2 0 n1) (congrArg (t2.2.2 0) (nI_clamp (n := n1) (by omega))) dX8_readNumber_98 ?_
                replace hR2 := bd_to hR2 (congrArg (t2.2.2 0) (nI_clamp (n := n1) (by omega)))
                refine lv_bipush (v := 48) hx hb dX8_readNumber_99 (by decide) ?_
                refine lv_icmp_ne (tgt := 106) hx hb dX8_readNumber_101 (by decide) (fun c32 => ?_) (fun c32 => ?_)
                · skip
                  replace hR2 := it_f hR2 c32
                  refine lv_iload_n hx hb dX8_readNumber_106 rfl (lv_at hl 1 rfl) ?_
                  subst hPQ
                  exact x_iret E h ⟨hR0.trans hR2.symm, hI_2, hF_2⟩ dX8_readNumber_107
                · skip
                  replace hR2 := it_t hR2 c32
                  refine lv_iconst (v := (-1)) hx hb dX8_readNumber_104 (by decide) ?_
                  subst hPQ
                  exact x_iret E h ⟨hR0.trans hR2.symm, hI_2, hF_2⟩ dX8_readNumber_105
        · skip
          replace hR2 := it_f hR2 c21
          refine lv_iload_n hx hb dX8_readNumber_33 rfl (lv_at hl 0 rfl) ?_
          refine lv_bipush (v := 10) hx hb dX8_readNumber_34 (by decide) ?_
          refine lv_imul hx hb dX8_readNumber_36 ?_
          refine lv_topi (fun x36 e36 => ?_)
          replace hR2 := bd_to hR2 e36.symm
          refine lv_aload_n hx hb dX8_readNumber_37 rfl (lv_at hl 2 rfl) ?_
          refine x_getR E h (fr_rt_bytes g) rfl hwX8 (by decide) (by decide +kernel) dX8_readNumber_38 ?_
          refine lv_aload_n hx hb dX8_readNumber_41 rfl (lv_at hl 2 rfl) ?_
          refine x_getI E h (fi_rt_at g) rfl hwX8 (by decide) (by decide +kernel) (v := nI f2_1) ef2_1 dX8_readNumber_42 ?_
          replace hR2 := bd_to hR2 ef2_1
          refine x_ldI E h (ia_rt_bytes g) (i := nI f2_1) (vp_in_nI (by omega) (by decide)) (v := t2.2.2 0 f2_1) (congrArg (t2.2.2 0) (nI_clamp (n := f2_1) (by omega))) dX8_readNumber_45 ?_
          replace hR2 := bd_to hR2 (congrArg (t2.2.2 0) (nI_clamp (n := f2_1) (by omega)))
          refine lv_iadd hx hb dX8_readNumber_46 ?_
          refine lv_topi (fun x37 e37 => ?_)
          replace hR2 := bd_to hR2 e37.symm
          refine lv_bipush (v := 48) hx hb dX8_readNumber_47 (by decide) ?_
          refine lv_isub hx hb dX8_readNumber_49 ?_
          refine lv_topi (fun x38 e38 => ?_)
          replace hR2 := bd_to hR2 e38.symm
          refine lv_sipush (v := 10000) hx hb dX8_readNumber_50 (by decide) ?_
          refine x_min E hl.1 (by decide +kernel) (by decide +kernel) (by decide +kernel) (by decide +kernel) ⟨Nat.le_of_ble_eq_true rfl, Nat.le_of_ble_eq_true rfl⟩ ⟨Nat.zero_le _, Nat.zero_le _⟩ dX8_readNumber_53 ?_
          refine lv_topi (fun x39 e39 => ?_)
          replace hR2 := bd_to hR2 e39.symm
          refine lv_istore_n (lv' := [(2, .int x39), (1, .int (nI n1)), (0, .ref (g.2.1 1))]) hx hb dX8_readNumber_56 rfl hl (by decide) rfl (fun ls hl => ?_)
          refine lv_aload_n hx hb dX8_readNumber_57 rfl (lv_at hl 2 rfl) ?_
          refine lv_dup hx hb dX8_readNumber_58 rfl ?_
          refine x_getI E h (fi_rt_at g) rfl hwX8 (by decide) (by decide +kernel) (v := nI f2_1) ef2_1 dX8_readNumber_59 ?_
          replace hR2 := bd_to hR2 ef2_1
          refine lv_iconst (v := 1) hx hb dX8_readNumber_62 (by decide) ?_
          refine lv_iadd hx hb dX8_readNumber_63 ?_
          refine x_topI (v2 := nI (f2_1 + 1)) (nI_add f2_1 1) ?_
          replace hR2 := bd_to hR2 (nI_add f2_1 1)
          refine y_putI E h hI_2 hF_2 (ty := .int) (v := nI (f2_1 + 1)) (fi_rt_at g) rfl hwX8 tyX8_ok nmX8 (by decide) (by decide +kernel) (by decide +kernel) (by decide +kernel) rfl rfl (ba_some rfl (Bd.mk (n := (f2_1 + 1)) (by omega))) rfl dX8_readNumber_64 (fun s40 H locs q40 hI40 hF40 h => ?_)
          replace hR2 := bd_to hR2 q40.symm
          have e41 : s40.1 0 = nI n3 := (congrArg (fun t : ST => t.1 0) q40).trans e4
          have e42 : s40.1 1 = nI (f2_1 + 1) := congrArg (fun t : ST => t.1 1) q40
          refine lv_goto (tgt := 7) hx hb dX8_readNumber_67 (by decide) ?_
          exact ih2 s40 (f2_1 + 1) x39 hI40 hF40 e41 e42 (by omega) (by omega) hR2 (by omega) _ _ _ h (lv_sub hl [0, 1, 2] rfl)
  exact loop7_2 4096 σ n1 0 hI hF e3 e1 (by omega) (by omega) hR (by omega) _ _ _ h (lv_sub hl [0, 1, 2] rfl)
set_option maxHeartbeats 4000000 in
set_option maxRecDepth 100000 in
theorem aX8_readItem_0 (l : Launch) (g : CX) (σ : ST) (hI : INV σ)  : XM l g yX8_readItem wsX8_readItem { frames := 6, cells := 0, slots := 0, locals := 131 } [.ref (g.2.1 1)] σ (XQi g (fun r σ' => fX8_readItem_0 σ = (r, σ') ∧ INV σ' ∧ Fr [(1, 1)] [(2, 2)] σ σ')) := by
  refine x_met (own := RX8) (cc := cX8_readItem) (maxL := 4) (ret := (some .int)) (lv := [(0, .ref (g.2.1 1))]) (by decide) rfl rfl (Nat.le_of_ble_eq_true rfl) rfl ?_
  intro p e s m args below meth c ls E h hl
  have hx := E.1
  have hb := E.2.1
  have hown := E.2.2.2.1
  have hts := E.2.2.2.2.1
  have hF : Fr [(1, 1)] [(2, 2)] σ σ := Fr.refl σ
  obtain ⟨R, hR0⟩ : ∃ R, fX8_readItem_0 σ = R := ⟨_, rfl⟩
  have hR : fX8_readItem_0b0 σ = R := hR0
  have hwX8 : ∀ w ∈ wsX80, w ∈ wsX8_readItem := by decide +kernel
  generalize hPQ : XQi g (fun r σ' => fX8_readItem_0 σ = (r, σ') ∧ INV σ' ∧ Fr [(1, 1)] [(2, 2)] σ σ') = PQz
  refine lv_aload_n hx hb dX8_readItem_0 rfl (lv_at hl 0 rfl) ?_
  obtain ⟨n1, b1, e1⟩ := hI.1 1 200 rfl
  refine x_getI E h (fi_rt_at g) rfl hwX8 (by decide) (by decide +kernel) (v := nI n1) e1 dX8_readItem_1 ?_
  replace hR := bd_to hR e1
  refine lv_istore_n (lv' := [(1, .int (nI n1)), (0, .ref (g.2.1 1))]) hx hb dX8_readItem_4 rfl hl (by decide) rfl (fun ls hl => ?_)
  refine lv_aload_n hx hb dX8_readItem_5 rfl (lv_at hl 1 rfl) ?_
  refine x_vi E h (na := 0) (As := []) (aX8_readWord_0 l g σ hI) (oc_rt g) rfl gX8_readItem_X8_readWord rfl ⟨rfl, rfl⟩ rfl (by decide +kernel) ⟨Nat.le_of_ble_eq_true rfl, Nat.le_of_ble_eq_true rfl⟩ hl.1 rfl (Nat.le_of_ble_eq_true rfl) dX8_readItem_6 ⟨Nat.le_of_ble_eq_true rfl, Nat.le_of_ble_eq_true rfl⟩ (fun r2 s2 H locs q2 h => ?_)
  obtain ⟨x2, d2, hI2, f2⟩ := q2
  replace hR := bp_to hR x2
  have hF2 := hF.call f2 (I := [(1, 1)]) (J := [(2, 2)]) rfl rfl
  refine lv_istore_n (lv' := [(2, .int r2), (1, .int (nI n1)), (0, .ref (g.2.1 1))]) hx hb dX8_readItem_9 rfl hl (by decide) rfl (fun ls hl => ?_)
  refine lv_iload_n hx hb dX8_readItem_10 rfl (lv_at hl 0 rfl) ?_
  refine lv_iconst (v := (-1)) hx hb dX8_readItem_11 (by decide) ?_
  refine lv_icmp_eq (tgt := 25) hx hb dX8_readItem_12 (by decide) (fun c3 => ?_) (fun c3 => ?_)
  · skip
    replace hR := it_t hR c3
    subst c3
    refine lv_iload_n hx hb dX8_readItem_25 rfl (lv_at hl 1 rfl) ?_
    subst hPQ
    exact x_iret E h ⟨hR0.trans hR.symm, hI2, hF2⟩ dX8_readItem_26
  · skip
    replace hR := it_f hR c3
    rcases d2 with rfl | ⟨n6, b6, rfl⟩
    · exact absurd c3 (by decide)
    refine lv_aload_n hx hb dX8_readItem_15 rfl (lv_at hl 2 rfl) ?_
    refine x_getR E h (fr_rt_told g) rfl hwX8 (by decide) (by decide +kernel) dX8_readItem_16 ?_
    refine lv_iload_n hx hb dX8_readItem_19 rfl (lv_at hl 0 rfl) ?_
    refine x_ldI E h (ia_rt_told g) (i := nI n6) (vp_in_nI (by omega) (by decide)) (v := s2.2.2 2 n6) (congrArg (s2.2.2 2) (nI_clamp (n := n6) (by omega))) dX8_readItem_20 ?_
    replace hR := bd_to hR (congrArg (s2.2.2 2) (nI_clamp (n := n6) (by omega)))
    refine lv_iconst (v := (-1)) hx hb dX8_readItem_21 (by decide) ?_
    refine lv_icmp_eq (tgt := 27) hx hb dX8_readItem_22 (by decide) (fun c7 => ?_) (fun c7 => ?_)
    · skip
      replace hR := it_t hR c7
      refine lv_aload_n hx hb dX8_readItem_27 rfl (lv_at hl 2 rfl) ?_
      refine x_vi E h (na := 0) (As := []) (aX8_endsBehindBlanks_0 l g s2 hI2) (oc_rt g) rfl gX8_readItem_X8_endsBehindBlanks rfl ⟨rfl, rfl⟩ rfl (by decide +kernel) ⟨Nat.le_of_ble_eq_true rfl, Nat.le_of_ble_eq_true rfl⟩ hl.1 rfl (Nat.le_of_ble_eq_true rfl) dX8_readItem_28 ⟨Nat.le_of_ble_eq_true rfl, Nat.le_of_ble_eq_true rfl⟩ (fun r9 s9 H locs q9 h => ?_)
      obtain ⟨x9, d9, hI9, f9⟩ := q9
      replace hR := bp_to hR x9
      have hF9 := hF2.call f9 (I := [(1, 1)]) (J := [(2, 2)]) rfl rfl
      rcases d9 with rfl | ⟨rfl, m9_1a, m9_1L, u9_1_0, u9_1_1, u9_1_2, u9_1_3⟩
      · skip
        replace hR := it_f hR (by decide)
        refine lv_if_eq (tgt := 39) hx hb dX8_readItem_31 (by decide) (fun c => absurd c (by decide)) (fun _ => ?_)
        refine lv_aload_n hx hb dX8_readItem_34 rfl (lv_at hl 2 rfl) ?_
        obtain ⟨n10, b10, e10⟩ := hI9.1 0 200 rfl
        refine x_getI E h (fi_rt_length g) rfl hwX8 (by decide) (by decide +kernel) (v := nI n10) e10 dX8_readItem_35 ?_
        replace hR := bd_to hR e10
        subst hPQ
        exact x_iret E h ⟨hR0.trans hR.symm, hI9, hF9⟩ dX8_readItem_38
      · skip
        replace hR := it_t hR (by decide)
        refine lv_if_eq (tgt := 39) hx hb dX8_readItem_31 (by decide) (fun _ => ?_) (fun c => absurd (by decide) c)
        refine lv_aload_n hx hb dX8_readItem_39 rfl (lv_at hl 2 rfl) ?_
        refine x_getI E h (fi_rt_at g) rfl hwX8 (by decide) (by decide +kernel) (v := nI m9_1a) u9_1_0 dX8_readItem_40 ?_
        replace hR := bd_to hR u9_1_0
        refine lv_istore_n (lv' := [(1, .int (nI m9_1a)), (2, .int (nI n6)), (0, .ref (g.2.1 1))]) hx hb dX8_readItem_43 rfl hl (by decide) rfl (fun ls hl => ?_)
        refine lv_aload_n hx hb dX8_readItem_44 rfl (lv_at hl 2 rfl) ?_
        refine x_vi E h (na := 0) (As := []) (aX8_readNumber_0 l g s9 hI9) (oc_rt g) rfl gX8_readItem_X8_readNumber rfl ⟨rfl, rfl⟩ rfl (by decide +kernel) ⟨Nat.le_of_ble_eq_true rfl, Nat.le_of_ble_eq_true rfl⟩ hl.1 rfl (Nat.le_of_ble_eq_true rfl) dX8_readItem_45 ⟨Nat.le_of_ble_eq_true rfl, Nat.le_of_ble_eq_true rfl⟩ (fun r11 s11 H locs q11 h => ?_)
        obtain ⟨x11, hI11, f11⟩ := q11
        replace hR := bp_to hR x11
        have hF11 := hF9.call f11 (I := [(1, 1)]) (J := [(2, 2)]) rfl rfl
        have e12 : s11.1 0 = nI m9_1L := ((f11.1 0 rfl)).trans u9_1_1
        refine lv_istore_n (lv' := [(3, .int r11), (1, .int (nI m9_1a)), (2, .int (nI n6)), (0, .ref (g.2.1 1))]) hx hb dX8_readItem_48 rfl hl (by decide) rfl (fun ls hl => ?_)
        refine lv_iload_n hx hb dX8_readItem_49 rfl (lv_at hl 0 rfl) ?_
        refine lv_iconst (v := (-1)) hx hb dX8_readItem_50 (by decide) ?_
        refine lv_icmp_eq (tgt := 63) hx hb dX8_readItem_51 (by decide) (fun c13 => ?_) (fun c13 => ?_)
        · skip
          replace hR := it_t hR c13
          subst c13
          refine lv_iload_n hx hb dX8_readItem_63 rfl (lv_at hl 1 rfl) ?_
          subst hPQ
          exact x_iret E h ⟨hR0.trans hR.symm, hI11, hF11⟩ dX8_readItem_64
        · skip
          replace hR := it_f hR c13
          refine lv_iload_n hx hb dX8_readItem_54 rfl (lv_at hl 0 rfl) ?_
          refine x_gets1 E h (by decide +kernel) dX8_readItem_55 ?_
          refine lv_iload_n hx hb dX8_readItem_58 rfl (lv_at hl 2 rfl) ?_
          obtain ⟨v16, e16⟩ := y_tab1 (nI n6).toNatClampNeg
          refine x_tab1 E h (i := nI n6) (v := v16) (vp_in_nI (by omega) (by decide)) e16 dX8_readItem_59 ?_
          replace hR := bd_to hR (tab1_e e16)
          refine lv_icmp_le (tgt := 65) hx hb dX8_readItem_60 (by decide) (fun c17 => ?_) (fun c17 => ?_)
          · skip
            replace hR := it_t hR c17
            refine lv_aload_n hx hb dX8_readItem_65 rfl (lv_at hl 3 rfl) ?_
            refine x_vi E h (na := 0) (As := []) (aX8_endsBehindBlanks_0 l g s11 hI11) (oc_rt g) rfl gX8_readItem_X8_endsBehindBlanks rfl ⟨rfl, rfl⟩ rfl (by decide +kernel) ⟨Nat.le_of_ble_eq_true rfl, Nat.le_of_ble_eq_true rfl⟩ hl.1 rfl (Nat.le_of_ble_eq_true rfl) dX8_readItem_66 ⟨Nat.le_of_ble_eq_true rfl, Nat.le_of_ble_eq_true rfl⟩ (fun r19 s19 H locs q19 h => ?_)
            obtain ⟨x19, d19, hI19, f19⟩ := q19
            replace hR := bp_to hR x19
            have hF19 := hF11.call f19 (I := [(1, 1)]) (J := [(2, 2)]) rfl rfl
            have e20 : s19.1 0 = nI m9_1L := ((f19.1 0 rfl)).trans e12
            rcases d19 with rfl | ⟨rfl, m19_1a, m19_1L, u19_1_0, u19_1_1, u19_1_2, u19_1_3⟩
            · skip
              replace hR := it_f hR (by decide)
              refine lv_if_eq (tgt := 77) hx hb dX8_readItem_69 (by decide) (fun c => absurd c (by decide)) (fun _ => ?_)
              refine lv_aload_n hx hb dX8_readItem_72 rfl (lv_at hl 3 rfl) ?_
              refine x_getI E h (fi_rt_length g) rfl hwX8 (by decide) (by decide +kernel) (v := nI m9_1L) e20 dX8_readItem_73 ?_
              replace hR := bd_to hR e20
              subst hPQ
              exact x_iret E h ⟨hR0.trans hR.symm, hI19, hF19⟩ dX8_readItem_76
            · skip
              obtain rfl : m9_1L = m19_1L := y_eq (by omega) (by omega) ((e20).symm.trans u19_1_1)
              replace hR := it_t hR (by decide)
              refine lv_if_eq (tgt := 77) hx hb dX8_readItem_69 (by decide) (fun _ => ?_) (fun c => absurd (by decide) c)
              refine lv_aload_n hx hb dX8_readItem_77 rfl (lv_at hl 3 rfl) ?_
              refine x_getR E h (fr_rt_bytes g) rfl hwX8 (by decide) (by decide +kernel) dX8_readItem_78 ?_
              refine lv_aload_n hx hb dX8_readItem_81 rfl (lv_at hl 3 rfl) ?_
              refine x_getI E h (fi_rt_at g) rfl hwX8 (by decide) (by decide +kernel) (v := nI m19_1a) u19_1_0 dX8_readItem_82 ?_
              replace hR := bd_to hR u19_1_0
              refine x_ldI E h (ia_rt_bytes g) (i := nI m19_1a) (vp_in_nI (by omega) (by decide)) (v := s19.2.2 0 m19_1a) (congrArg (s19.2.2 0) (nI_clamp (n := m19_1a) (by omega))) dX8_readItem_85 ?_
              replace hR := bd_to hR (congrArg (s19.2.2 0) (nI_clamp (n := m19_1a) (by omega)))
              refine lv_bipush (v := 59) hx hb dX8_readItem_86 (by decide) ?_
              refine lv_icmp_eq (tgt := 96) hx hb dX8_readItem_88 (by decide) (fun c21 => ?_) (fun c21 => ?_)
              · skip
                replace hR := it_t hR c21
                refine lv_aload_n hx hb dX8_readItem_96 rfl (lv_at hl 3 rfl) ?_
                refine lv_dup hx hb dX8_readItem_97 rfl ?_
                refine x_getI E h (fi_rt_at g) rfl hwX8 (by decide) (by decide +kernel) (v := nI m19_1a) u19_1_0 dX8_readItem_98 ?_
                replace hR := bd_to hR u19_1_0
                refine lv_iconst (v := 1) hx hb dX8_readItem_101 (by decide) ?_
                refine lv_iadd hx hb dX8_readItem_102 ?_
                refine x_topI (v2 := nI (m19_1a + 1)) (nI_add m19_1a 1) ?_
                replace hR := bd_to hR (nI_add m19_1a 1)
                refine y_putI E h hI19 hF19 (ty := .int) (v := nI (m19_1a + 1)) (fi_rt_at g) rfl hwX8 tyX8_ok nmX8 (by decide) (by decide +kernel) (by decide +kernel) (by decide +kernel) rfl rfl (ba_some rfl (Bd.mk (n := (m19_1a + 1)) (by omega))) rfl dX8_readItem_103 (fun s23 H locs q23 hI23 hF23 h => ?_)
                replace hR := bd_to hR q23.symm
                have e24 : s23.1 0 = nI m9_1L := (congrArg (fun t : ST => t.1 0) q23).trans e20
                have e25 : s23.1 1 = nI (m19_1a + 1) := congrArg (fun t : ST => t.1 1) q23
                refine lv_aload_n hx hb dX8_readItem_106 rfl (lv_at hl 3 rfl) ?_
                refine x_getR E h (fr_rt_told g) rfl hwX8 (by decide) (by decide +kernel) dX8_readItem_107 ?_
                refine lv_iload_n hx hb dX8_readItem_110 rfl (lv_at hl 2 rfl) ?_
                refine lv_iload_n hx hb dX8_readItem_111 rfl (lv_at hl 0 rfl) ?_
                refine y_stI E h hI23 hF23 (ia_rt_told g) (i := nI n6) (vp_in_nI (by omega) (by decide)) (j := n6) (nI_clamp (by omega)) (ba_none rfl) rfl dX8_readItem_112 (fun s26 H locs q26 hI26 hF26 h => ?_)
                replace hR := st_to hR (nI_clamp (n := n6) (by omega)) q26
                have e27 : s26.1 0 = nI m9_1L := (congrArg (fun t : ST => t.1 0) q26).trans e24
                have e28 : s26.1 1 = nI (m19_1a + 1) := (congrArg (fun t : ST => t.1 1) q26).trans e25
                refine lv_iconst (v := (-1)) hx hb dX8_readItem_113 (by decide) ?_
                subst hPQ
                exact x_iret E h ⟨hR0.trans hR.symm, hI26, hF26⟩ dX8_readItem_114
              · skip
                replace hR := it_f hR c21
                refine lv_aload_n hx hb dX8_readItem_91 rfl (lv_at hl 3 rfl) ?_
                refine x_getI E h (fi_rt_at g) rfl hwX8 (by decide) (by decide +kernel) (v := nI m19_1a) u19_1_0 dX8_readItem_92 ?_
                replace hR := bd_to hR u19_1_0
                subst hPQ
                exact x_iret E h ⟨hR0.trans hR.symm, hI19, hF19⟩ dX8_readItem_95
          · skip
            replace hR := it_f hR c17
            refine lv_iload_n hx hb dX8_readItem_63 rfl (lv_at hl 1 rfl) ?_
            subst hPQ
            exact x_iret E h ⟨hR0.trans hR.symm, hI11, hF11⟩ dX8_readItem_64
    · skip
      replace hR := it_f hR c7
      refine lv_iload_n hx hb dX8_readItem_25 rfl (lv_at hl 1 rfl) ?_
      subst hPQ
      exact x_iret E h ⟨hR0.trans hR.symm, hI2, hF2⟩ dX8_readItem_26
set_option maxHeartbeats 4000000 in
set_option maxRecDepth 100000 in
theorem aX8_read_0 (l : Launch) (g : CX) (σ : ST) (hI : INV σ)  : XM l g yX8_read wsX8_read { frames := 7, cells := 0, slots := 0, locals := 154 } [.ref (g.2.1 1)] σ (XQi g (fun r σ' => fX8_read_0 σ = (r, σ') ∧ INV σ' ∧ Fr [(0, 1)] [(1, 2)] σ σ')) := by
  refine x_met (own := RX8) (cc := cX8_read) (maxL := 3) (ret := (some .int)) (lv := [(0, .ref (g.2.1 1))]) (by decide) rfl rfl (Nat.le_of_ble_eq_true rfl) rfl ?_
  intro p e s m args below meth c ls E h hl
  have hx := E.1
  have hb := E.2.1
  have hown := E.2.2.2.1
  have hts := E.2.2.2.2.1
  have hF : Fr [(0, 1)] [(1, 2)] σ σ := Fr.refl σ
  obtain ⟨R, hR0⟩ : ∃ R, fX8_read_0 σ = R := ⟨_, rfl⟩
  have hR : fX8_read_0b0 σ = R := hR0
  have hwX8 : ∀ w ∈ wsX80, w ∈ wsX8_read := by decide +kernel
  generalize hPQ : XQi g (fun r σ' => fX8_read_0 σ = (r, σ') ∧ INV σ' ∧ Fr [(0, 1)] [(1, 2)] σ σ') = PQz
  refine lv_aload_n hx hb dX8_read_0 rfl (lv_at hl 0 rfl) ?_
  refine x_getR E h (fr_rt_told g) rfl hwX8 (by decide) (by decide +kernel) dX8_read_1 ?_
  refine lv_iconst (v := (-1)) hx hb dX8_read_4 (by decide) ?_
  refine x_sv E h (na := 2) (As := [.ref (g.2.1 4), .int (-1)]) (k_fill l g _ 4 6 2 (ia_rt_told g) (by decide) (-1)) gX8_read_J7_fill_53178 rfl ⟨rfl, rfl⟩ rfl (by decide +kernel) ⟨Nat.le_of_ble_eq_true rfl, Nat.le_of_ble_eq_true rfl⟩ hl.1 rfl (Nat.le_of_ble_eq_true rfl) dX8_read_5 ⟨Nat.le_of_ble_eq_true rfl, Nat.le_of_ble_eq_true rfl⟩ (fun s1 H locs q1 h => ?_)
  have hI1 : INV s1 := by rw [← q1]; exact hI.fill rfl _
  have hF1 : Fr [(0, 1)] [(1, 2)] σ s1 := by rw [← q1]; exact hF.putA rfl
  replace hR := bd_to hR q1
  refine lv_aload_n hx hb dX8_read_8 rfl (lv_at hl 0 rfl) ?_
  refine lv_iconst (v := 0) hx hb dX8_read_9 (by decide) ?_
  refine y_putI E h hI1 hF1 (ty := .int) (v := nI 0) (fi_rt_at g) rfl hwX8 tyX8_ok nmX8 (by decide) (by decide +kernel) (by decide +kernel) (by decide +kernel) rfl rfl (ba_some rfl (Bd.mk (n := 0) (by omega))) rfl dX8_read_10 (fun s2 H locs q2 hI2 hF2 h => ?_)
  replace hR := bd_to hR q2.symm
  have e3 : s2.1 1 = nI 0 := congrArg (fun t : ST => t.1 1) q2
  refine lv_iconst (v := 0) hx hb dX8_read_13 (by decide) ?_
  refine lv_istore_n (lv' := [(1, .int 0), (0, .ref (g.2.1 1))]) hx hb dX8_read_14 rfl hl (by decide) rfl (fun ls hl => ?_)
  have loop15_4 : ∀ (fu : Nat) (t4 : ST) (i4_1 : Nat), INV t4 → Fr [(0, 1)] [(1, 2)] σ t4 → i4_1 ≤ 7 → fX8_read_0l15 fu (nI i4_1) t4 = R → 7 - i4_1 < fu → ∀ (H : Heap) (locs : List Loc) (ls : Array Slot), HW g t4 s H locs → lv_has ls 3 [(1, .int (nI i4_1)), (0, .ref (g.2.1 1))] → W p l e { frames := 7, cells := 0, slots := 0, locals := 154 } s m args below meth c H locs 0 0 (MQ below PQz args s 0 0 (Aw g)) (F0 m 15 ls []) := by
    intro fu4
    induction fu4 with
    | zero => intro t4 i4_1 hI_4 hF_4 bi4_1 hR4 hm; exact absurd hm (Nat.not_lt_zero _)
    | succ fu4 ih =>
      have ih4 := ih
      clear ih
      intro t4 i4_1 hI_4 hF_4 bi4_1 hR4 hm4 H locs ls h hl
      replace hR4 : fX8_read_0b15 (fX8_read_0l15 fu4) (nI i4_1) t4 = R := hR4
      refine lv_iload_n hx hb dX8_read_15 rfl (lv_at hl 0 rfl) ?_
      refine lv_bipush (v := 6) hx hb dX8_read_16 (by decide) ?_
      refine lv_icmp_gt (tgt := 54) hx hb dX8_read_18 (by decide) (fun c5 => ?_) (fun c5 => ?_)
      · skip
        replace hR4 := it_t hR4 c5
        have b6 : 6 < i4_1 := y_lt (a := 6) (b := i4_1) (by omega) (by omega) c5
        refine lv_bipush (v := (-10)) hx hb dX8_read_54 (by decide) ?_
        refine lv_aload_n hx hb dX8_read_56 rfl (lv_at hl 1 rfl) ?_
        obtain ⟨n7, b7, e7⟩ := hI_4.1 1 200 rfl
        refine x_getI E h (fi_rt_at g) rfl hwX8 (by decide) (by decide +kernel) (v := nI n7) e7 dX8_read_57 ?_
        replace hR4 := bd_to hR4 e7
        refine lv_isub hx hb dX8_read_60 ?_
        refine lv_topi (fun x8 e8 => ?_)
        replace hR4 := bd_to hR4 e8.symm
        subst hPQ
        exact x_iret E h ⟨hR0.trans hR4.symm, hI_4, hF_4⟩ dX8_read_61
      · skip
        replace hR4 := it_f hR4 c5
        have b9 : i4_1 ≤ 6 := y_nlt (a := 6) (b := i4_1) (by omega) (by omega) c5
        refine lv_aload_n hx hb dX8_read_21 rfl (lv_at hl 1 rfl) ?_
        refine x_vi E h (na := 0) (As := []) (aX8_endsBehindBlanks_0 l g t4 hI_4) (oc_rt g) rfl gX8_read_X8_endsBehindBlanks rfl ⟨rfl, rfl⟩ rfl (by decide +kernel) ⟨Nat.le_of_ble_eq_true rfl, Nat.le_of_ble_eq_true rfl⟩ hl.1 rfl (Nat.le_of_ble_eq_true rfl) dX8_read_22 ⟨Nat.le_of_ble_eq_true rfl, Nat.le_of_ble_eq_true rfl⟩ (fun r10 s10 H locs q10 h => ?_)
        obtain ⟨x10, d10, hI10, f10⟩ := q10
        replace hR4 := bp_to hR4 x10
        have hF10 := hF_4.call f10 (I := [(0, 1)]) (J := [(1, 2)]) rfl rfl
        rcases d10 with rfl | ⟨rfl, m10_1a, m10_1L, u10_1_0, u10_1_1, u10_1_2, u10_1_3⟩
        · skip
          replace hR4 := it_f hR4 (by decide)
          refine lv_if_eq (tgt := 34) hx hb dX8_read_25 (by decide) (fun c => absurd c (by decide)) (fun _ => ?_)
          refine lv_aload_n hx hb dX8_read_28 rfl (lv_at hl 1 rfl) ?_
          refine x_vv E h (na := 0) (As := []) (aX8_adopt_0 l g s10 hI10) (oc_rt g) rfl gX8_read_X8_adopt rfl ⟨rfl, rfl⟩ rfl (by decide +kernel) ⟨Nat.le_of_ble_eq_true rfl, Nat.le_of_ble_eq_true rfl⟩ hl.1 rfl (Nat.le_of_ble_eq_true rfl) dX8_read_29 ⟨Nat.le_of_ble_eq_true rfl, Nat.le_of_ble_eq_true rfl⟩ (fun s11 H locs q11 h => ?_)
          obtain ⟨x11, hI11, f11⟩ := q11
          replace hR4 := bd_to hR4 x11
          have hF11 := hF10.call f11 (I := [(0, 1)]) (J := [(1, 2)]) rfl rfl
          refine lv_iload_n hx hb dX8_read_32 rfl (lv_at hl 0 rfl) ?_
          subst hPQ
          exact x_iret E h ⟨hR0.trans hR4.symm, hI11, hF11⟩ dX8_read_33
        · skip
          replace hR4 := it_t hR4 (by decide)
          refine lv_if_eq (tgt := 34) hx hb dX8_read_25 (by decide) (fun _ => ?_) (fun c => absurd (by decide) c)
          refine lv_aload_n hx hb dX8_read_34 rfl (lv_at hl 1 rfl) ?_
          refine x_vi E h (na := 0) (As := []) (aX8_readItem_0 l g s10 hI10) (oc_rt g) rfl gX8_read_X8_readItem rfl ⟨rfl, rfl⟩ rfl (by decide +kernel) ⟨Nat.le_of_ble_eq_true rfl, Nat.le_of_ble_eq_true rfl⟩ hl.1 rfl (Nat.le_of_ble_eq_true rfl) dX8_read_35 ⟨Nat.le_of_ble_eq_true rfl, Nat.le_of_ble_eq_true rfl⟩ (fun r12 s12 H locs q12 h => ?_)
          obtain ⟨x12, hI12, f12⟩ := q12
          replace hR4 := bp_to hR4 x12
          have hF12 := hF10.call f12 (I := [(0, 1)]) (J := [(1, 2)]) rfl rfl
          have e13 : s12.1 0 = nI m10_1L := ((f12.1 0 rfl)).trans u10_1_1
          refine lv_istore_n (lv' := [(2, .int r12), (1, .int (nI i4_1)), (0, .ref (g.2.1 1))]) hx hb dX8_read_38 rfl hl (by decide) rfl (fun ls hl => ?_)
          refine lv_iload_n hx hb dX8_read_39 rfl (lv_at hl 0 rfl) ?_
          refine lv_if_lt (tgt := 48) hx hb dX8_read_40 (by decide) (fun c14 => ?_) (fun c14 => ?_)
          · skip
            replace hR4 := it_t hR4 c14
            replace hR4 := bd_to hR4 (nI_add i4_1 1)
            refine lv_iinc (v := (nI (i4_1 + 1))) (lv' := [(1, .int (nI (i4_1 + 1))), (2, .int r12), (0, .ref (g.2.1 1))]) hx hb dX8_read_48 hl (k := 1) rfl (nI_add i4_1 1) (by decide) rfl (fun ls hl => ?_)
            refine lv_goto (tgt := 15) hx hb dX8_read_51 (by decide) ?_
            exact ih4 s12 (i4_1 + 1) hI12 hF12 (by omega) hR4 (by omega) _ _ _ h (lv_sub hl [0, 2] rfl)
          · skip
            replace hR4 := it_f hR4 c14
            refine lv_bipush (v := (-10)) hx hb dX8_read_43 (by decide) ?_
            refine lv_iload_n hx hb dX8_read_45 rfl (lv_at hl 0 rfl) ?_
            refine lv_isub hx hb dX8_read_46 ?_
            refine lv_topi (fun x17 e17 => ?_)
            replace hR4 := bd_to hR4 e17.symm
            subst hPQ
            exact x_iret E h ⟨hR0.trans hR4.symm, hI12, hF12⟩ dX8_read_47
  exact loop15_4 4096 s2 0 hI2 hF2 (Nat.zero_le _) hR (by omega) _ _ _ h (lv_sub hl [0, 1] rfl)
set_option maxHeartbeats 4000000 in
set_option maxRecDepth 100000 in
theorem aX11_nothingIsFound_0 (l : Launch) (g : CX) (σ : ST) (hI : INV σ)  : XM l g yX11_nothingIsFound wsX11_nothingIsFound { frames := 0, cells := 0, slots := 0, locals := 0 } [.ref (g.2.1 0)] σ (XQv g (fun σ' => fX11_nothingIsFound_0 σ = σ' ∧ INV σ' ∧ Fr [(22, 24)] [] σ σ')) := by
  refine x_met (own := RX11) (cc := cX11_nothingIsFound) (maxL := 1) (ret := none) (lv := [(0, .ref (g.2.1 0))]) (by decide) rfl rfl (Nat.le_of_ble_eq_true rfl) rfl ?_
  intro p e s m args below meth c ls E h hl
  have hx := E.1
  have hb := E.2.1
  have hown := E.2.2.2.1
  have hts := E.2.2.2.2.1
  have hF : Fr [(22, 24)] [] σ σ := Fr.refl σ
  obtain ⟨R, hR0⟩ : ∃ R, fX11_nothingIsFound_0 σ = R := ⟨_, rfl⟩
  have hR : fX11_nothingIsFound_0b0 σ = R := hR0
  have hwX11 : ∀ w ∈ wsX110, w ∈ wsX11_nothingIsFound := by decide +kernel
  generalize hPQ : XQv g (fun σ' => fX11_nothingIsFound_0 σ = σ' ∧ INV σ' ∧ Fr [(22, 24)] [] σ σ') = PQz
  refine lv_aload_n hx hb dX11_nothingIsFound_0 rfl (lv_at hl 0 rfl) ?_
  refine lv_iconst (v := 1) hx hb dX11_nothingIsFound_1 (by decide) ?_
  refine y_putI E h hI hF (ty := .boolean) (v := 1) (fi_vh_cutIsOld g) rfl hwX11 tyX11_ok nmX11 (by decide) (by decide +kernel) (by decide +kernel) (by decide +kernel) rfl rfl (ba_none rfl) rfl dX11_nothingIsFound_2 (fun s1 H locs q1 hI1 hF1 h => ?_)
  replace hR := bd_to hR q1.symm
  have e2 : s1.1 22 = 1 := congrArg (fun t : ST => t.1 22) q1
  refine lv_aload_n hx hb dX11_nothingIsFound_5 rfl (lv_at hl 0 rfl) ?_
  refine lv_iconst (v := 1) hx hb dX11_nothingIsFound_6 (by decide) ?_
  refine y_putI E h hI1 hF1 (ty := .boolean) (v := 1) (fi_vh_heapsAreOld g) rfl hwX11 tyX11_ok nmX11 (by decide) (by decide +kernel) (by decide +kernel) (by decide +kernel) rfl rfl (ba_none rfl) rfl dX11_nothingIsFound_7 (fun s3 H locs q3 hI3 hF3 h => ?_)
  replace hR := bd_to hR q3.symm
  have e4 : s3.1 22 = 1 := (congrArg (fun t : ST => t.1 22) q3).trans e2
  have e5 : s3.1 23 = 1 := congrArg (fun t : ST => t.1 23) q3
  refine lv_aload_n hx hb dX11_nothingIsFound_10 rfl (lv_at hl 0 rfl) ?_
  refine lv_iconst (v := 1) hx hb dX11_nothingIsFound_11 (by decide) ?_
  refine y_putI E h hI3 hF3 (ty := .boolean) (v := 1) (fi_vh_nearIsOld g) rfl hwX11 tyX11_ok nmX11 (by decide) (by decide +kernel) (by decide +kernel) (by decide +kernel) rfl rfl (ba_none rfl) rfl dX11_nothingIsFound_12 (fun s6 H locs q6 hI6 hF6 h => ?_)
  replace hR := bd_to hR q6.symm
  have e7 : s6.1 22 = 1 := (congrArg (fun t : ST => t.1 22) q6).trans e4
  have e8 : s6.1 23 = 1 := (congrArg (fun t : ST => t.1 23) q6).trans e5
  have e9 : s6.1 24 = 1 := congrArg (fun t : ST => t.1 24) q6
  subst hPQ
  exact x_vret E h ⟨hR0.trans hR.symm, hI6, hF6⟩ dX11_nothingIsFound_15
set_option maxHeartbeats 4000000 in
set_option maxRecDepth 100000 in
theorem aX11_rules_0 (l : Launch) (g : CX) (σ : ST) (hI : INV σ)  : XM l g yX11_rules wsX11_rules { frames := 8, cells := 0, slots := 0, locals := 176 } [.ref (g.2.1 0)] σ (XQi g (fun r σ' => fX11_rules_0 σ = (r, σ') ∧ INV σ' ∧ Fr [(0, 1), (22, 24)] [(1, 2)] σ σ')) := by
  refine x_met (own := RX11) (cc := cX11_rules) (maxL := 2) (ret := (some .int)) (lv := [(0, .ref (g.2.1 0))]) (by decide) rfl rfl (Nat.le_of_ble_eq_true rfl) rfl ?_
  intro p e s m args below meth c ls E h hl
  have hx := E.1
  have hb := E.2.1
  have hown := E.2.2.2.1
  have hts := E.2.2.2.2.1
  have hF : Fr [(0, 1), (22, 24)] [(1, 2)] σ σ := Fr.refl σ
  obtain ⟨R, hR0⟩ : ∃ R, fX11_rules_0 σ = R := ⟨_, rfl⟩
  have hR : fX11_rules_0b0 σ = R := hR0
  have hwX11 : ∀ w ∈ wsX110, w ∈ wsX11_rules := by decide +kernel
  generalize hPQ : XQi g (fun r σ' => fX11_rules_0 σ = (r, σ') ∧ INV σ' ∧ Fr [(0, 1), (22, 24)] [(1, 2)] σ σ') = PQz
  refine lv_aload_n hx hb dX11_rules_0 rfl (lv_at hl 0 rfl) ?_
  refine x_getR E h (fr_vh_ruleText g) rfl hwX11 (by decide) (by decide +kernel) dX11_rules_1 ?_
  refine x_vi E h (na := 0) (As := []) (aX8_read_0 l g σ hI) (oc_rt g) rfl gX11_rules_X8_read rfl ⟨rfl, rfl⟩ rfl (by decide +kernel) ⟨Nat.le_of_ble_eq_true rfl, Nat.le_of_ble_eq_true rfl⟩ hl.1 rfl (Nat.le_of_ble_eq_true rfl) dX11_rules_4 ⟨Nat.le_of_ble_eq_true rfl, Nat.le_of_ble_eq_true rfl⟩ (fun r1 s1 H locs q1 h => ?_)
  obtain ⟨x1, hI1, f1⟩ := q1
  replace hR := bp_to hR x1
  have hF1 := hF.call f1 (I := [(0, 1), (22, 24)]) (J := [(1, 2)]) rfl rfl
  refine lv_istore_n (lv' := [(1, .int r1), (0, .ref (g.2.1 0))]) hx hb dX11_rules_7 rfl hl (by decide) rfl (fun ls hl => ?_)
  refine lv_iload_n hx hb dX11_rules_8 rfl (lv_at hl 0 rfl) ?_
  have j16_4 : ∀ (t4 : ST), INV t4 → Fr [(0, 1), (22, 24)] [(1, 2)] σ t4 → fX11_rules_0b16 r1 t4 = R → ∀ (H : Heap) (locs : List Loc) (ls : Array Slot), HW g t4 s H locs → lv_has ls 2 [(1, .int r1), (0, .ref (g.2.1 0))] → W p l e { frames := 8, cells := 0, slots := 0, locals := 176 } s m args below meth c H locs 0 0 (MQ below PQz args s 0 0 (Aw g)) (F0 m 16 ls []) := by
    intro t4 hI_4 hF_4 hR4 H locs ls h hl
    refine lv_iload_n hx hb dX11_rules_16 rfl (lv_at hl 0 rfl) ?_
    subst hPQ
    exact x_iret E h ⟨hR0.trans hR4.symm, hI_4, hF_4⟩ dX11_rules_17
  refine lv_if_lt (tgt := 16) hx hb dX11_rules_9 (by decide) (fun c2 => ?_) (fun c2 => ?_)
  · skip
    replace hR := it_t hR c2
    exact j16_4 s1 hI1 hF1 hR _ _ _ h (lv_sub hl [0, 1] rfl)
  · skip
    replace hR := it_f hR c2
    refine lv_aload_n hx hb dX11_rules_12 rfl (lv_at hl 1 rfl) ?_
    refine x_vv E h (na := 0) (As := []) (aX11_nothingIsFound_0 l g s1 hI1) (oc_vh g) rfl gX11_rules_X11_nothingIsFound rfl ⟨rfl, rfl⟩ rfl (by decide +kernel) ⟨Nat.le_of_ble_eq_true rfl, Nat.le_of_ble_eq_true rfl⟩ hl.1 rfl (Nat.le_of_ble_eq_true rfl) dX11_rules_13 ⟨Nat.le_of_ble_eq_true rfl, Nat.le_of_ble_eq_true rfl⟩ (fun s6 H locs q6 h => ?_)
    obtain ⟨x6, hI6, f6⟩ := q6
    replace hR := bd_to hR x6
    have hF6 := hF1.call f6 (I := [(0, 1), (22, 24)]) (J := [(1, 2)]) rfl rfl
    exact j16_4 s6 hI6 hF6 hR _ _ _ h (lv_sub hl [0, 1] rfl)
set_option maxHeartbeats 4000000 in
set_option maxRecDepth 100000 in
theorem aX8_ruleNow_0 (l : Launch) (g : CX) (σ : ST) (hI : INV σ) (p1 : Int32) : XM l g yX8_ruleNow wsX8_ruleNow { frames := 0, cells := 0, slots := 0, locals := 0 } [.ref (g.2.1 1), .int p1] σ (XQi g (fun r σ' => fX8_ruleNow_0 p1 σ = r ∧ σ = σ')) := by
  refine x_met (own := RX8) (cc := cX8_ruleNow) (maxL := 2) (ret := (some .int)) (lv := [(0, .ref (g.2.1 1)), (1, .int p1)]) (by decide) rfl rfl (Nat.le_of_ble_eq_true rfl) rfl ?_
  intro p e s m args below meth c ls E h hl
  have hx := E.1
  have hb := E.2.1
  have hown := E.2.2.2.1
  have hts := E.2.2.2.2.1
  obtain ⟨R, hR0⟩ : ∃ R, fX8_ruleNow_0 p1 σ = R := ⟨_, rfl⟩
  have hR : fX8_ruleNow_0b0 p1 σ = R := hR0
  have hwX8 : ∀ w ∈ wsX80, w ∈ wsX8_ruleNow := by decide +kernel
  generalize hPQ : XQi g (fun r σ' => fX8_ruleNow_0 p1 σ = r ∧ σ = σ') = PQz
  refine lv_iload_n hx hb dX8_ruleNow_0 rfl (lv_at hl 1 rfl) ?_
  refine lv_if_lt (tgt := 19) hx hb dX8_ruleNow_1 (by decide) (fun c1 => ?_) (fun c1 => ?_)
  · skip
    replace hR := it_t hR c1
    refine lv_iconst (v := 0) hx hb dX8_ruleNow_19 (by decide) ?_
    replace hR : fX8_ruleNow_0b20 0 σ = R := hR
    subst hPQ
    exact x_iret E h ⟨hR0.trans hR.symm, rfl⟩ dX8_ruleNow_20
  · skip
    replace hR := it_f hR c1
    refine lv_iload_n hx hb dX8_ruleNow_4 rfl (lv_at hl 1 rfl) ?_
    refine lv_bipush (v := 6) hx hb dX8_ruleNow_5 (by decide) ?_
    refine lv_icmp_ge (tgt := 19) hx hb dX8_ruleNow_7 (by decide) (fun c4 => ?_) (fun c4 => ?_)
    · skip
      replace hR := it_t hR c4
      refine lv_iconst (v := 0) hx hb dX8_ruleNow_19 (by decide) ?_
      replace hR : fX8_ruleNow_0b20 0 σ = R := hR
      subst hPQ
      exact x_iret E h ⟨hR0.trans hR.symm, rfl⟩ dX8_ruleNow_20
    · skip
      replace hR := it_f hR c4
      obtain ⟨n7, b7, rfl⟩ := y_rnle (N := 6) (y_lo1 c1 (by decide)) c4 (by omega)
      have b8 : 0 ≤ n7 := y_nlt (a := n7) (b := 0) (by omega) (by omega) c1
      have b9 : n7 < 6 := y_nle (a := 6) (b := n7) (by omega) (by omega) c4
      refine lv_aload_n hx hb dX8_ruleNow_10 rfl (lv_at hl 0 rfl) ?_
      refine x_getR E h (fr_rt_now g) rfl hwX8 (by decide) (by decide +kernel) dX8_ruleNow_11 ?_
      refine lv_iload_n hx hb dX8_ruleNow_14 rfl (lv_at hl 1 rfl) ?_
      refine x_ldI E h (ia_rt_now g) (i := nI n7) (vp_in_nI (by omega) (by decide)) (v := σ.2.2 1 n7) (congrArg (σ.2.2 1) (nI_clamp (n := n7) (by omega))) dX8_ruleNow_15 ?_
      replace hR := bd_to hR (congrArg (σ.2.2 1) (nI_clamp (n := n7) (by omega)))
      refine lv_goto (tgt := 20) hx hb dX8_ruleNow_16 (by decide) ?_
      subst hPQ
      exact x_iret E h ⟨hR0.trans hR.symm, rfl⟩ dX8_ruleNow_20
set_option maxHeartbeats 4000000 in
set_option maxRecDepth 100000 in
theorem aX11_rule_0 (l : Launch) (g : CX) (σ : ST) (hI : INV σ) (p1 : Int32) : XM l g yX11_rule wsX11_rule { frames := 1, cells := 0, slots := 0, locals := 22 } [.ref (g.2.1 0), .int p1] σ (XQi g (fun r σ' => fX11_rule_0 p1 σ = r ∧ σ = σ')) := by
  refine x_met (own := RX11) (cc := cX11_rule) (maxL := 2) (ret := (some .int)) (lv := [(0, .ref (g.2.1 0)), (1, .int p1)]) (by decide) rfl rfl (Nat.le_of_ble_eq_true rfl) rfl ?_
  intro p e s m args below meth c ls E h hl
  have hx := E.1
  have hb := E.2.1
  have hown := E.2.2.2.1
  have hts := E.2.2.2.2.1
  obtain ⟨R, hR0⟩ : ∃ R, fX11_rule_0 p1 σ = R := ⟨_, rfl⟩
  have hR : fX11_rule_0b0 p1 σ = R := hR0
  have hwX11 : ∀ w ∈ wsX110, w ∈ wsX11_rule := by decide +kernel
  generalize hPQ : XQi g (fun r σ' => fX11_rule_0 p1 σ = r ∧ σ = σ') = PQz
  refine lv_iload_n hx hb dX11_rule_0 rfl (lv_at hl 1 rfl) ?_
  refine lv_iconst (v := 0) hx hb dX11_rule_1 (by decide) ?_
  refine lv_iconst (v := 5) hx hb dX11_rule_2 (by decide) ?_
  refine x_si E h (na := 3) (As := [.int p1, .int 0, .int 5]) (aX11_within_0 l g σ hI p1 0 5) gX11_rule_X11_within rfl ⟨rfl, rfl⟩ rfl (by decide +kernel) ⟨Nat.le_of_ble_eq_true rfl, Nat.le_of_ble_eq_true rfl⟩ hl.1 rfl (Nat.le_of_ble_eq_true rfl) dX11_rule_3 ⟨Nat.le_of_ble_eq_true rfl, Nat.le_of_ble_eq_true rfl⟩ (fun r1 s1 H locs q1 h => ?_)
  obtain ⟨x1, d1, rfl⟩ := q1
  replace hR := bd_to hR x1
  rcases d1 with ⟨rfl, u1_0_0, u1_0_1⟩ | rfl
  · skip
    obtain ⟨n2, b2, rfl⟩ := y_rnlt (N := 5) (y_lo1 u1_0_0 (by decide)) u1_0_1 (by omega)
    have b3 : 0 ≤ n2 := y_nlt (a := n2) (b := 0) (by omega) (by omega) u1_0_0
    have b4 : n2 ≤ 5 := y_nlt (a := 5) (b := n2) (by omega) (by omega) u1_0_1
    replace hR := it_f hR (by decide)
    refine lv_if_eq (tgt := 20) hx hb dX11_rule_6 (by decide) (fun c => absurd c (by decide)) (fun _ => ?_)
    refine lv_aload_n hx hb dX11_rule_9 rfl (lv_at hl 0 rfl) ?_
    refine x_getR E h (fr_vh_ruleText g) rfl hwX11 (by decide) (by decide +kernel) dX11_rule_10 ?_
    refine lv_iload_n hx hb dX11_rule_13 rfl (lv_at hl 1 rfl) ?_
    refine x_vi E h (na := 1) (As := [.int (nI n2)]) (aX8_ruleNow_0 l g σ hI (nI n2)) (oc_rt g) rfl gX11_rule_X8_ruleNow rfl ⟨rfl, rfl⟩ rfl (by decide +kernel) ⟨Nat.le_of_ble_eq_true rfl, Nat.le_of_ble_eq_true rfl⟩ hl.1 rfl (Nat.le_of_ble_eq_true rfl) dX11_rule_14 ⟨Nat.le_of_ble_eq_true rfl, Nat.le_of_ble_eq_true rfl⟩ (fun r5 s5 H locs q5 h => ?_)
    obtain ⟨x5, rfl⟩ := q5
    replace hR := bd_to hR x5
    refine lv_goto (tgt := 21) hx hb dX11_rule_17 (by decide) ?_
    subst hPQ
    exact x_iret E h ⟨hR0.trans hR.symm, rfl⟩ dX11_rule_21
  · skip
    replace hR := it_t hR (by decide)
    refine lv_if_eq (tgt := 20) hx hb dX11_rule_6 (by decide) (fun _ => ?_) (fun c => absurd (by decide) c)
    refine lv_iconst (v := (-1)) hx hb dX11_rule_20 (by decide) ?_
    replace hR : fX11_rule_0b21 (-1) σ = R := hR
    subst hPQ
    exact x_iret E h ⟨hR0.trans hR.symm, rfl⟩ dX11_rule_21
