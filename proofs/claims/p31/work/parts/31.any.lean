set_option maxHeartbeats 4000000 in
set_option maxRecDepth 100000 in
theorem aX11_isLoudness_0 (l : Launch) (g : CX) (σ : ST) (hI : INV σ) (p0 : Int32) : XM l g yX11_isLoudness wsX11_isLoudness { frames := 1, cells := 0, slots := 0, locals := 22 } [.int p0] σ (XQi g (fun r σ' => fX11_isLoudness_0 p0 σ = r ∧ ((1 = r) ∨ (0 = r)) ∧ σ = σ')) := by
  refine x_met (own := RX11) (cc := cX11_isLoudness) (maxL := 1) (ret := (some .boolean)) (lv := [(0, .int p0)]) (by decide) rfl rfl (Nat.le_of_ble_eq_true rfl) rfl ?_
  intro p e s m args below meth c ls E h hl
  have hx := E.1
  have hb := E.2.1
  have hown := E.2.2.2.1
  have hts := E.2.2.2.2.1
  obtain ⟨R, hR0⟩ : ∃ R, fX11_isLoudness_0 p0 σ = R := ⟨_, rfl⟩
  have hR : fX11_isLoudness_0b0 p0 σ = R := hR0
  generalize hPQ : XQi g (fun r σ' => fX11_isLoudness_0 p0 σ = r ∧ ((1 = r) ∨ (0 = r)) ∧ σ = σ') = PQz
  refine lv_iload_n hx hb dX11_isLoudness_0 rfl (lv_at hl 0 rfl) ?_
  refine lv_iconst (v := 0) hx hb dX11_isLoudness_1 (by decide) ?_
  refine lv_bipush (v := 99) hx hb dX11_isLoudness_2 (by decide) ?_
  refine x_si E h (na := 3) (As := [.int p0, .int 0, .int 99]) (aX11_within_0 l g σ hI p0 0 99) gX11_isLoudness_X11_within rfl ⟨rfl, rfl⟩ rfl (by decide +kernel) ⟨Nat.le_of_ble_eq_true rfl, Nat.le_of_ble_eq_true rfl⟩ hl.1 rfl (Nat.le_of_ble_eq_true rfl) dX11_isLoudness_4 ⟨Nat.le_of_ble_eq_true rfl, Nat.le_of_ble_eq_true rfl⟩ (fun r1 s1 H locs q1 h => ?_)
  obtain ⟨x1, d1, rfl⟩ := q1
  replace hR := bd_to hR x1
  rcases d1 with ⟨rfl, u1_0_0, u1_0_1⟩ | rfl
  · skip
    obtain ⟨n2, b2, rfl⟩ := y_rnlt (N := 99) (y_lo1 u1_0_0 (by decide)) u1_0_1 (by omega)
    have b3 : 0 ≤ n2 := y_nlt (a := n2) (b := 0) (by omega) (by omega) u1_0_0
    have b4 : n2 ≤ 99 := y_nlt (a := 99) (b := n2) (by omega) (by omega) u1_0_1
    subst hPQ
    exact x_zret E h rfl ⟨hR0.trans hR.symm, (Or.inl rfl), rfl⟩ dX11_isLoudness_7
  · skip
    subst hPQ
    exact x_zret E h rfl ⟨hR0.trans hR.symm, (Or.inr (rfl)), rfl⟩ dX11_isLoudness_7
set_option maxHeartbeats 4000000 in
set_option maxRecDepth 100000 in
theorem aX7_addDeaf_0 (l : Launch) (g : CX) (σ : ST) (hI : INV σ)  : XM l g yX7_addDeaf wsX7_addDeaf { frames := 0, cells := 0, slots := 0, locals := 0 } [.ref (g.2.1 5)] σ (XQi g (fun r σ' => fX7_addDeaf_0 σ = (r, σ') ∧ Opt (-3) 48 r ∧ INV σ' ∧ Fr [(2, 2)] [(4, 6)] σ σ')) := by
  refine x_met (own := RX7) (cc := cX7_addDeaf) (maxL := 2) (ret := (some .int)) (lv := [(0, .ref (g.2.1 5))]) (by decide) rfl rfl (Nat.le_of_ble_eq_true rfl) rfl ?_
  intro p e s m args below meth c ls E h hl
  have hx := E.1
  have hb := E.2.1
  have hown := E.2.2.2.1
  have hts := E.2.2.2.2.1
  have hF : Fr [(2, 2)] [(4, 6)] σ σ := Fr.refl σ
  obtain ⟨R, hR0⟩ : ∃ R, fX7_addDeaf_0 σ = R := ⟨_, rfl⟩
  have hR : fX7_addDeaf_0b0 σ = R := hR0
  have hwX7 : ∀ w ∈ wsX70, w ∈ wsX7_addDeaf := by decide +kernel
  generalize hPQ : XQi g (fun r σ' => fX7_addDeaf_0 σ = (r, σ') ∧ Opt (-3) 48 r ∧ INV σ' ∧ Fr [(2, 2)] [(4, 6)] σ σ') = PQz
  refine lv_aload_n hx hb dX7_addDeaf_0 rfl (lv_at hl 0 rfl) ?_
  obtain ⟨n1, b1, e1⟩ := hI.1 2 48 rfl
  refine x_getI E h (fi_bk_rows g) rfl hwX7 (by decide) (by decide +kernel) (v := nI n1) e1 dX7_addDeaf_1 ?_
  replace hR := bd_to hR e1
  refine lv_bipush (v := 48) hx hb dX7_addDeaf_4 (by decide) ?_
  refine lv_icmp_lt (tgt := 12) hx hb dX7_addDeaf_6 (by decide) (fun c2 => ?_) (fun c2 => ?_)
  · skip
    replace hR := it_t hR c2
    have b3 : n1 < 48 := y_lt (a := n1) (b := 48) (by omega) (by omega) c2
    refine lv_aload_n hx hb dX7_addDeaf_12 rfl (lv_at hl 0 rfl) ?_
    refine x_getI E h (fi_bk_rows g) rfl hwX7 (by decide) (by decide +kernel) (v := nI n1) e1 dX7_addDeaf_13 ?_
    replace hR := bd_to hR e1
    refine lv_istore_n (lv' := [(1, .int (nI n1)), (0, .ref (g.2.1 5))]) hx hb dX7_addDeaf_16 rfl hl (by decide) rfl (fun ls hl => ?_)
    refine lv_aload_n hx hb dX7_addDeaf_17 rfl (lv_at hl 1 rfl) ?_
    refine x_getR E h (fr_bk_isDeaf g) rfl hwX7 (by decide) (by decide +kernel) dX7_addDeaf_18 ?_
    refine lv_iload_n hx hb dX7_addDeaf_21 rfl (lv_at hl 0 rfl) ?_
    refine lv_iconst (v := 1) hx hb dX7_addDeaf_22 (by decide) ?_
    refine y_stZ E h hI hF (ia_bk_isDeaf g) (i := nI n1) (vp_in_nI (by omega) (by decide)) (j := n1) (nI_clamp (by omega)) (ba_none rfl) rfl dX7_addDeaf_23 (fun s4 H locs q4 hI4 hF4 h => ?_)
    replace hR := st_to hR (nI_clamp (n := n1) (by omega)) q4
    have e5 : s4.1 2 = nI n1 := (congrArg (fun t : ST => t.1 2) q4).trans e1
    refine lv_aload_n hx hb dX7_addDeaf_24 rfl (lv_at hl 1 rfl) ?_
    refine x_getR E h (fr_bk_isOut g) rfl hwX7 (by decide) (by decide +kernel) dX7_addDeaf_25 ?_
    refine lv_iload_n hx hb dX7_addDeaf_28 rfl (lv_at hl 0 rfl) ?_
    refine lv_iconst (v := 0) hx hb dX7_addDeaf_29 (by decide) ?_
    refine y_stZ E h hI4 hF4 (ia_bk_isOut g) (i := nI n1) (vp_in_nI (by omega) (by decide)) (j := n1) (nI_clamp (by omega)) (ba_none rfl) rfl dX7_addDeaf_30 (fun s6 H locs q6 hI6 hF6 h => ?_)
    replace hR := st_to hR (nI_clamp (n := n1) (by omega)) q6
    have e7 : s6.1 2 = nI n1 := (congrArg (fun t : ST => t.1 2) q6).trans e5
    refine lv_aload_n hx hb dX7_addDeaf_31 rfl (lv_at hl 1 rfl) ?_
    refine x_getR E h (fr_bk_truthOf g) rfl hwX7 (by decide) (by decide +kernel) dX7_addDeaf_32 ?_
    refine lv_iload_n hx hb dX7_addDeaf_35 rfl (lv_at hl 0 rfl) ?_
    refine lv_iconst (v := 0) hx hb dX7_addDeaf_36 (by decide) ?_
    refine y_stI E h hI6 hF6 (ia_bk_truthOf g) (i := nI n1) (vp_in_nI (by omega) (by decide)) (j := n1) (nI_clamp (by omega)) (ba_none rfl) rfl dX7_addDeaf_37 (fun s8 H locs q8 hI8 hF8 h => ?_)
    replace hR := st_to hR (nI_clamp (n := n1) (by omega)) q8
    have e9 : s8.1 2 = nI n1 := (congrArg (fun t : ST => t.1 2) q8).trans e7
    refine lv_aload_n hx hb dX7_addDeaf_38 rfl (lv_at hl 1 rfl) ?_
    refine lv_dup hx hb dX7_addDeaf_39 rfl ?_
    refine x_getI E h (fi_bk_rows g) rfl hwX7 (by decide) (by decide +kernel) (v := nI n1) e9 dX7_addDeaf_40 ?_
    replace hR := bd_to hR e9
    refine lv_iconst (v := 1) hx hb dX7_addDeaf_43 (by decide) ?_
    refine lv_iadd hx hb dX7_addDeaf_44 ?_
    refine x_topI (v2 := nI (n1 + 1)) (nI_add n1 1) ?_
    replace hR := bd_to hR (nI_add n1 1)
    refine y_putI E h hI8 hF8 (ty := .int) (v := nI (n1 + 1)) (fi_bk_rows g) rfl hwX7 tyX7_ok nmX7 (by decide) (by decide +kernel) (by decide +kernel) (by decide +kernel) rfl rfl (ba_some rfl (Bd.mk (n := (n1 + 1)) (by omega))) rfl dX7_addDeaf_45 (fun s10 H locs q10 hI10 hF10 h => ?_)
    replace hR := bd_to hR q10.symm
    have e11 : s10.1 2 = nI (n1 + 1) := congrArg (fun t : ST => t.1 2) q10
    refine lv_iload_n hx hb dX7_addDeaf_48 rfl (lv_at hl 0 rfl) ?_
    subst hPQ
    exact x_iret E h ⟨hR0.trans hR.symm, (Or.inr ⟨n1, by omega, rfl⟩), hI10, hF10⟩ dX7_addDeaf_49
  · skip
    replace hR := it_f hR c2
    have b12 : 48 ≤ n1 := y_nlt (a := n1) (b := 48) (by omega) (by omega) c2
    refine lv_bipush (v := (-3)) hx hb dX7_addDeaf_9 (by decide) ?_
    subst hPQ
    exact x_iret E h ⟨hR0.trans hR.symm, (Or.inl rfl), hI, hF⟩ dX7_addDeaf_11
set_option maxHeartbeats 4000000 in
set_option maxRecDepth 100000 in
theorem aX7_addRow_0 (l : Launch) (g : CX) (σ : ST) (hI : INV σ) (p1 : Int32) (p2 : Int32) (p3 : Int32) (p4 : Int32) : XM l g yX7_addRow wsX7_addRow { frames := 1, cells := 0, slots := 0, locals := 21 } [.ref (g.2.1 5), .int p1, .int p2, .int p3, .int p4] σ (XQi g (fun r σ' => fX7_addRow_0 p1 p2 p3 p4 σ = (r, σ') ∧ INV σ' ∧ Fr [(2, 2)] [(3, 6)] σ σ')) := by
  refine x_met (own := RX7) (cc := cX7_addRow) (maxL := 6) (ret := (some .int)) (lv := [(0, .ref (g.2.1 5)), (1, .int p1), (2, .int p2), (3, .int p3), (4, .int p4)]) (by decide) rfl rfl (Nat.le_of_ble_eq_true rfl) rfl ?_
  intro p e s m args below meth c ls E h hl
  have hx := E.1
  have hb := E.2.1
  have hown := E.2.2.2.1
  have hts := E.2.2.2.2.1
  have hF : Fr [(2, 2)] [(3, 6)] σ σ := Fr.refl σ
  obtain ⟨R, hR0⟩ : ∃ R, fX7_addRow_0 p1 p2 p3 p4 σ = R := ⟨_, rfl⟩
  have hR : fX7_addRow_0b0 p1 p2 p3 p4 σ = R := hR0
  have hwX7 : ∀ w ∈ wsX70, w ∈ wsX7_addRow := by decide +kernel
  generalize hPQ : XQi g (fun r σ' => fX7_addRow_0 p1 p2 p3 p4 σ = (r, σ') ∧ INV σ' ∧ Fr [(2, 2)] [(3, 6)] σ σ') = PQz
  refine lv_aload_n hx hb dX7_addRow_0 rfl (lv_at hl 0 rfl) ?_
  refine x_vi E h (na := 0) (As := []) (aX7_addDeaf_0 l g σ hI) (oc_bk g) rfl gX7_addRow_X7_addDeaf rfl ⟨rfl, rfl⟩ rfl (by decide +kernel) ⟨Nat.le_of_ble_eq_true rfl, Nat.le_of_ble_eq_true rfl⟩ hl.1 rfl (Nat.le_of_ble_eq_true rfl) dX7_addRow_1 ⟨Nat.le_of_ble_eq_true rfl, Nat.le_of_ble_eq_true rfl⟩ (fun r1 s1 H locs q1 h => ?_)
  obtain ⟨x1, d1, hI1, f1⟩ := q1
  replace hR := bp_to hR x1
  have hF1 := hF.call f1 (I := [(2, 2)]) (J := [(3, 6)]) rfl rfl
  refine lv_istore (lv' := [(5, .int r1), (0, .ref (g.2.1 5)), (1, .int p1), (2, .int p2), (3, .int p3), (4, .int p4)]) hx hb dX7_addRow_4 hl (by decide) rfl (fun ls hl => ?_)
  refine lv_iload hx hb dX7_addRow_6 (lv_at hl 0 rfl) ?_
  have j66_4 : ∀ (t4 : ST), INV t4 → Fr [(2, 2)] [(3, 6)] σ t4 → fX7_addRow_0b66 r1 t4 = R → ∀ (H : Heap) (locs : List Loc) (ls : Array Slot), HW g t4 s H locs → lv_has ls 6 [(5, .int r1), (0, .ref (g.2.1 5)), (1, .int p1), (2, .int p2), (3, .int p3), (4, .int p4)] → W p l e { frames := 1, cells := 0, slots := 0, locals := 21 } s m args below meth c H locs 0 0 (MQ below PQz args s 0 0 (Aw g)) (F0 m 66 ls []) := by
    intro t4 hI_4 hF_4 hR4 H locs ls h hl
    refine lv_iload hx hb dX7_addRow_66 (lv_at hl 0 rfl) ?_
    subst hPQ
    exact x_iret E h ⟨hR0.trans hR4.symm, hI_4, hF_4⟩ dX7_addRow_68
  refine lv_if_lt (tgt := 66) hx hb dX7_addRow_8 (by decide) (fun c2 => ?_) (fun c2 => ?_)
  · skip
    replace hR := it_t hR c2
    exact j66_4 s1 hI1 hF1 hR _ _ _ h (lv_sub hl [0, 1, 2, 3, 4, 5] rfl)
  · skip
    replace hR := it_f hR c2
    rcases d1 with rfl | ⟨n6, b6, rfl⟩
    · exact absurd c2 (by decide)
    refine lv_aload_n hx hb dX7_addRow_11 rfl (lv_at hl 1 rfl) ?_
    refine x_getR E h (fr_bk_isDeaf g) rfl hwX7 (by decide) (by decide +kernel) dX7_addRow_12 ?_
    refine lv_iload hx hb dX7_addRow_15 (lv_at hl 0 rfl) ?_
    refine lv_iconst (v := 0) hx hb dX7_addRow_17 (by decide) ?_
    refine y_stZ E h hI1 hF1 (ia_bk_isDeaf g) (i := nI n6) (vp_in_nI (by omega) (by decide)) (j := n6) (nI_clamp (by omega)) (ba_none rfl) rfl dX7_addRow_18 (fun s7 H locs q7 hI7 hF7 h => ?_)
    replace hR := st_to hR (nI_clamp (n := n6) (by omega)) q7
    refine lv_aload_n hx hb dX7_addRow_19 rfl (lv_at hl 1 rfl) ?_
    refine x_getR E h (fr_bk_numbers g) rfl hwX7 (by decide) (by decide +kernel) dX7_addRow_20 ?_
    refine lv_iload hx hb dX7_addRow_23 (lv_at hl 0 rfl) ?_
    refine lv_iconst (v := 4) hx hb dX7_addRow_25 (by decide) ?_
    refine lv_imul hx hb dX7_addRow_26 ?_
    refine x_topI (v2 := nI (n6 * 4)) (pk_mul n6 4) ?_
    replace hR := bd_to hR (pk_mul n6 4)
    refine lv_iload_n hx hb dX7_addRow_27 rfl (lv_at hl 2 rfl) ?_
    refine y_stI E h hI7 hF7 (ia_bk_numbers g) (i := nI (n6 * 4)) (vp_in_nI (by omega) (by decide)) (j := (n6 * 4)) (nI_clamp (by omega)) (ba_none rfl) rfl dX7_addRow_28 (fun s8 H locs q8 hI8 hF8 h => ?_)
    replace hR := st_to hR (nI_clamp (n := n6 * 4) (by omega)) q8
    refine lv_aload_n hx hb dX7_addRow_29 rfl (lv_at hl 1 rfl) ?_
    refine x_getR E h (fr_bk_numbers g) rfl hwX7 (by decide) (by decide +kernel) dX7_addRow_30 ?_
    refine lv_iload hx hb dX7_addRow_33 (lv_at hl 0 rfl) ?_
    refine lv_iconst (v := 4) hx hb dX7_addRow_35 (by decide) ?_
    refine lv_imul hx hb dX7_addRow_36 ?_
    refine x_topI (v2 := nI (n6 * 4)) (pk_mul n6 4) ?_
    replace hR := bd_to hR (pk_mul n6 4)
    refine lv_iconst (v := 1) hx hb dX7_addRow_37 (by decide) ?_
    refine lv_iadd hx hb dX7_addRow_38 ?_
    refine x_topI (v2 := nI ((n6 * 4) + 1)) (nI_add (n6 * 4) 1) ?_
    replace hR := bd_to hR (nI_add (n6 * 4) 1)
    refine lv_iload_n hx hb dX7_addRow_39 rfl (lv_at hl 3 rfl) ?_
    refine y_stI E h hI8 hF8 (ia_bk_numbers g) (i := nI ((n6 * 4) + 1)) (vp_in_nI (by omega) (by decide)) (j := ((n6 * 4) + 1)) (nI_clamp (by omega)) (ba_none rfl) rfl dX7_addRow_40 (fun s9 H locs q9 hI9 hF9 h => ?_)
    replace hR := st_to hR (nI_clamp (n := (n6 * 4) + 1) (by omega)) q9
    refine lv_aload_n hx hb dX7_addRow_41 rfl (lv_at hl 1 rfl) ?_
    refine x_getR E h (fr_bk_numbers g) rfl hwX7 (by decide) (by decide +kernel) dX7_addRow_42 ?_
    refine lv_iload hx hb dX7_addRow_45 (lv_at hl 0 rfl) ?_
    refine lv_iconst (v := 4) hx hb dX7_addRow_47 (by decide) ?_
    refine lv_imul hx hb dX7_addRow_48 ?_
    refine x_topI (v2 := nI (n6 * 4)) (pk_mul n6 4) ?_
    replace hR := bd_to hR (pk_mul n6 4)
    refine lv_iconst (v := 2) hx hb dX7_addRow_49 (by decide) ?_
    refine lv_iadd hx hb dX7_addRow_50 ?_
    refine x_topI (v2 := nI ((n6 * 4) + 2)) (nI_add (n6 * 4) 2) ?_
    replace hR := bd_to hR (nI_add (n6 * 4) 2)
    refine lv_iload_n hx hb dX7_addRow_51 rfl (lv_at hl 4 rfl) ?_
    refine y_stI E h hI9 hF9 (ia_bk_numbers g) (i := nI ((n6 * 4) + 2)) (vp_in_nI (by omega) (by decide)) (j := ((n6 * 4) + 2)) (nI_clamp (by omega)) (ba_none rfl) rfl dX7_addRow_52 (fun s10 H locs q10 hI10 hF10 h => ?_)
    replace hR := st_to hR (nI_clamp (n := (n6 * 4) + 2) (by omega)) q10
    refine lv_aload_n hx hb dX7_addRow_53 rfl (lv_at hl 1 rfl) ?_
    refine x_getR E h (fr_bk_numbers g) rfl hwX7 (by decide) (by decide +kernel) dX7_addRow_54 ?_
    refine lv_iload hx hb dX7_addRow_57 (lv_at hl 0 rfl) ?_
    refine lv_iconst (v := 4) hx hb dX7_addRow_59 (by decide) ?_
    refine lv_imul hx hb dX7_addRow_60 ?_
    refine x_topI (v2 := nI (n6 * 4)) (pk_mul n6 4) ?_
    replace hR := bd_to hR (pk_mul n6 4)
    refine lv_iconst (v := 3) hx hb dX7_addRow_61 (by decide) ?_
    refine lv_iadd hx hb dX7_addRow_62 ?_
    refine x_topI (v2 := nI ((n6 * 4) + 3)) (nI_add (n6 * 4) 3) ?_
    replace hR := bd_to hR (nI_add (n6 * 4) 3)
    refine lv_iload hx hb dX7_addRow_63 (lv_at hl 5 rfl) ?_
    refine y_stI E h hI10 hF10 (ia_bk_numbers g) (i := nI ((n6 * 4) + 3)) (vp_in_nI (by omega) (by decide)) (j := ((n6 * 4) + 3)) (nI_clamp (by omega)) (ba_none rfl) rfl dX7_addRow_65 (fun s11 H locs q11 hI11 hF11 h => ?_)
    replace hR := st_to hR (nI_clamp (n := (n6 * 4) + 3) (by omega)) q11
    exact j66_4 s11 hI11 hF11 hR _ _ _ h (lv_sub hl [0, 1, 2, 3, 4, 5] rfl)
set_option maxHeartbeats 4000000 in
set_option maxRecDepth 100000 in
theorem aX11_row_0 (l : Launch) (g : CX) (σ : ST) (hI : INV σ) (p1 : Int32) (p2 : Int32) (p3 : Int32) (p4 : Int32) : XM l g yX11_row wsX11_row { frames := 2, cells := 0, slots := 0, locals := 46 } [.ref (g.2.1 0), .int p1, .int p2, .int p3, .int p4] σ (XQi g (fun r σ' => fX11_row_0 p1 p2 p3 p4 σ = (r, σ') ∧ INV σ' ∧ Fr [(2, 2), (22, 24)] [(3, 6)] σ σ')) := by
  refine x_met (own := RX11) (cc := cX11_row) (maxL := 5) (ret := (some .int)) (lv := [(0, .ref (g.2.1 0)), (1, .int p1), (2, .int p2), (3, .int p3), (4, .int p4)]) (by decide) rfl rfl (Nat.le_of_ble_eq_true rfl) rfl ?_
  intro p e s m args below meth c ls E h hl
  have hx := E.1
  have hb := E.2.1
  have hown := E.2.2.2.1
  have hts := E.2.2.2.2.1
  have hF : Fr [(2, 2), (22, 24)] [(3, 6)] σ σ := Fr.refl σ
  obtain ⟨R, hR0⟩ : ∃ R, fX11_row_0 p1 p2 p3 p4 σ = R := ⟨_, rfl⟩
  have hR : fX11_row_0b0 p1 p2 p3 p4 σ = R := hR0
  have hwX11 : ∀ w ∈ wsX110, w ∈ wsX11_row := by decide +kernel
  have hwX7 : ∀ w ∈ wsX70, w ∈ wsX11_row := by decide +kernel
  generalize hPQ : XQi g (fun r σ' => fX11_row_0 p1 p2 p3 p4 σ = (r, σ') ∧ INV σ' ∧ Fr [(2, 2), (22, 24)] [(3, 6)] σ σ') = PQz
  refine lv_iload_n hx hb dX11_row_0 rfl (lv_at hl 1 rfl) ?_
  refine x_si E h (na := 1) (As := [.int p1]) (aX11_isLoudness_0 l g σ hI p1) gX11_row_X11_isLoudness rfl ⟨rfl, rfl⟩ rfl (by decide +kernel) ⟨Nat.le_of_ble_eq_true rfl, Nat.le_of_ble_eq_true rfl⟩ hl.1 rfl (Nat.le_of_ble_eq_true rfl) dX11_row_1 ⟨Nat.le_of_ble_eq_true rfl, Nat.le_of_ble_eq_true rfl⟩ (fun r1 s1 H locs q1 h => ?_)
  obtain ⟨x1, d1, rfl⟩ := q1
  replace hR := bd_to hR x1
  rcases d1 with rfl | rfl
  · skip
    replace hR := it_f hR (by decide)
    refine lv_if_eq (tgt := 29) hx hb dX11_row_4 (by decide) (fun c => absurd c (by decide)) (fun _ => ?_)
    refine lv_iload_n hx hb dX11_row_7 rfl (lv_at hl 2 rfl) ?_
    refine x_si E h (na := 1) (As := [.int p2]) (aX11_isLoudness_0 l g σ hI p2) gX11_row_X11_isLoudness rfl ⟨rfl, rfl⟩ rfl (by decide +kernel) ⟨Nat.le_of_ble_eq_true rfl, Nat.le_of_ble_eq_true rfl⟩ hl.1 rfl (Nat.le_of_ble_eq_true rfl) dX11_row_8 ⟨Nat.le_of_ble_eq_true rfl, Nat.le_of_ble_eq_true rfl⟩ (fun r2 s2 H locs q2 h => ?_)
    obtain ⟨x2, d2, rfl⟩ := q2
    replace hR := bd_to hR x2
    rcases d2 with rfl | rfl
    · skip
      replace hR := it_f hR (by decide)
      refine lv_if_eq (tgt := 29) hx hb dX11_row_11 (by decide) (fun c => absurd c (by decide)) (fun _ => ?_)
      refine lv_iload_n hx hb dX11_row_14 rfl (lv_at hl 3 rfl) ?_
      refine x_si E h (na := 1) (As := [.int p3]) (aX11_isLoudness_0 l g σ hI p3) gX11_row_X11_isLoudness rfl ⟨rfl, rfl⟩ rfl (by decide +kernel) ⟨Nat.le_of_ble_eq_true rfl, Nat.le_of_ble_eq_true rfl⟩ hl.1 rfl (Nat.le_of_ble_eq_true rfl) dX11_row_15 ⟨Nat.le_of_ble_eq_true rfl, Nat.le_of_ble_eq_true rfl⟩ (fun r3 s3 H locs q3 h => ?_)
      obtain ⟨x3, d3, rfl⟩ := q3
      replace hR := bd_to hR x3
      rcases d3 with rfl | rfl
      · skip
        replace hR := it_f hR (by decide)
        refine lv_if_eq (tgt := 29) hx hb dX11_row_18 (by decide) (fun c => absurd c (by decide)) (fun _ => ?_)
        refine lv_iload hx hb dX11_row_21 (lv_at hl 4 rfl) ?_
        refine x_si E h (na := 1) (As := [.int p4]) (aX11_isLoudness_0 l g σ hI p4) gX11_row_X11_isLoudness rfl ⟨rfl, rfl⟩ rfl (by decide +kernel) ⟨Nat.le_of_ble_eq_true rfl, Nat.le_of_ble_eq_true rfl⟩ hl.1 rfl (Nat.le_of_ble_eq_true rfl) dX11_row_23 ⟨Nat.le_of_ble_eq_true rfl, Nat.le_of_ble_eq_true rfl⟩ (fun r4 s4 H locs q4 h => ?_)
        obtain ⟨x4, d4, rfl⟩ := q4
        replace hR := bd_to hR x4
        rcases d4 with rfl | rfl
        · skip
          replace hR := it_f hR (by decide)
          refine lv_if_ne (tgt := 31) hx hb dX11_row_26 (by decide) (fun _ => ?_) (fun c => absurd c (by decide))
          refine lv_aload_n hx hb dX11_row_31 rfl (lv_at hl 0 rfl) ?_
          refine x_getR E h (fr_vh_book g) rfl hwX11 (by decide) (by decide +kernel) dX11_row_32 ?_
          obtain ⟨n5, b5, e5⟩ := hI.1 2 48 rfl
          refine x_getIN E h (fi_bk_rows g) rfl hwX7 (by decide) (by decide +kernel) (v := nI n5) e5 dX11_row_35 ?_
          replace hR := bd_to hR e5
          refine lv_bipush (v := 48) hx hb dX11_row_38 (by decide) ?_
          refine lv_icmp_lt (tgt := 46) hx hb dX11_row_40 (by decide) (fun c6 => ?_) (fun c6 => ?_)
          · skip
            replace hR := it_t hR c6
            have b7 : n5 < 48 := y_lt (a := n5) (b := 48) (by omega) (by omega) c6
            refine lv_aload_n hx hb dX11_row_46 rfl (lv_at hl 0 rfl) ?_
            refine x_vv E h (na := 0) (As := []) (aX11_nothingIsFound_0 l g σ hI) (oc_vh g) rfl gX11_row_X11_nothingIsFound rfl ⟨rfl, rfl⟩ rfl (by decide +kernel) ⟨Nat.le_of_ble_eq_true rfl, Nat.le_of_ble_eq_true rfl⟩ hl.1 rfl (Nat.le_of_ble_eq_true rfl) dX11_row_47 ⟨Nat.le_of_ble_eq_true rfl, Nat.le_of_ble_eq_true rfl⟩ (fun s8 H locs q8 h => ?_)
            obtain ⟨x8, hI8, f8⟩ := q8
            replace hR := bd_to hR x8
            have hF8 := hF.call f8 (I := [(2, 2), (22, 24)]) (J := [(3, 6)]) rfl rfl
            have e9 : s8.1 2 = nI n5 := ((f8.1 2 rfl)).trans e5
            refine lv_aload_n hx hb dX11_row_50 rfl (lv_at hl 0 rfl) ?_
            refine x_getR E h (fr_vh_book g) rfl hwX11 (by decide) (by decide +kernel) dX11_row_51 ?_
            refine lv_iload_n hx hb dX11_row_54 rfl (lv_at hl 1 rfl) ?_
            refine lv_iload_n hx hb dX11_row_55 rfl (lv_at hl 2 rfl) ?_
            refine lv_iload_n hx hb dX11_row_56 rfl (lv_at hl 3 rfl) ?_
            refine lv_iload hx hb dX11_row_57 (lv_at hl 4 rfl) ?_
            refine x_vi E h (na := 4) (As := [.int p1, .int p2, .int p3, .int p4]) (aX7_addRow_0 l g s8 hI8 p1 p2 p3 p4) (oc_bk g) rfl gX11_row_X7_addRow rfl ⟨rfl, rfl⟩ rfl (by decide +kernel) ⟨Nat.le_of_ble_eq_true rfl, Nat.le_of_ble_eq_true rfl⟩ hl.1 rfl (Nat.le_of_ble_eq_true rfl) dX11_row_59 ⟨Nat.le_of_ble_eq_true rfl, Nat.le_of_ble_eq_true rfl⟩ (fun r10 s10 H locs q10 h => ?_)
            obtain ⟨x10, hI10, f10⟩ := q10
            replace hR := bp_to hR x10
            have hF10 := hF8.call f10 (I := [(2, 2), (22, 24)]) (J := [(3, 6)]) rfl rfl
            subst hPQ
            exact x_iret E h ⟨hR0.trans hR.symm, hI10, hF10⟩ dX11_row_62
          · skip
            replace hR := it_f hR c6
            have b11 : 48 ≤ n5 := y_nlt (a := n5) (b := 48) (by omega) (by omega) c6
            refine lv_bipush (v := (-3)) hx hb dX11_row_43 (by decide) ?_
            subst hPQ
            exact x_iret E h ⟨hR0.trans hR.symm, hI, hF⟩ dX11_row_45
        · skip
          replace hR := it_t hR (by decide)
          refine lv_if_ne (tgt := 31) hx hb dX11_row_26 (by decide) (fun c => absurd (by decide) c) (fun _ => ?_)
          refine lv_iconst (v := (-1)) hx hb dX11_row_29 (by decide) ?_
          subst hPQ
          exact x_iret E h ⟨hR0.trans hR.symm, hI, hF⟩ dX11_row_30
      · skip
        replace hR := it_t hR (by decide)
        refine lv_if_eq (tgt := 29) hx hb dX11_row_18 (by decide) (fun _ => ?_) (fun c => absurd (by decide) c)
        refine lv_iconst (v := (-1)) hx hb dX11_row_29 (by decide) ?_
        subst hPQ
        exact x_iret E h ⟨hR0.trans hR.symm, hI, hF⟩ dX11_row_30
    · skip
      replace hR := it_t hR (by decide)
      refine lv_if_eq (tgt := 29) hx hb dX11_row_11 (by decide) (fun _ => ?_) (fun c => absurd (by decide) c)
      refine lv_iconst (v := (-1)) hx hb dX11_row_29 (by decide) ?_
      subst hPQ
      exact x_iret E h ⟨hR0.trans hR.symm, hI, hF⟩ dX11_row_30
  · skip
    replace hR := it_t hR (by decide)
    refine lv_if_eq (tgt := 29) hx hb dX11_row_4 (by decide) (fun _ => ?_) (fun c => absurd (by decide) c)
    refine lv_iconst (v := (-1)) hx hb dX11_row_29 (by decide) ?_
    subst hPQ
    exact x_iret E h ⟨hR0.trans hR.symm, hI, hF⟩ dX11_row_30
set_option maxHeartbeats 4000000 in
set_option maxRecDepth 100000 in
theorem aX11_deaf_0 (l : Launch) (g : CX) (σ : ST) (hI : INV σ) (p1 : Int32) : XM l g yX11_deaf wsX11_deaf { frames := 1, cells := 0, slots := 0, locals := 22 } [.ref (g.2.1 0), .int p1] σ (XQi g (fun r σ' => fX11_deaf_0 p1 σ = (r, σ') ∧ INV σ' ∧ Fr [(2, 2), (22, 24)] [(4, 6)] σ σ')) := by
  refine x_met (own := RX11) (cc := cX11_deaf) (maxL := 3) (ret := (some .int)) (lv := [(0, .ref (g.2.1 0)), (1, .int p1)]) (by decide) rfl rfl (Nat.le_of_ble_eq_true rfl) rfl ?_
  intro p e s m args below meth c ls E h hl
  have hx := E.1
  have hb := E.2.1
  have hown := E.2.2.2.1
  have hts := E.2.2.2.2.1
  have hF : Fr [(2, 2), (22, 24)] [(4, 6)] σ σ := Fr.refl σ
  obtain ⟨R, hR0⟩ : ∃ R, fX11_deaf_0 p1 σ = R := ⟨_, rfl⟩
  have hR : fX11_deaf_0b0 p1 σ = R := hR0
  have hwX11 : ∀ w ∈ wsX110, w ∈ wsX11_deaf := by decide +kernel
  have hwX7 : ∀ w ∈ wsX70, w ∈ wsX11_deaf := by decide +kernel
  generalize hPQ : XQi g (fun r σ' => fX11_deaf_0 p1 σ = (r, σ') ∧ INV σ' ∧ Fr [(2, 2), (22, 24)] [(4, 6)] σ σ') = PQz
  refine lv_iload_n hx hb dX11_deaf_0 rfl (lv_at hl 1 rfl) ?_
  refine lv_iconst (v := 1) hx hb dX11_deaf_1 (by decide) ?_
  refine lv_bipush (v := 9) hx hb dX11_deaf_2 (by decide) ?_
  refine x_si E h (na := 3) (As := [.int p1, .int 1, .int 9]) (aX11_within_0 l g σ hI p1 1 9) gX11_deaf_X11_within rfl ⟨rfl, rfl⟩ rfl (by decide +kernel) ⟨Nat.le_of_ble_eq_true rfl, Nat.le_of_ble_eq_true rfl⟩ hl.1 rfl (Nat.le_of_ble_eq_true rfl) dX11_deaf_4 ⟨Nat.le_of_ble_eq_true rfl, Nat.le_of_ble_eq_true rfl⟩ (fun r1 s1 H locs q1 h => ?_)
  obtain ⟨x1, d1, rfl⟩ := q1
  replace hR := bd_to hR x1
  rcases d1 with ⟨rfl, u1_0_0, u1_0_1⟩ | rfl
  · skip
    obtain ⟨n2, b2, rfl⟩ := y_rnlt (N := 9) (y_lo1 u1_0_0 (by decide)) u1_0_1 (by omega)
    have b3 : 1 ≤ n2 := y_nlt (a := n2) (b := 1) (by omega) (by omega) u1_0_0
    have b4 : n2 ≤ 9 := y_nlt (a := 9) (b := n2) (by omega) (by omega) u1_0_1
    replace hR := it_f hR (by decide)
    refine lv_if_ne (tgt := 12) hx hb dX11_deaf_7 (by decide) (fun _ => ?_) (fun c => absurd c (by decide))
    refine lv_aload_n hx hb dX11_deaf_12 rfl (lv_at hl 0 rfl) ?_
    refine x_getR E h (fr_vh_book g) rfl hwX11 (by decide) (by decide +kernel) dX11_deaf_13 ?_
    obtain ⟨n5, b5, e5⟩ := hI.1 2 48 rfl
    refine x_getIN E h (fi_bk_rows g) rfl hwX7 (by decide) (by decide +kernel) (v := nI n5) e5 dX11_deaf_16 ?_
    replace hR := bd_to hR e5
    refine lv_iload_n hx hb dX11_deaf_19 rfl (lv_at hl 1 rfl) ?_
    refine lv_iadd hx hb dX11_deaf_20 ?_
    refine x_topI (v2 := nI (n5 + n2)) (nI_add n5 n2) ?_
    replace hR := bd_to hR (nI_add n5 n2)
    refine lv_bipush (v := 48) hx hb dX11_deaf_21 (by decide) ?_
    refine lv_icmp_le (tgt := 29) hx hb dX11_deaf_23 (by decide) (fun c6 => ?_) (fun c6 => ?_)
    · skip
      replace hR := it_t hR c6
      have b7 : (n5 + n2) ≤ 48 := y_le (a := (n5 + n2)) (b := 48) (by omega) (by omega) c6
      refine lv_aload_n hx hb dX11_deaf_29 rfl (lv_at hl 0 rfl) ?_
      refine x_vv E h (na := 0) (As := []) (aX11_nothingIsFound_0 l g σ hI) (oc_vh g) rfl gX11_deaf_X11_nothingIsFound rfl ⟨rfl, rfl⟩ rfl (by decide +kernel) ⟨Nat.le_of_ble_eq_true rfl, Nat.le_of_ble_eq_true rfl⟩ hl.1 rfl (Nat.le_of_ble_eq_true rfl) dX11_deaf_30 ⟨Nat.le_of_ble_eq_true rfl, Nat.le_of_ble_eq_true rfl⟩ (fun s8 H locs q8 h => ?_)
      obtain ⟨x8, hI8, f8⟩ := q8
      replace hR := bd_to hR x8
      have hF8 := hF.call f8 (I := [(2, 2), (22, 24)]) (J := [(4, 6)]) rfl rfl
      have e9 : s8.1 2 = nI n5 := ((f8.1 2 rfl)).trans e5
      refine lv_iconst (v := 0) hx hb dX11_deaf_33 (by decide) ?_
      refine lv_istore_n (lv' := [(2, .int 0), (0, .ref (g.2.1 0)), (1, .int (nI n2))]) hx hb dX11_deaf_34 rfl hl (by decide) rfl (fun ls hl => ?_)
      have loop35_10 : ∀ (fu : Nat) (t10 : ST) (i10_2 : Nat), INV t10 → Fr [(2, 2), (22, 24)] [(4, 6)] σ t10 → i10_2 ≤ n2 → fX11_deaf_0l35 fu (nI n2) (nI i10_2) t10 = R → n2 - i10_2 < fu → ∀ (H : Heap) (locs : List Loc) (ls : Array Slot), HW g t10 s H locs → lv_has ls 3 [(2, .int (nI i10_2)), (0, .ref (g.2.1 0)), (1, .int (nI n2))] → W p l e { frames := 1, cells := 0, slots := 0, locals := 22 } s m args below meth c H locs 0 0 (MQ below PQz args s 0 0 (Aw g)) (F0 m 35 ls []) := by
        intro fu10
        induction fu10 with
        | zero => intro t10 i10_2 hI_10 hF_10 bi10_2 hR10 hm; exact absurd hm (Nat.not_lt_zero _)
        | succ fu10 ih =>
          have ih10 := ih
          clear ih
          intro t10 i10_2 hI_10 hF_10 bi10_2 hR10 hm10 H locs ls h hl
          replace hR10 : fX11_deaf_0b35 (fX11_deaf_0l35 fu10) (nI n2) (nI i10_2) t10 = R := hR10
          refine lv_iload_n hx hb dX11_deaf_35 rfl (lv_at hl 0 rfl) ?_
          refine lv_iload_n hx hb dX11_deaf_36 rfl (lv_at hl 2 rfl) ?_
          refine lv_icmp_ge (tgt := 54) hx hb dX11_deaf_37 (by decide) (fun c11 => ?_) (fun c11 => ?_)
          · skip
            replace hR10 := it_t hR10 c11
            have b12 : n2 ≤ i10_2 := y_le (a := n2) (b := i10_2) (by omega) (by omega) c11
            refine lv_aload_n hx hb dX11_deaf_54 rfl (lv_at hl 1 rfl) ?_
            refine x_getR E h (fr_vh_book g) rfl hwX11 (by decide) (by decide +kernel) dX11_deaf_55 ?_
            obtain ⟨n13, b13, e13⟩ := hI_10.1 2 48 rfl
            refine x_getIN E h (fi_bk_rows g) rfl hwX7 (by decide) (by decide +kernel) (v := nI n13) e13 dX11_deaf_58 ?_
            replace hR10 := bd_to hR10 e13
            subst hPQ
            exact x_iret E h ⟨hR0.trans hR10.symm, hI_10, hF_10⟩ dX11_deaf_61
          · skip
            replace hR10 := it_f hR10 c11
            have b14 : i10_2 < n2 := y_nle (a := n2) (b := i10_2) (by omega) (by omega) c11
            refine lv_aload_n hx hb dX11_deaf_40 rfl (lv_at hl 1 rfl) ?_
            refine x_getR E h (fr_vh_book g) rfl hwX11 (by decide) (by decide +kernel) dX11_deaf_41 ?_
            refine x_vi E h (na := 0) (As := []) (aX7_addDeaf_0 l g t10 hI_10) (oc_bk g) rfl gX11_deaf_X7_addDeaf rfl ⟨rfl, rfl⟩ rfl (by decide +kernel) ⟨Nat.le_of_ble_eq_true rfl, Nat.le_of_ble_eq_true rfl⟩ hl.1 rfl (Nat.le_of_ble_eq_true rfl) dX11_deaf_44 ⟨Nat.le_of_ble_eq_true rfl, Nat.le_of_ble_eq_true rfl⟩ (fun r15 s15 H locs q15 h => ?_)
            obtain ⟨x15, d15, hI15, f15⟩ := q15
            replace hR10 := bp_to hR10 x15
            have hF15 := hF_10.call f15 (I := [(2, 2), (22, 24)]) (J := [(4, 6)]) rfl rfl
            refine lv_pop hx hb dX11_deaf_47 rfl ?_
            replace hR10 := bd_to hR10 (nI_add i10_2 1)
            refine lv_iinc (v := (nI (i10_2 + 1))) (lv' := [(2, .int (nI (i10_2 + 1))), (0, .ref (g.2.1 0)), (1, .int (nI n2))]) hx hb dX11_deaf_48 hl (k := 0) rfl (nI_add i10_2 1) (by decide) rfl (fun ls hl => ?_)
            refine lv_goto (tgt := 35) hx hb dX11_deaf_51 (by decide) ?_
            exact ih10 s15 (i10_2 + 1) hI15 hF15 (by omega) hR10 (by omega) _ _ _ h (lv_sub hl [0, 1, 2] rfl)
      exact loop35_10 4096 s8 0 hI8 hF8 (Nat.zero_le _) hR (by omega) _ _ _ h (lv_sub hl [0, 1, 2] rfl)
    · skip
      replace hR := it_f hR c6
      have b16 : 48 < (n5 + n2) := y_nle (a := (n5 + n2)) (b := 48) (by omega) (by omega) c6
      refine lv_bipush (v := (-3)) hx hb dX11_deaf_26 (by decide) ?_
      subst hPQ
      exact x_iret E h ⟨hR0.trans hR.symm, hI, hF⟩ dX11_deaf_28
  · skip
    replace hR := it_t hR (by decide)
    refine lv_if_ne (tgt := 12) hx hb dX11_deaf_7 (by decide) (fun c => absurd (by decide) c) (fun _ => ?_)
    refine lv_iconst (v := (-1)) hx hb dX11_deaf_10 (by decide) ?_
    subst hPQ
    exact x_iret E h ⟨hR0.trans hR.symm, hI, hF⟩ dX11_deaf_11
set_option maxHeartbeats 4000000 in
set_option maxRecDepth 100000 in
theorem aX11_areRows_0 (l : Launch) (g : CX) (σ : ST) (hI : INV σ) (p1 : Int32) (p2 : Int32) : XM l g yX11_areRows wsX11_areRows { frames := 0, cells := 0, slots := 0, locals := 0 } [.ref (g.2.1 0), .int p1, .int p2] σ (XQi g (fun r σ' => fX11_areRows_0 p1 p2 σ = r ∧ ((1 = r ∧ ∃ f t R : Nat, σ.1 2 = nI R ∧ f ≤ t ∧ t < R ∧ R ≤ 48 ∧ p1 = nI f ∧ p2 = nI t) ∨ (0 = r)) ∧ σ = σ')) := by
  refine x_met (own := RX11) (cc := cX11_areRows) (maxL := 3) (ret := (some .boolean)) (lv := [(0, .ref (g.2.1 0)), (1, .int p1), (2, .int p2)]) (by decide) rfl rfl (Nat.le_of_ble_eq_true rfl) rfl ?_
  intro p e s m args below meth c ls E h hl
  have hx := E.1
  have hb := E.2.1
  have hown := E.2.2.2.1
  have hts := E.2.2.2.2.1
  obtain ⟨R, hR0⟩ : ∃ R, fX11_areRows_0 p1 p2 σ = R := ⟨_, rfl⟩
  have hR : fX11_areRows_0b0 p1 p2 σ = R := hR0
  have hwX11 : ∀ w ∈ wsX110, w ∈ wsX11_areRows := by decide +kernel
  have hwX7 : ∀ w ∈ wsX70, w ∈ wsX11_areRows := by decide +kernel
  generalize hPQ : XQi g (fun r σ' => fX11_areRows_0 p1 p2 σ = r ∧ ((1 = r ∧ ∃ f t R : Nat, σ.1 2 = nI R ∧ f ≤ t ∧ t < R ∧ R ≤ 48 ∧ p1 = nI f ∧ p2 = nI t) ∨ (0 = r)) ∧ σ = σ') = PQz
  refine lv_iload_n hx hb dX11_areRows_0 rfl (lv_at hl 1 rfl) ?_
  refine lv_if_lt (tgt := 24) hx hb dX11_areRows_1 (by decide) (fun c1 => ?_) (fun c1 => ?_)
  · skip
    replace hR := it_t hR c1
    refine lv_iconst (v := 0) hx hb dX11_areRows_24 (by decide) ?_
    replace hR : fX11_areRows_0b25 0 σ = R := hR
    subst hPQ
    exact x_zret E h rfl ⟨hR0.trans hR.symm, (Or.inr (rfl)), rfl⟩ dX11_areRows_25
  · skip
    replace hR := it_f hR c1
    refine lv_iload_n hx hb dX11_areRows_4 rfl (lv_at hl 1 rfl) ?_
    refine lv_iload_n hx hb dX11_areRows_5 rfl (lv_at hl 2 rfl) ?_
    refine lv_icmp_gt (tgt := 24) hx hb dX11_areRows_6 (by decide) (fun c4 => ?_) (fun c4 => ?_)
    · skip
      replace hR := it_t hR c4
      refine lv_iconst (v := 0) hx hb dX11_areRows_24 (by decide) ?_
      replace hR : fX11_areRows_0b25 0 σ = R := hR
      subst hPQ
      exact x_zret E h rfl ⟨hR0.trans hR.symm, (Or.inr (rfl)), rfl⟩ dX11_areRows_25
    · skip
      replace hR := it_f hR c4
      refine lv_iload_n hx hb dX11_areRows_9 rfl (lv_at hl 2 rfl) ?_
      refine lv_aload_n hx hb dX11_areRows_10 rfl (lv_at hl 0 rfl) ?_
      refine x_getR E h (fr_vh_book g) rfl hwX11 (by decide) (by decide +kernel) dX11_areRows_11 ?_
      obtain ⟨n7, b7, e7⟩ := hI.1 2 48 rfl
      refine x_getIN E h (fi_bk_rows g) rfl hwX7 (by decide) (by decide +kernel) (v := nI n7) e7 dX11_areRows_14 ?_
      replace hR := bd_to hR e7
      refine lv_icmp_ge (tgt := 24) hx hb dX11_areRows_17 (by decide) (fun c8 => ?_) (fun c8 => ?_)
      · skip
        replace hR := it_t hR c8
        refine lv_iconst (v := 0) hx hb dX11_areRows_24 (by decide) ?_
        replace hR : fX11_areRows_0b25 0 σ = R := hR
        subst hPQ
        exact x_zret E h rfl ⟨hR0.trans hR.symm, (Or.inr (rfl)), rfl⟩ dX11_areRows_25
      · skip
        replace hR := it_f hR c8
        obtain ⟨n11, b11, rfl⟩ := y_rnle (N := n7) (y_lo7 (y_lo1 c1 (by decide)) c4) c8 (by omega)
        obtain ⟨n12, b12, rfl⟩ := y_rnlt (N := n11) (y_lo1 c1 (by decide)) c4 (by omega)
        have b13 : 0 ≤ n12 := y_nlt (a := n12) (b := 0) (by omega) (by omega) c1
        have b14 : n12 ≤ n11 := y_nlt (a := n11) (b := n12) (by omega) (by omega) c4
        have b15 : n11 < n7 := y_nle (a := n7) (b := n11) (by omega) (by omega) c8
        refine lv_iconst (v := 1) hx hb dX11_areRows_20 (by decide) ?_
        refine lv_goto (tgt := 25) hx hb dX11_areRows_21 (by decide) ?_
        replace hR : fX11_areRows_0b25 1 σ = R := hR
        subst hPQ
        exact x_zret E h rfl ⟨hR0.trans hR.symm, (Or.inl ⟨rfl, n12, n11, n7, e7, (by omega), (by omega), (by omega), rfl, rfl⟩), rfl⟩ dX11_areRows_25
set_option maxHeartbeats 4000000 in
set_option maxRecDepth 100000 in
theorem aX7_setOut_0 (l : Launch) (g : CX) (σ : ST) (hI : INV σ) (p1 : Nat) (p2 : Nat) (p3 : Int32) (hh0 : p1 ≤ p2) (hh1 : p2 < 48) : XM l g yX7_setOut wsX7_setOut { frames := 1, cells := 0, slots := 0, locals := 21 } [.ref (g.2.1 5), .int (nI p1), .int (nI p2), .int p3] σ (XQi g (fun r σ' => fX7_setOut_0 (nI p1) (nI p2) p3 σ = (r, σ') ∧ INV σ' ∧ Fr [] [(5, 5)] σ σ')) := by
  refine x_met (own := RX7) (cc := cX7_setOut) (maxL := 6) (ret := (some .int)) (lv := [(0, .ref (g.2.1 5)), (1, .int (nI p1)), (2, .int (nI p2)), (3, .int p3)]) (by decide) rfl rfl (Nat.le_of_ble_eq_true rfl) rfl ?_
  intro p e s m args below meth c ls E h hl
  have hx := E.1
  have hb := E.2.1
  have hown := E.2.2.2.1
  have hts := E.2.2.2.2.1
  have hF : Fr [] [(5, 5)] σ σ := Fr.refl σ
  obtain ⟨R, hR0⟩ : ∃ R, fX7_setOut_0 (nI p1) (nI p2) p3 σ = R := ⟨_, rfl⟩
  have hR : fX7_setOut_0b0 (nI p1) (nI p2) p3 σ = R := hR0
  have hwX7 : ∀ w ∈ wsX70, w ∈ wsX7_setOut := by decide +kernel
  generalize hPQ : XQi g (fun r σ' => fX7_setOut_0 (nI p1) (nI p2) p3 σ = (r, σ') ∧ INV σ' ∧ Fr [] [(5, 5)] σ σ') = PQz
  refine lv_iconst (v := 0) hx hb dX7_setOut_0 (by decide) ?_
  refine lv_istore (lv' := [(4, .int 0), (0, .ref (g.2.1 5)), (1, .int (nI p1)), (2, .int (nI p2)), (3, .int p3)]) hx hb dX7_setOut_1 hl (by decide) rfl (fun ls hl => ?_)
  refine lv_iload_n hx hb dX7_setOut_3 rfl (lv_at hl 2 rfl) ?_
  refine lv_iconst (v := 0) hx hb dX7_setOut_4 (by decide) ?_
  refine x_max E hl.1 (by decide +kernel) (by decide +kernel) (by decide +kernel) (by decide +kernel) ⟨Nat.le_of_ble_eq_true rfl, Nat.le_of_ble_eq_true rfl⟩ ⟨Nat.zero_le _, Nat.zero_le _⟩ dX7_setOut_5 ?_
  obtain ⟨n1, b1, e1⟩ := y_max (a := p1) (b := 0) (by omega) (by omega)
  refine x_topI (v2 := nI n1) e1 ?_
  replace hR := bd_to hR e1
  refine lv_istore (lv' := [(5, .int (nI n1)), (4, .int 0), (0, .ref (g.2.1 5)), (1, .int (nI p1)), (2, .int (nI p2)), (3, .int p3)]) hx hb dX7_setOut_8 hl (by decide) rfl (fun ls hl => ?_)
  have loop10_2 : ∀ (fu : Nat) (t2 : ST) (i2_5 : Nat) (i2_4 : Int32), INV t2 → Fr [] [(5, 5)] σ t2 → i2_5 ≤ 49 → fX7_setOut_0l10 fu (nI p2) p3 i2_4 (nI i2_5) t2 = R → 49 - i2_5 < fu → ∀ (H : Heap) (locs : List Loc) (ls : Array Slot), HW g t2 s H locs → lv_has ls 6 [(5, .int (nI i2_5)), (4, .int i2_4), (0, .ref (g.2.1 5)), (1, .int (nI p1)), (2, .int (nI p2)), (3, .int p3)] → W p l e { frames := 1, cells := 0, slots := 0, locals := 21 } s m args below meth c H locs 0 0 (MQ below PQz args s 0 0 (Aw g)) (F0 m 10 ls []) := by
    intro fu2
    induction fu2 with
    | zero => intro t2 i2_5 i2_4 hI_2 hF_2 bi2_5 hR2 hm; exact absurd hm (Nat.not_lt_zero _)
    | succ fu2 ih =>
      have ih2 := ih
      clear ih
      intro t2 i2_5 i2_4 hI_2 hF_2 bi2_5 hR2 hm2 H locs ls h hl
      replace hR2 : fX7_setOut_0b10 (fX7_setOut_0l10 fu2) (nI p2) p3 i2_4 (nI i2_5) t2 = R := hR2
      refine lv_iload hx hb dX7_setOut_10 (lv_at hl 0 rfl) ?_
      refine lv_iload_n hx hb dX7_setOut_12 rfl (lv_at hl 4 rfl) ?_
      refine lv_icmp_gt (tgt := 53) hx hb dX7_setOut_13 (by decide) (fun c3 => ?_) (fun c3 => ?_)
      · skip
        replace hR2 := it_t hR2 c3
        have b4 : p2 < i2_5 := y_lt (a := p2) (b := i2_5) (by omega) (by omega) c3
        refine lv_iload hx hb dX7_setOut_53 (lv_at hl 1 rfl) ?_
        subst hPQ
        exact x_iret E h ⟨hR0.trans hR2.symm, hI_2, hF_2⟩ dX7_setOut_55
      · skip
        replace hR2 := it_f hR2 c3
        have b5 : i2_5 ≤ p2 := y_nlt (a := p2) (b := i2_5) (by omega) (by omega) c3
        refine lv_iload hx hb dX7_setOut_16 (lv_at hl 0 rfl) ?_
        refine lv_aload_n hx hb dX7_setOut_18 rfl (lv_at hl 2 rfl) ?_
        obtain ⟨n6, b6, e6⟩ := hI_2.1 2 48 rfl
        refine x_getI E h (fi_bk_rows g) rfl hwX7 (by decide) (by decide +kernel) (v := nI n6) e6 dX7_setOut_19 ?_
        replace hR2 := bd_to hR2 e6
        refine lv_icmp_ge (tgt := 53) hx hb dX7_setOut_22 (by decide) (fun c7 => ?_) (fun c7 => ?_)
        · skip
          replace hR2 := it_t hR2 c7
          have b8 : n6 ≤ i2_5 := y_le (a := n6) (b := i2_5) (by omega) (by omega) c7
          refine lv_iload hx hb dX7_setOut_53 (lv_at hl 1 rfl) ?_
          subst hPQ
          exact x_iret E h ⟨hR0.trans hR2.symm, hI_2, hF_2⟩ dX7_setOut_55
        · skip
          replace hR2 := it_f hR2 c7
          have b9 : i2_5 < n6 := y_nle (a := n6) (b := i2_5) (by omega) (by omega) c7
          refine lv_aload_n hx hb dX7_setOut_25 rfl (lv_at hl 2 rfl) ?_
          refine x_getR E h (fr_bk_isOut g) rfl hwX7 (by decide) (by decide +kernel) dX7_setOut_26 ?_
          refine lv_iload hx hb dX7_setOut_29 (lv_at hl 0 rfl) ?_
          refine x_ldZ E h (ia_bk_isOut g) (i := nI i2_5) (vp_in_nI (by omega) (by decide)) (v := t2.2.2 5 i2_5) (congrArg (t2.2.2 5) (nI_clamp (n := i2_5) (by omega))) dX7_setOut_31 ?_
          replace hR2 := bd_to hR2 (congrArg (t2.2.2 5) (nI_clamp (n := i2_5) (by omega)))
          refine lv_iload_n hx hb dX7_setOut_32 rfl (lv_at hl 5 rfl) ?_
          have j47_12 : ∀ (t12 : ST) (y12_l4 : Int32), INV t12 → Fr [] [(5, 5)] σ t12 → t12.1 2 = nI n6 → fX7_setOut_0b47 (fX7_setOut_0l10 fu2) (nI p2) p3 y12_l4 (nI i2_5) t12 = R → ∀ (H : Heap) (locs : List Loc) (ls : Array Slot), HW g t12 s H locs → lv_has ls 6 [(5, .int (nI i2_5)), (4, .int y12_l4), (0, .ref (g.2.1 5)), (1, .int (nI p1)), (2, .int (nI p2)), (3, .int p3)] → W p l e { frames := 1, cells := 0, slots := 0, locals := 21 } s m args below meth c H locs 0 0 (MQ below PQz args s 0 0 (Aw g)) (F0 m 47 ls []) := by
            intro t12 y12_l4 hI_12 hF_12 e13 hR12 H locs ls h hl
            replace hR12 := bd_to hR12 (nI_add i2_5 1)
            refine lv_iinc (v := (nI (i2_5 + 1))) (lv' := [(5, .int (nI (i2_5 + 1))), (4, .int y12_l4), (0, .ref (g.2.1 5)), (1, .int (nI p1)), (2, .int (nI p2)), (3, .int p3)]) hx hb dX7_setOut_47 hl (k := 0) rfl (nI_add i2_5 1) (by decide) rfl (fun ls hl => ?_)
            refine lv_goto (tgt := 10) hx hb dX7_setOut_50 (by decide) ?_
            exact ih2 t12 (i2_5 + 1) y12_l4 hI_12 hF_12 (by omega) hR12 (by omega) _ _ _ h (lv_sub hl [0, 1, 2, 3, 4, 5] rfl)
          refine lv_icmp_eq (tgt := 47) hx hb dX7_setOut_33 (by decide) (fun c10 => ?_) (fun c10 => ?_)
          · skip
            replace hR2 := it_t hR2 c10
            exact j47_12 t2 i2_4 hI_2 hF_2 e6 hR2 _ _ _ h (lv_sub hl [0, 1, 2, 3, 4, 5] rfl)
          · skip
            replace hR2 := it_f hR2 c10
            refine lv_aload_n hx hb dX7_setOut_36 rfl (lv_at hl 2 rfl) ?_
            refine x_getR E h (fr_bk_isOut g) rfl hwX7 (by decide) (by decide +kernel) dX7_setOut_37 ?_
            refine lv_iload hx hb dX7_setOut_40 (lv_at hl 0 rfl) ?_
            refine lv_iload_n hx hb dX7_setOut_42 rfl (lv_at hl 5 rfl) ?_
            refine y_stZ E h hI_2 hF_2 (ia_bk_isOut g) (i := nI i2_5) (vp_in_nI (by omega) (by decide)) (j := i2_5) (nI_clamp (by omega)) (ba_none rfl) rfl dX7_setOut_43 (fun s15 H locs q15 hI15 hF15 h => ?_)
            replace hR2 := st_to hR2 (nI_clamp (n := i2_5) (by omega)) q15
            have e16 : s15.1 2 = nI n6 := (congrArg (fun t : ST => t.1 2) q15).trans e6
            obtain ⟨z17, e17⟩ : ∃ y : Int32, y = i2_4 + 1 := ⟨_, rfl⟩
            replace hR2 := bd_to hR2 e17.symm
            refine lv_iinc (v := z17) (lv' := [(4, .int z17), (5, .int (nI i2_5)), (0, .ref (g.2.1 5)), (1, .int (nI p1)), (2, .int (nI p2)), (3, .int p3)]) hx hb dX7_setOut_44 hl (k := 1) rfl e17.symm (by decide) rfl (fun ls hl => ?_)
            exact j47_12 s15 z17 hI15 hF15 e16 hR2 _ _ _ h (lv_sub hl [1, 0, 2, 3, 4, 5] rfl)
  exact loop10_2 4096 σ n1 0 hI hF (by omega) hR (by omega) _ _ _ h (lv_sub hl [0, 1, 2, 3, 4, 5] rfl)
set_option maxHeartbeats 4000000 in
set_option maxRecDepth 100000 in
theorem aX11_out_0 (l : Launch) (g : CX) (σ : ST) (hI : INV σ) (p1 : Int32) (p2 : Int32) (p3 : Int32) : XM l g yX11_out wsX11_out { frames := 2, cells := 0, slots := 0, locals := 46 } [.ref (g.2.1 0), .int p1, .int p2, .int p3] σ (XQi g (fun r σ' => fX11_out_0 p1 p2 p3 σ = (r, σ') ∧ INV σ' ∧ Fr [(22, 24)] [(5, 5)] σ σ')) := by
  refine x_met (own := RX11) (cc := cX11_out) (maxL := 5) (ret := (some .int)) (lv := [(0, .ref (g.2.1 0)), (1, .int p1), (2, .int p2), (3, .int p3)]) (by decide) rfl rfl (Nat.le_of_ble_eq_true rfl) rfl ?_
  intro p e s m args below meth c ls E h hl
  have hx := E.1
  have hb := E.2.1
  have hown := E.2.2.2.1
  have hts := E.2.2.2.2.1
  have hF : Fr [(22, 24)] [(5, 5)] σ σ := Fr.refl σ
  obtain ⟨R, hR0⟩ : ∃ R, fX11_out_0 p1 p2 p3 σ = R := ⟨_, rfl⟩
  have hR : fX11_out_0b0 p1 p2 p3 σ = R := hR0
  have hwX11 : ∀ w ∈ wsX110, w ∈ wsX11_out := by decide +kernel
  generalize hPQ : XQi g (fun r σ' => fX11_out_0 p1 p2 p3 σ = (r, σ') ∧ INV σ' ∧ Fr [(22, 24)] [(5, 5)] σ σ') = PQz
  refine lv_aload_n hx hb dX11_out_0 rfl (lv_at hl 0 rfl) ?_
  refine lv_iload_n hx hb dX11_out_1 rfl (lv_at hl 1 rfl) ?_
  refine lv_iload_n hx hb dX11_out_2 rfl (lv_at hl 2 rfl) ?_
  refine x_vi E h (na := 2) (As := [.int p1, .int p2]) (aX11_areRows_0 l g σ hI p1 p2) (oc_vh g) rfl gX11_out_X11_areRows rfl ⟨rfl, rfl⟩ rfl (by decide +kernel) ⟨Nat.le_of_ble_eq_true rfl, Nat.le_of_ble_eq_true rfl⟩ hl.1 rfl (Nat.le_of_ble_eq_true rfl) dX11_out_3 ⟨Nat.le_of_ble_eq_true rfl, Nat.le_of_ble_eq_true rfl⟩ (fun r1 s1 H locs q1 h => ?_)
  obtain ⟨x1, d1, rfl⟩ := q1
  replace hR := bd_to hR x1
  rcases d1 with ⟨rfl, m1_0f, m1_0t, m1_0R, u1_0_0, u1_0_1, u1_0_2, u1_0_3, rfl, rfl⟩ | rfl
  · skip
    replace hR := it_f hR (by decide)
    refine lv_if_eq (tgt := 18) hx hb dX11_out_6 (by decide) (fun c => absurd c (by decide)) (fun _ => ?_)
    refine lv_iload_n hx hb dX11_out_9 rfl (lv_at hl 3 rfl) ?_
    refine lv_iconst (v := 0) hx hb dX11_out_10 (by decide) ?_
    refine lv_iconst (v := 1) hx hb dX11_out_11 (by decide) ?_
    refine x_si E h (na := 3) (As := [.int p3, .int 0, .int 1]) (aX11_within_0 l g σ hI p3 0 1) gX11_out_X11_within rfl ⟨rfl, rfl⟩ rfl (by decide +kernel) ⟨Nat.le_of_ble_eq_true rfl, Nat.le_of_ble_eq_true rfl⟩ hl.1 rfl (Nat.le_of_ble_eq_true rfl) dX11_out_12 ⟨Nat.le_of_ble_eq_true rfl, Nat.le_of_ble_eq_true rfl⟩ (fun r2 s2 H locs q2 h => ?_)
    obtain ⟨x2, d2, rfl⟩ := q2
    replace hR := bd_to hR x2
    rcases d2 with ⟨rfl, u2_0_0, u2_0_1⟩ | rfl
    · skip
      obtain ⟨n3, b3, rfl⟩ := y_rnlt (N := 1) (y_lo1 u2_0_0 (by decide)) u2_0_1 (by omega)
      have b4 : 0 ≤ n3 := y_nlt (a := n3) (b := 0) (by omega) (by omega) u2_0_0
      have b5 : n3 ≤ 1 := y_nlt (a := 1) (b := n3) (by omega) (by omega) u2_0_1
      replace hR := it_f hR (by decide)
      refine lv_if_ne (tgt := 20) hx hb dX11_out_15 (by decide) (fun _ => ?_) (fun c => absurd c (by decide))
      refine lv_aload_n hx hb dX11_out_20 rfl (lv_at hl 0 rfl) ?_
      refine x_getR E h (fr_vh_book g) rfl hwX11 (by decide) (by decide +kernel) dX11_out_21 ?_
      refine lv_iload_n hx hb dX11_out_24 rfl (lv_at hl 1 rfl) ?_
      refine lv_iload_n hx hb dX11_out_25 rfl (lv_at hl 2 rfl) ?_
      refine lv_iload_n hx hb dX11_out_26 rfl (lv_at hl 3 rfl) ?_
      refine lv_iconst (v := 1) hx hb dX11_out_27 (by decide) ?_
      have j36_8 : ∀ (y8_s0 : Int32), fX11_out_0b36 y8_s0 (nI m1_0t) (nI m1_0f) σ = R → ∀ (H : Heap) (locs : List Loc) (ls : Array Slot), HW g σ s H locs → lv_has ls 5 [(0, .ref (g.2.1 0)), (1, .int (nI m1_0f)), (2, .int (nI m1_0t)), (3, .int (nI n3))] → W p l e { frames := 2, cells := 0, slots := 0, locals := 46 } s m args below meth c H locs 0 0 (MQ below PQz args s 0 0 (Aw g)) (F0 m 36 ls [.int y8_s0, .int (nI m1_0t), .int (nI m1_0f), .ref (g.2.1 5)]) := by
        intro y8_s0 hR8 H locs ls h hl
        refine x_vi E h (na := 3) (As := [.int (nI m1_0f), .int (nI m1_0t), .int y8_s0]) (aX7_setOut_0 l g σ hI m1_0f m1_0t y8_s0 (by omega) (by omega)) (oc_bk g) rfl gX11_out_X7_setOut rfl ⟨rfl, rfl⟩ rfl (by decide +kernel) ⟨Nat.le_of_ble_eq_true rfl, Nat.le_of_ble_eq_true rfl⟩ hl.1 rfl (Nat.le_of_ble_eq_true rfl) dX11_out_36 ⟨Nat.le_of_ble_eq_true rfl, Nat.le_of_ble_eq_true rfl⟩ (fun r9 s9 H locs q9 h => ?_)
        obtain ⟨x9, hI9, f9⟩ := q9
        replace hR8 := bp_to hR8 x9
        have hF9 := hF.call f9 (I := [(22, 24)]) (J := [(5, 5)]) rfl rfl
        have e10 : s9.1 2 = nI m1_0R := ((f9.1 2 rfl)).trans u1_0_0
        refine lv_istore (lv' := [(4, .int r9), (0, .ref (g.2.1 0)), (1, .int (nI m1_0f)), (2, .int (nI m1_0t)), (3, .int (nI n3))]) hx hb dX11_out_39 hl (by decide) rfl (fun ls hl => ?_)
        refine lv_iload hx hb dX11_out_41 (lv_at hl 0 rfl) ?_
        have j50_13 : ∀ (t13 : ST), INV t13 → Fr [(22, 24)] [(5, 5)] σ t13 → t13.1 2 = nI m1_0R → fX11_out_0b50 r9 t13 = R → ∀ (H : Heap) (locs : List Loc) (ls : Array Slot), HW g t13 s H locs → lv_has ls 5 [(4, .int r9), (0, .ref (g.2.1 0)), (1, .int (nI m1_0f)), (2, .int (nI m1_0t)), (3, .int (nI n3))] → W p l e { frames := 2, cells := 0, slots := 0, locals := 46 } s m args below meth c H locs 0 0 (MQ below PQz args s 0 0 (Aw g)) (F0 m 50 ls []) := by
          intro t13 hI_13 hF_13 e14 hR13 H locs ls h hl
          refine lv_iload hx hb dX11_out_50 (lv_at hl 0 rfl) ?_
          subst hPQ
          exact x_iret E h ⟨hR0.trans hR13.symm, hI_13, hF_13⟩ dX11_out_52
        refine lv_if_le (tgt := 50) hx hb dX11_out_43 (by decide) (fun c11 => ?_) (fun c11 => ?_)
        · skip
          replace hR8 := it_t hR8 c11
          exact j50_13 s9 hI9 hF9 e10 hR8 _ _ _ h (lv_sub hl [0, 1, 2, 3, 4] rfl)
        · skip
          replace hR8 := it_f hR8 c11
          refine lv_aload_n hx hb dX11_out_46 rfl (lv_at hl 1 rfl) ?_
          refine x_vv E h (na := 0) (As := []) (aX11_nothingIsFound_0 l g s9 hI9) (oc_vh g) rfl gX11_out_X11_nothingIsFound rfl ⟨rfl, rfl⟩ rfl (by decide +kernel) ⟨Nat.le_of_ble_eq_true rfl, Nat.le_of_ble_eq_true rfl⟩ hl.1 rfl (Nat.le_of_ble_eq_true rfl) dX11_out_47 ⟨Nat.le_of_ble_eq_true rfl, Nat.le_of_ble_eq_true rfl⟩ (fun s16 H locs q16 h => ?_)
          obtain ⟨x16, hI16, f16⟩ := q16
          replace hR8 := bd_to hR8 x16
          have hF16 := hF9.call f16 (I := [(22, 24)]) (J := [(5, 5)]) rfl rfl
          have e17 : s16.1 2 = nI m1_0R := ((f16.1 2 rfl)).trans e10
          exact j50_13 s16 hI16 hF16 e17 hR8 _ _ _ h (lv_sub hl [0, 1, 2, 3, 4] rfl)
      refine lv_icmp_ne (tgt := 35) hx hb dX11_out_28 (by decide) (fun c6 => ?_) (fun c6 => ?_)
      · skip
        replace hR := it_f hR c6
        have b7 : ¬ n3 = 1 := y_ne (a := n3) (b := 1) (by omega) (by omega) c6
        refine lv_iconst (v := 0) hx hb dX11_out_35 (by decide) ?_
        exact j36_8 0 hR _ _ _ h (lv_sub hl [0, 1, 2, 3] rfl)
      · skip
        replace hR := it_t hR c6
        have b18 : n3 = 1 := y_eq (a := n3) (b := 1) (by omega) (by omega) c6
        refine lv_iconst (v := 1) hx hb dX11_out_31 (by decide) ?_
        refine lv_goto (tgt := 36) hx hb dX11_out_32 (by decide) ?_
        exact j36_8 1 hR _ _ _ h (lv_sub hl [0, 1, 2, 3] rfl)
    · skip
      replace hR := it_t hR (by decide)
      refine lv_if_ne (tgt := 20) hx hb dX11_out_15 (by decide) (fun c => absurd (by decide) c) (fun _ => ?_)
      refine lv_iconst (v := (-1)) hx hb dX11_out_18 (by decide) ?_
      subst hPQ
      exact x_iret E h ⟨hR0.trans hR.symm, hI, hF⟩ dX11_out_19
  · skip
    replace hR := it_t hR (by decide)
    refine lv_if_eq (tgt := 18) hx hb dX11_out_6 (by decide) (fun _ => ?_) (fun c => absurd (by decide) c)
    refine lv_iconst (v := (-1)) hx hb dX11_out_18 (by decide) ?_
    subst hPQ
    exact x_iret E h ⟨hR0.trans hR.symm, hI, hF⟩ dX11_out_19
set_option maxHeartbeats 4000000 in
set_option maxRecDepth 100000 in
theorem aX11_hush_0 (l : Launch) (g : CX) (σ : ST) (hI : INV σ)  : XM l g yX11_hush wsX11_hush { frames := 1, cells := 0, slots := 0, locals := 20 } [.ref (g.2.1 0)] σ (XQi g (fun r σ' => fX11_hush_0 σ = (r, σ') ∧ INV σ' ∧ Fr [(2, 2), (20, 24)] [] σ σ')) := by
  refine x_met (own := RX11) (cc := cX11_hush) (maxL := 2) (ret := (some .int)) (lv := [(0, .ref (g.2.1 0))]) (by decide) rfl rfl (Nat.le_of_ble_eq_true rfl) rfl ?_
  intro p e s m args below meth c ls E h hl
  have hx := E.1
  have hb := E.2.1
  have hown := E.2.2.2.1
  have hts := E.2.2.2.2.1
  have hF : Fr [(2, 2), (20, 24)] [] σ σ := Fr.refl σ
  obtain ⟨R, hR0⟩ : ∃ R, fX11_hush_0 σ = R := ⟨_, rfl⟩
  have hR : fX11_hush_0b0 σ = R := hR0
  have hwX10 : ∀ w ∈ wsX100, w ∈ wsX11_hush := by decide +kernel
  have hwX11 : ∀ w ∈ wsX110, w ∈ wsX11_hush := by decide +kernel
  have hwX7 : ∀ w ∈ wsX70, w ∈ wsX11_hush := by decide +kernel
  generalize hPQ : XQi g (fun r σ' => fX11_hush_0 σ = (r, σ') ∧ INV σ' ∧ Fr [(2, 2), (20, 24)] [] σ σ') = PQz
  refine lv_aload_n hx hb dX11_hush_0 rfl (lv_at hl 0 rfl) ?_
  refine x_getR E h (fr_vh_book g) rfl hwX11 (by decide) (by decide +kernel) dX11_hush_1 ?_
  obtain ⟨n1, b1, e1⟩ := hI.1 2 48 rfl
  refine x_getIN E h (fi_bk_rows g) rfl hwX7 (by decide) (by decide +kernel) (v := nI n1) e1 dX11_hush_4 ?_
  replace hR := bd_to hR e1
  refine lv_istore_n (lv' := [(1, .int (nI n1)), (0, .ref (g.2.1 0))]) hx hb dX11_hush_7 rfl hl (by decide) rfl (fun ls hl => ?_)
  refine lv_aload_n hx hb dX11_hush_8 rfl (lv_at hl 1 rfl) ?_
  refine x_getR E h (fr_vh_book g) rfl hwX11 (by decide) (by decide +kernel) dX11_hush_9 ?_
  refine lv_iconst (v := 0) hx hb dX11_hush_12 (by decide) ?_
  refine y_putIN E h hI hF (ty := .int) (v := nI 0) (fi_bk_rows g) rfl hwX7 tyX7_ok nmX7 (by decide) (by decide +kernel) (by decide +kernel) (by decide +kernel) rfl rfl (ba_some rfl (Bd.mk (n := 0) (by omega))) rfl dX11_hush_13 (fun s2 H locs q2 hI2 hF2 h => ?_)
  replace hR := bd_to hR q2.symm
  have e3 : s2.1 2 = nI 0 := congrArg (fun t : ST => t.1 2) q2
  refine lv_aload_n hx hb dX11_hush_16 rfl (lv_at hl 1 rfl) ?_
  refine x_getR E h (fr_vh_wordBook g) rfl hwX11 (by decide) (by decide +kernel) dX11_hush_17 ?_
  refine lv_iconst (v := 0) hx hb dX11_hush_20 (by decide) ?_
  refine y_putIN E h hI2 hF2 (ty := .int) (v := nI 0) (fi_wb_words g) rfl hwX10 tyX10_ok nmX10 (by decide) (by decide +kernel) (by decide +kernel) (by decide +kernel) rfl rfl (ba_some rfl (Bd.mk (n := 0) (by omega))) rfl dX11_hush_21 (fun s4 H locs q4 hI4 hF4 h => ?_)
  replace hR := bd_to hR q4.symm
  have e5 : s4.1 2 = 0 := (congrArg (fun t : ST => t.1 2) q4).trans e3
  have e6 : s4.1 20 = nI 0 := congrArg (fun t : ST => t.1 20) q4
  refine lv_aload_n hx hb dX11_hush_24 rfl (lv_at hl 1 rfl) ?_
  refine lv_iconst (v := (-1)) hx hb dX11_hush_25 (by decide) ?_
  refine y_putI E h hI4 hF4 (ty := .int) (v := (-1)) (fi_vh_shownRows g) rfl hwX11 tyX11_ok nmX11 (by decide) (by decide +kernel) (by decide +kernel) (by decide +kernel) rfl rfl (ba_none rfl) rfl dX11_hush_26 (fun s7 H locs q7 hI7 hF7 h => ?_)
  replace hR := bd_to hR q7.symm
  have e8 : s7.1 2 = 0 := (congrArg (fun t : ST => t.1 2) q7).trans e5
  have e9 : s7.1 20 = 0 := (congrArg (fun t : ST => t.1 20) q7).trans e6
  have e10 : s7.1 21 = (-1) := congrArg (fun t : ST => t.1 21) q7
  refine lv_aload_n hx hb dX11_hush_29 rfl (lv_at hl 1 rfl) ?_
  refine x_vv E h (na := 0) (As := []) (aX11_nothingIsFound_0 l g s7 hI7) (oc_vh g) rfl gX11_hush_X11_nothingIsFound rfl ⟨rfl, rfl⟩ rfl (by decide +kernel) ⟨Nat.le_of_ble_eq_true rfl, Nat.le_of_ble_eq_true rfl⟩ hl.1 rfl (Nat.le_of_ble_eq_true rfl) dX11_hush_30 ⟨Nat.le_of_ble_eq_true rfl, Nat.le_of_ble_eq_true rfl⟩ (fun s11 H locs q11 h => ?_)
  obtain ⟨x11, hI11, f11⟩ := q11
  replace hR := bd_to hR x11
  have hF11 := hF7.call f11 (I := [(2, 2), (20, 24)]) (J := []) rfl rfl
  have e12 : s11.1 2 = 0 := ((f11.1 2 rfl)).trans e8
  have e13 : s11.1 20 = 0 := ((f11.1 20 rfl)).trans e9
  have e14 : s11.1 21 = (-1) := ((f11.1 21 rfl)).trans e10
  refine lv_iload_n hx hb dX11_hush_33 rfl (lv_at hl 0 rfl) ?_
  subst hPQ
  exact x_iret E h ⟨hR0.trans hR.symm, hI11, hF11⟩ dX11_hush_34
set_option maxHeartbeats 4000000 in
set_option maxRecDepth 100000 in
theorem aX3_empty_0 (l : Launch) (g : CX) (σ : ST) (hI : INV σ)  : XM l g yX3_empty wsX3_empty { frames := 0, cells := 0, slots := 0, locals := 0 } [.ref (g.2.1 10)] σ (XQv g (fun σ' => fX3_empty_0 σ = σ' ∧ INV σ' ∧ Fr [(3, 4)] [] σ σ')) := by
  refine x_met (own := RX3) (cc := cX3_empty) (maxL := 1) (ret := none) (lv := [(0, .ref (g.2.1 10))]) (by decide) rfl rfl (Nat.le_of_ble_eq_true rfl) rfl ?_
  intro p e s m args below meth c ls E h hl
  have hx := E.1
  have hb := E.2.1
  have hown := E.2.2.2.1
  have hts := E.2.2.2.2.1
  have hF : Fr [(3, 4)] [] σ σ := Fr.refl σ
  obtain ⟨R, hR0⟩ : ∃ R, fX3_empty_0 σ = R := ⟨_, rfl⟩
  have hR : fX3_empty_0b0 σ = R := hR0
  have hwX3 : ∀ w ∈ wsX30, w ∈ wsX3_empty := by decide +kernel
  generalize hPQ : XQv g (fun σ' => fX3_empty_0 σ = σ' ∧ INV σ' ∧ Fr [(3, 4)] [] σ σ') = PQz
  refine lv_aload_n hx hb dX3_empty_0 rfl (lv_at hl 0 rfl) ?_
  refine lv_iconst (v := 0) hx hb dX3_empty_1 (by decide) ?_
  refine y_putI E h hI hF (ty := .int) (v := nI 0) (fi_ga_rows g) rfl hwX3 tyX3_ok nmX3 (by decide) (by decide +kernel) (by decide +kernel) (by decide +kernel) rfl rfl (ba_some rfl (Bd.mk (n := 0) (by omega))) rfl dX3_empty_2 (fun s1 H locs q1 hI1 hF1 h => ?_)
  replace hR := bd_to hR q1.symm
  have e2 : s1.1 3 = nI 0 := congrArg (fun t : ST => t.1 3) q1
  refine lv_aload_n hx hb dX3_empty_5 rfl (lv_at hl 0 rfl) ?_
  refine lv_iconst (v := 0) hx hb dX3_empty_6 (by decide) ?_
  refine y_putI E h hI1 hF1 (ty := .int) (v := 0) (fi_ga_spread g) rfl hwX3 tyX3_ok nmX3 (by decide) (by decide +kernel) (by decide +kernel) (by decide +kernel) rfl rfl (ba_none rfl) rfl dX3_empty_7 (fun s3 H locs q3 hI3 hF3 h => ?_)
  replace hR := bd_to hR q3.symm
  have e4 : s3.1 3 = 0 := (congrArg (fun t : ST => t.1 3) q3).trans e2
  have e5 : s3.1 4 = 0 := congrArg (fun t : ST => t.1 4) q3
  subst hPQ
  exact x_vret E h ⟨hR0.trans hR.symm, hI3, hF3⟩ dX3_empty_10
set_option maxHeartbeats 4000000 in
set_option maxRecDepth 100000 in
theorem aX3_take_0 (l : Launch) (g : CX) (σ : ST) (hI : INV σ) (p2 : Int32) : XM l g yX3_take wsX3_take { frames := 1, cells := 0, slots := 0, locals := 21 } [.ref (g.2.1 10), .ref (g.2.1 5), .int p2] σ (XQv g (fun σ' => fX3_take_0 p2 σ = σ' ∧ INV σ' ∧ Fr [(3, 4)] [(8, 11)] σ σ')) := by
  refine x_met (own := RX3) (cc := cX3_take) (maxL := 7) (ret := none) (lv := [(0, .ref (g.2.1 10)), (1, .ref (g.2.1 5)), (2, .int p2)]) (by decide) rfl rfl (Nat.le_of_ble_eq_true rfl) rfl ?_
  intro p e s m args below meth c ls E h hl
  have hx := E.1
  have hb := E.2.1
  have hown := E.2.2.2.1
  have hts := E.2.2.2.2.1
  have hF : Fr [(3, 4)] [(8, 11)] σ σ := Fr.refl σ
  obtain ⟨R, hR0⟩ : ∃ R, fX3_take_0 p2 σ = R := ⟨_, rfl⟩
  have hR : fX3_take_0b0 p2 σ = R := hR0
  have hwX3 : ∀ w ∈ wsX30, w ∈ wsX3_take := by decide +kernel
  have hwX7 : ∀ w ∈ wsX70, w ∈ wsX3_take := by decide +kernel
  generalize hPQ : XQv g (fun σ' => fX3_take_0 p2 σ = σ' ∧ INV σ' ∧ Fr [(3, 4)] [(8, 11)] σ σ') = PQz
  refine lv_aload_n hx hb dX3_take_0 rfl (lv_at hl 0 rfl) ?_
  obtain ⟨n1, b1, e1⟩ := hI.1 3 48 rfl
  refine x_getI E h (fi_ga_rows g) rfl hwX3 (by decide) (by decide +kernel) (v := nI n1) e1 dX3_take_1 ?_
  replace hR := bd_to hR e1
  refine lv_bipush (v := 48) hx hb dX3_take_4 (by decide) ?_
  refine lv_icmp_ge (tgt := 19) hx hb dX3_take_6 (by decide) (fun c2 => ?_) (fun c2 => ?_)
  · skip
    replace hR := it_t hR c2
    have b3 : 48 ≤ n1 := y_le (a := 48) (b := n1) (by omega) (by omega) c2
    subst hPQ
    exact x_vret E h ⟨hR0.trans hR.symm, hI, hF⟩ dX3_take_19
  · skip
    replace hR := it_f hR c2
    have b4 : n1 < 48 := y_nle (a := 48) (b := n1) (by omega) (by omega) c2
    refine lv_iload_n hx hb dX3_take_9 rfl (lv_at hl 2 rfl) ?_
    refine lv_if_lt (tgt := 19) hx hb dX3_take_10 (by decide) (fun c5 => ?_) (fun c5 => ?_)
    · skip
      replace hR := it_t hR c5
      subst hPQ
      exact x_vret E h ⟨hR0.trans hR.symm, hI, hF⟩ dX3_take_19
    · skip
      replace hR := it_f hR c5
      refine lv_iload_n hx hb dX3_take_13 rfl (lv_at hl 2 rfl) ?_
      refine lv_bipush (v := 48) hx hb dX3_take_14 (by decide) ?_
      refine lv_icmp_lt (tgt := 20) hx hb dX3_take_16 (by decide) (fun c8 => ?_) (fun c8 => ?_)
      · skip
        replace hR := it_t hR c8
        obtain ⟨n10, b10, rfl⟩ := y_rlt (N := 48) (y_lo1 c5 (by decide)) c8 (by omega)
        have b11 : 0 ≤ n10 := y_nlt (a := n10) (b := 0) (by omega) (by omega) c5
        have b12 : n10 < 48 := y_lt (a := n10) (b := 48) (by omega) (by omega) c8
        refine lv_iconst (v := 0) hx hb dX3_take_20 (by decide) ?_
        refine lv_istore_n (lv' := [(3, .int 0), (0, .ref (g.2.1 10)), (1, .ref (g.2.1 5)), (2, .int (nI n10))]) hx hb dX3_take_21 rfl hl (by decide) rfl (fun ls hl => ?_)
        have loop22_13 : ∀ (fu : Nat) (t13 : ST) (i13_3 : Nat), INV t13 → Fr [(3, 4)] [(8, 11)] σ t13 → t13.1 3 = nI n1 → i13_3 ≤ 4 → fX3_take_0l22 fu (nI n10) (nI i13_3) t13 = R → 4 - i13_3 < fu → ∀ (H : Heap) (locs : List Loc) (ls : Array Slot), HW g t13 s H locs → lv_has ls 7 [(3, .int (nI i13_3)), (0, .ref (g.2.1 10)), (1, .ref (g.2.1 5)), (2, .int (nI n10))] → W p l e { frames := 1, cells := 0, slots := 0, locals := 21 } s m args below meth c H locs 0 0 (MQ below PQz args s 0 0 (Aw g)) (F0 m 22 ls []) := by
          intro fu13
          induction fu13 with
          | zero => intro t13 i13_3 hI_13 hF_13 e14 bi13_3 hR13 hm; exact absurd hm (Nat.not_lt_zero _)
          | succ fu13 ih =>
            have ih13 := ih
            clear ih
            intro t13 i13_3 hI_13 hF_13 e14 bi13_3 hR13 hm13 H locs ls h hl
            replace hR13 : fX3_take_0b22 (fX3_take_0l22 fu13) (nI n10) (nI i13_3) t13 = R := hR13
            refine lv_iload_n hx hb dX3_take_22 rfl (lv_at hl 0 rfl) ?_
            refine lv_iconst (v := 4) hx hb dX3_take_23 (by decide) ?_
            refine lv_icmp_ge (tgt := 150) hx hb dX3_take_24 (by decide) (fun c15 => ?_) (fun c15 => ?_)
            · skip
              replace hR13 := it_t hR13 c15
              have b16 : 4 ≤ i13_3 := y_le (a := 4) (b := i13_3) (by omega) (by omega) c15
              refine lv_aload_n hx hb dX3_take_150 rfl (lv_at hl 1 rfl) ?_
              refine lv_dup hx hb dX3_take_151 rfl ?_
              refine x_getI E h (fi_ga_rows g) rfl hwX3 (by decide) (by decide +kernel) (v := nI n1) e14 dX3_take_152 ?_
              replace hR13 := bd_to hR13 e14
              refine lv_iconst (v := 1) hx hb dX3_take_155 (by decide) ?_
              refine lv_iadd hx hb dX3_take_156 ?_
              refine x_topI (v2 := nI (n1 + 1)) (nI_add n1 1) ?_
              replace hR13 := bd_to hR13 (nI_add n1 1)
              refine y_putI E h hI_13 hF_13 (ty := .int) (v := nI (n1 + 1)) (fi_ga_rows g) rfl hwX3 tyX3_ok nmX3 (by decide) (by decide +kernel) (by decide +kernel) (by decide +kernel) rfl rfl (ba_some rfl (Bd.mk (n := (n1 + 1)) (by omega))) rfl dX3_take_157 (fun s17 H locs q17 hI17 hF17 h => ?_)
              replace hR13 := bd_to hR13 q17.symm
              have e18 : s17.1 3 = nI (n1 + 1) := congrArg (fun t : ST => t.1 3) q17
              subst hPQ
              exact x_vret E h ⟨hR0.trans hR13.symm, hI17, hF17⟩ dX3_take_160
            · skip
              replace hR13 := it_f hR13 c15
              have b19 : i13_3 < 4 := y_nle (a := 4) (b := i13_3) (by omega) (by omega) c15
              refine lv_aload_n hx hb dX3_take_27 rfl (lv_at hl 1 rfl) ?_
              refine x_getR E h (fr_ga_sorted g) rfl hwX3 (by decide) (by decide +kernel) dX3_take_28 ?_
              refine lv_iload_n hx hb dX3_take_31 rfl (lv_at hl 0 rfl) ?_
              refine x_row E h (fg_ga_sorted g) (i := nI i13_3) (vp_in_nI (by omega) (by decide)) (kr := 12 + i13_3) (by rw [nI_clamp (by omega)]) dX3_take_32 ?_
              replace hR13 := bd_to hR13 (nI_clamp (n := i13_3) (by omega))
              refine lv_astore (lv' := [(4, .ref (g.2.1 (12 + i13_3))), (3, .int (nI i13_3)), (0, .ref (g.2.1 10)), (1, .ref (g.2.1 5)), (2, .int (nI n10))]) hx hb dX3_take_33 hl (by decide) rfl (fun ls hl => ?_)
              refine lv_aload_n hx hb dX3_take_35 rfl (lv_at hl 3 rfl) ?_
              refine x_getRN E h (fr_bk_numbers g) rfl hwX7 (by decide) (by decide +kernel) dX3_take_36 ?_
              refine lv_iload_n hx hb dX3_take_39 rfl (lv_at hl 4 rfl) ?_
              refine lv_iconst (v := 4) hx hb dX3_take_40 (by decide) ?_
              refine lv_imul hx hb dX3_take_41 ?_
              refine x_topI (v2 := nI (n10 * 4)) (pk_mul n10 4) ?_
              replace hR13 := bd_to hR13 (pk_mul n10 4)
              refine lv_iload_n hx hb dX3_take_42 rfl (lv_at hl 1 rfl) ?_
              refine lv_iadd hx hb dX3_take_43 ?_
              refine x_topI (v2 := nI ((n10 * 4) + i13_3)) (nI_add (n10 * 4) i13_3) ?_
              replace hR13 := bd_to hR13 (nI_add (n10 * 4) i13_3)
              refine x_ldI E h (ia_bk_numbers g) (i := nI ((n10 * 4) + i13_3)) (vp_in_nI (by omega) (by decide)) (v := t13.2.2 3 ((n10 * 4) + i13_3)) (congrArg (t13.2.2 3) (nI_clamp (n := (n10 * 4) + i13_3) (by omega))) dX3_take_44 ?_
              replace hR13 := bd_to hR13 (congrArg (t13.2.2 3) (nI_clamp (n := (n10 * 4) + i13_3) (by omega)))
              refine lv_topi (fun x20 e20 => ?_)
              try rw [← e20] at hR13
              refine lv_istore (lv' := [(5, .int x20), (4, .ref (g.2.1 (12 + i13_3))), (3, .int (nI i13_3)), (0, .ref (g.2.1 10)), (1, .ref (g.2.1 5)), (2, .int (nI n10))]) hx hb dX3_take_45 hl (by decide) rfl (fun ls hl => ?_)
              refine lv_aload_n hx hb dX3_take_47 rfl (lv_at hl 3 rfl) ?_
              refine x_getI E h (fi_ga_rows g) rfl hwX3 (by decide) (by decide +kernel) (v := nI n1) e14 dX3_take_48 ?_
              replace hR13 := bd_to hR13 e14
              have j96_23 : ∀ (t23 : ST), INV t23 → Fr [(3, 4)] [(8, 11)] σ t23 → t23.1 3 = nI n1 → fX3_take_0b96 (fX3_take_0l22 fu13) (nI n10) (nI i13_3) i13_3 x20 t23 = R → ∀ (H : Heap) (locs : List Loc) (ls : Array Slot), HW g t23 s H locs → lv_has ls 7 [(5, .int x20), (4, .ref (g.2.1 (12 + i13_3))), (3, .int (nI i13_3)), (0, .ref (g.2.1 10)), (1, .ref (g.2.1 5)), (2, .int (nI n10))] → W p l e { frames := 1, cells := 0, slots := 0, locals := 21 } s m args below meth c H locs 0 0 (MQ below PQz args s 0 0 (Aw g)) (F0 m 96 ls []) := by
                intro t23 hI_23 hF_23 e24 hR23 H locs ls h hl
                refine lv_aload_n hx hb dX3_take_96 rfl (lv_at hl 3 rfl) ?_
                refine x_getI E h (fi_ga_rows g) rfl hwX3 (by decide) (by decide +kernel) (v := nI n1) e24 dX3_take_97 ?_
                replace hR23 := bd_to hR23 e24
                refine lv_istore (lv' := [(6, .int (nI n1)), (5, .int x20), (4, .ref (g.2.1 (12 + i13_3))), (3, .int (nI i13_3)), (0, .ref (g.2.1 10)), (1, .ref (g.2.1 5)), (2, .int (nI n10))]) hx hb dX3_take_100 hl (by decide) rfl (fun ls hl => ?_)
                have loop102_25 : ∀ (fu : Nat) (t25 : ST) (i25_6 : Nat), INV t25 → Fr [(3, 4)] [(8, 11)] σ t25 → t25.1 3 = nI n1 → i25_6 ≤ n1 → fX3_take_0l102 (fX3_take_0l22 fu13) fu (nI n10) (nI i13_3) i13_3 x20 (nI i25_6) t25 = R → i25_6 < fu → ∀ (H : Heap) (locs : List Loc) (ls : Array Slot), HW g t25 s H locs → lv_has ls 7 [(6, .int (nI i25_6)), (5, .int x20), (4, .ref (g.2.1 (12 + i13_3))), (3, .int (nI i13_3)), (0, .ref (g.2.1 10)), (1, .ref (g.2.1 5)), (2, .int (nI n10))] → W p l e { frames := 1, cells := 0, slots := 0, locals := 21 } s m args below meth c H locs 0 0 (MQ below PQz args s 0 0 (Aw g)) (F0 m 102 ls []) := by
                  intro fu25
                  induction fu25 with
                  | zero => intro t25 i25_6 hI_25 hF_25 e26 bi25_6 hR25 hm; exact absurd hm (Nat.not_lt_zero _)
                  | succ fu25 ih =>
                    have ih25 := ih
                    clear ih
                    intro t25 i25_6 hI_25 hF_25 e26 bi25_6 hR25 hm25 H locs ls h hl
                    replace hR25 : fX3_take_0b102 (fX3_take_0l22 fu13) (fX3_take_0l102 (fX3_take_0l22 fu13) fu25) (nI n10) (nI i13_3) i13_3 x20 (nI i25_6) t25 = R := hR25
                    refine lv_iload hx hb dX3_take_102 (lv_at hl 0 rfl) ?_
                    refine lv_if_le (tgt := 137) hx hb dX3_take_104 (by decide) (fun c27 => ?_) (fun c27 => ?_)
                    · skip
                      replace hR25 := it_t hR25 c27
                      have b28 : i25_6 ≤ 0 := y_le (a := i25_6) (b := 0) (by omega) (by omega) c27
                      refine lv_aload hx hb dX3_take_137 (lv_at hl 2 rfl) ?_
                      refine lv_iload hx hb dX3_take_139 (lv_at hl 0 rfl) ?_
                      refine lv_iload hx hb dX3_take_141 (lv_at hl 1 rfl) ?_
                      refine y_stI E h hI_25 hF_25 (gi_ga_sorted g i13_3 (by omega)) (i := nI i25_6) (vp_in_nI (by omega) (by decide)) (j := i25_6) (nI_clamp (by omega)) (ba_none ((gb_ga_sorted i13_3) (by omega))) (gr_ga_sorted i13_3 [(8, 11)] (by omega) rfl) dX3_take_143 (fun s29 H locs q29 hI29 hF29 h => ?_)
                      replace hR25 := st_to hR25 (nI_clamp (n := i25_6) (by omega)) q29
                      have e30 : s29.1 3 = nI n1 := (congrArg (fun t : ST => t.1 3) q29).trans e26
                      replace hR25 := bd_to hR25 (nI_add i13_3 1)
                      refine lv_iinc (v := (nI (i13_3 + 1))) (lv' := [(3, .int (nI (i13_3 + 1))), (6, .int (nI i25_6)), (5, .int x20), (4, .ref (g.2.1 (12 + i13_3))), (0, .ref (g.2.1 10)), (1, .ref (g.2.1 5)), (2, .int (nI n10))]) hx hb dX3_take_144 hl (k := 3) rfl (nI_add i13_3 1) (by decide) rfl (fun ls hl => ?_)
                      refine lv_goto (tgt := 22) hx hb dX3_take_147 (by decide) ?_
                      exact ih13 s29 (i13_3 + 1) hI29 hF29 e30 (by omega) hR25 (by omega) _ _ _ h (lv_sub hl [0, 4, 5, 6] rfl)
                    · skip
                      replace hR25 := it_f hR25 c27
                      have b31 : 0 < i25_6 := y_nle (a := i25_6) (b := 0) (by omega) (by omega) c27
                      refine lv_aload hx hb dX3_take_107 (lv_at hl 2 rfl) ?_
                      refine lv_iload hx hb dX3_take_109 (lv_at hl 0 rfl) ?_
                      refine lv_iconst (v := 1) hx hb dX3_take_111 (by decide) ?_
                      refine lv_isub hx hb dX3_take_112 ?_
                      replace hR25 := bd_to hR25 rfl
                      refine x_topI (v2 := nI (i25_6 - 1)) (pk_sub (a := i25_6) (b := 1) (by omega)) ?_
                      refine x_ldI E h (gi_ga_sorted g i13_3 (by omega)) (i := nI (i25_6 - 1)) (vp_in_nI (by omega) (by decide)) (v := t25.2.2 (8 + i13_3) (i25_6 - 1)) (congrArg (t25.2.2 (8 + i13_3)) (nI_clamp (n := i25_6 - 1) (by omega))) dX3_take_113 ?_
                      replace hR25 := bd_to hR25 ((congrArg (fun z9 : Int32 => t25.2.2 (8 + i13_3) z9.toNatClampNeg) (pk_sub (a := i25_6) (b := 1) (by omega))).trans (congrArg (t25.2.2 (8 + i13_3)) (nI_clamp (n := i25_6 - 1) (by omega))))
                      refine lv_iload hx hb dX3_take_114 (lv_at hl 1 rfl) ?_
                      refine lv_icmp_le (tgt := 137) hx hb dX3_take_116 (by decide) (fun c32 => ?_) (fun c32 => ?_)
                      · skip
                        replace hR25 := it_t hR25 c32
                        refine lv_aload hx hb dX3_take_137 (lv_at hl 2 rfl) ?_
                        refine lv_iload hx hb dX3_take_139 (lv_at hl 0 rfl) ?_
                        refine lv_iload hx hb dX3_take_141 (lv_at hl 1 rfl) ?_
                        refine y_stI E h hI_25 hF_25 (gi_ga_sorted g i13_3 (by omega)) (i := nI i25_6) (vp_in_nI (by omega) (by decide)) (j := i25_6) (nI_clamp (by omega)) (ba_none ((gb_ga_sorted i13_3) (by omega))) (gr_ga_sorted i13_3 [(8, 11)] (by omega) rfl) dX3_take_143 (fun s34 H locs q34 hI34 hF34 h => ?_)
                        replace hR25 := st_to hR25 (nI_clamp (n := i25_6) (by omega)) q34
                        have e35 : s34.1 3 = nI n1 := (congrArg (fun t : ST => t.1 3) q34).trans e26
                        replace hR25 := bd_to hR25 (nI_add i13_3 1)
                        refine lv_iinc (v := (nI (i13_3 + 1))) (lv' := [(3, .int (nI (i13_3 + 1))), (6, .int (nI i25_6)), (5, .int x20), (4, .ref (g.2.1 (12 + i13_3))), (0, .ref (g.2.1 10)), (1, .ref (g.2.1 5)), (2, .int (nI n10))]) hx hb dX3_take_144 hl (k := 3) rfl (nI_add i13_3 1) (by decide) rfl (fun ls hl => ?_)
                        refine lv_goto (tgt := 22) hx hb dX3_take_147 (by decide) ?_
                        exact ih13 s34 (i13_3 + 1) hI34 hF34 e35 (by omega) hR25 (by omega) _ _ _ h (lv_sub hl [0, 4, 5, 6] rfl)
                      · skip
                        replace hR25 := it_f hR25 c32
                        refine lv_aload hx hb dX3_take_119 (lv_at hl 2 rfl) ?_
                        refine lv_iload hx hb dX3_take_121 (lv_at hl 0 rfl) ?_
                        refine lv_aload hx hb dX3_take_123 (lv_at hl 2 rfl) ?_
                        refine lv_iload hx hb dX3_take_125 (lv_at hl 0 rfl) ?_
                        refine lv_iconst (v := 1) hx hb dX3_take_127 (by decide) ?_
                        refine lv_isub hx hb dX3_take_128 ?_
                        replace hR25 := bd_to hR25 rfl
                        refine x_topI (v2 := nI (i25_6 - 1)) (pk_sub (a := i25_6) (b := 1) (by omega)) ?_
                        refine x_ldI E h (gi_ga_sorted g i13_3 (by omega)) (i := nI (i25_6 - 1)) (vp_in_nI (by omega) (by decide)) (v := t25.2.2 (8 + i13_3) (i25_6 - 1)) (congrArg (t25.2.2 (8 + i13_3)) (nI_clamp (n := i25_6 - 1) (by omega))) dX3_take_129 ?_
                        replace hR25 := bd_to hR25 ((congrArg (fun z9 : Int32 => t25.2.2 (8 + i13_3) z9.toNatClampNeg) (pk_sub (a := i25_6) (b := 1) (by omega))).trans (congrArg (t25.2.2 (8 + i13_3)) (nI_clamp (n := i25_6 - 1) (by omega))))
                        refine y_stI E h hI_25 hF_25 (gi_ga_sorted g i13_3 (by omega)) (i := nI i25_6) (vp_in_nI (by omega) (by decide)) (j := i25_6) (nI_clamp (by omega)) (ba_none ((gb_ga_sorted i13_3) (by omega))) (gr_ga_sorted i13_3 [(8, 11)] (by omega) rfl) dX3_take_130 (fun s37 H locs q37 hI37 hF37 h => ?_)
                        replace hR25 := st_to hR25 (nI_clamp (n := i25_6) (by omega)) q37
                        have e38 : s37.1 3 = nI n1 := (congrArg (fun t : ST => t.1 3) q37).trans e26
                        replace hR25 := bd_to hR25 (y_dec1 (by omega))
                        refine lv_iinc (v := (nI (i25_6 - 1))) (lv' := [(6, .int (nI (i25_6 - 1))), (5, .int x20), (4, .ref (g.2.1 (12 + i13_3))), (3, .int (nI i13_3)), (0, .ref (g.2.1 10)), (1, .ref (g.2.1 5)), (2, .int (nI n10))]) hx hb dX3_take_131 hl (k := 0) rfl (y_dec1 (by omega)) (by decide) rfl (fun ls hl => ?_)
                        refine lv_goto (tgt := 102) hx hb dX3_take_134 (by decide) ?_
                        exact ih25 s37 (i25_6 - 1) hI37 hF37 e38 (by omega) hR25 (by omega) _ _ _ h (lv_sub hl [0, 1, 2, 3, 4, 5, 6] rfl)
                exact loop102_25 4096 t23 n1 hI_23 hF_23 e24 (by omega) hR23 (by omega) _ _ _ h (lv_sub hl [0, 1, 2, 3, 4, 5, 6] rfl)
              refine lv_if_le (tgt := 96) hx hb dX3_take_51 (by decide) (fun c21 => ?_) (fun c21 => ?_)
              · skip
                replace hR13 := it_t hR13 c21
                have b22 : n1 ≤ 0 := y_le (a := n1) (b := 0) (by omega) (by omega) c21
                exact j96_23 t13 hI_13 hF_13 e14 hR13 _ _ _ h (lv_sub hl [0, 1, 2, 3, 4, 5] rfl)
              · skip
                replace hR13 := it_f hR13 c21
                have b39 : 0 < n1 := y_nle (a := n1) (b := 0) (by omega) (by omega) c21
                refine lv_aload_n hx hb dX3_take_54 rfl (lv_at hl 3 rfl) ?_
                refine lv_dup hx hb dX3_take_55 rfl ?_
                obtain ⟨x40, e40⟩ : ∃ x, t13.1 4 = x := ⟨_, rfl⟩
                refine x_getI E h (fi_ga_spread g) rfl hwX3 (by decide) (by decide +kernel) (v := x40) e40 dX3_take_56 ?_
                replace hR13 := bd_to hR13 e40
                refine lv_iconst (v := 0) hx hb dX3_take_59 (by decide) ?_
                refine lv_aload hx hb dX3_take_60 (lv_at hl 1 rfl) ?_
                refine lv_aload_n hx hb dX3_take_62 rfl (lv_at hl 3 rfl) ?_
                refine x_getI E h (fi_ga_rows g) rfl hwX3 (by decide) (by decide +kernel) (v := nI n1) e14 dX3_take_63 ?_
                replace hR13 := bd_to hR13 e14
                refine lv_iconst (v := 1) hx hb dX3_take_66 (by decide) ?_
                refine lv_isub hx hb dX3_take_67 ?_
                refine x_topI (v2 := nI (n1 - 1)) (pk_sub (a := n1) (b := 1) (by omega)) ?_
                replace hR13 := bd_to hR13 (pk_sub (a := n1) (b := 1) (by omega))
                refine lv_iconst (v := 2) hx hb dX3_take_68 (by decide) ?_
                refine lv_idiv hx hb dX3_take_69 (by decide) ?_
                refine x_topI (v2 := nI ((n1 - 1) / 2)) (pk_div (a := n1 - 1) (d := 2) (by omega) (by decide) (by decide)) ?_
                replace hR13 := bd_to hR13 (pk_div (a := n1 - 1) (d := 2) (by omega) (by decide) (by decide))
                refine x_ldI E h (gi_ga_sorted g i13_3 (by omega)) (i := nI ((n1 - 1) / 2)) (vp_in_nI (by omega) (by decide)) (v := t13.2.2 (8 + i13_3) ((n1 - 1) / 2)) (congrArg (t13.2.2 (8 + i13_3)) (nI_clamp (n := (n1 - 1) / 2) (by omega))) dX3_take_70 ?_
                replace hR13 := bd_to hR13 (congrArg (t13.2.2 (8 + i13_3)) (nI_clamp (n := (n1 - 1) / 2) (by omega)))
                refine lv_iload hx hb dX3_take_71 (lv_at hl 0 rfl) ?_
                refine lv_isub hx hb dX3_take_73 ?_
                refine lv_topi (fun x41 e41 => ?_)
                replace hR13 := bd_to hR13 e41.symm
                refine lv_iload hx hb dX3_take_74 (lv_at hl 0 rfl) ?_
                refine lv_aload hx hb dX3_take_76 (lv_at hl 1 rfl) ?_
                refine lv_aload_n hx hb dX3_take_78 rfl (lv_at hl 3 rfl) ?_
                refine x_getI E h (fi_ga_rows g) rfl hwX3 (by decide) (by decide +kernel) (v := nI n1) e14 dX3_take_79 ?_
                replace hR13 := bd_to hR13 e14
                refine lv_iconst (v := 2) hx hb dX3_take_82 (by decide) ?_
                refine lv_idiv hx hb dX3_take_83 (by decide) ?_
                refine x_topI (v2 := nI (n1 / 2)) (pk_div (a := n1) (d := 2) (by omega) (by decide) (by decide)) ?_
                replace hR13 := bd_to hR13 (pk_div (a := n1) (d := 2) (by omega) (by decide) (by decide))
                refine x_ldI E h (gi_ga_sorted g i13_3 (by omega)) (i := nI (n1 / 2)) (vp_in_nI (by omega) (by decide)) (v := t13.2.2 (8 + i13_3) (n1 / 2)) (congrArg (t13.2.2 (8 + i13_3)) (nI_clamp (n := n1 / 2) (by omega))) dX3_take_84 ?_
                replace hR13 := bd_to hR13 (congrArg (t13.2.2 (8 + i13_3)) (nI_clamp (n := n1 / 2) (by omega)))
                refine lv_isub hx hb dX3_take_85 ?_
                refine lv_topi (fun x42 e42 => ?_)
                replace hR13 := bd_to hR13 e42.symm
                refine x_max E hl.1 (by decide +kernel) (by decide +kernel) (by decide +kernel) (by decide +kernel) ⟨Nat.le_of_ble_eq_true rfl, Nat.le_of_ble_eq_true rfl⟩ ⟨Nat.zero_le _, Nat.zero_le _⟩ dX3_take_86 ?_
                refine lv_topi (fun x43 e43 => ?_)
                replace hR13 := bd_to hR13 e43.symm
                refine x_max E hl.1 (by decide +kernel) (by decide +kernel) (by decide +kernel) (by decide +kernel) ⟨Nat.le_of_ble_eq_true rfl, Nat.le_of_ble_eq_true rfl⟩ ⟨Nat.zero_le _, Nat.zero_le _⟩ dX3_take_89 ?_
                refine lv_topi (fun x44 e44 => ?_)
                replace hR13 := bd_to hR13 e44.symm
                refine lv_iadd hx hb dX3_take_92 ?_
                refine lv_topi (fun x45 e45 => ?_)
                replace hR13 := bd_to hR13 e45.symm
                refine y_putI E h hI_13 hF_13 (ty := .int) (v := x45) (fi_ga_spread g) rfl hwX3 tyX3_ok nmX3 (by decide) (by decide +kernel) (by decide +kernel) (by decide +kernel) rfl rfl (ba_none rfl) rfl dX3_take_93 (fun s46 H locs q46 hI46 hF46 h => ?_)
                replace hR13 := bd_to hR13 q46.symm
                have e47 : s46.1 3 = nI n1 := (congrArg (fun t : ST => t.1 3) q46).trans e14
                have e48 : s46.1 4 = x45 := congrArg (fun t : ST => t.1 4) q46
                exact j96_23 s46 hI46 hF46 e47 hR13 _ _ _ h (lv_sub hl [0, 1, 2, 3, 4, 5] rfl)
        exact loop22_13 4096 σ 0 hI hF e1 (Nat.zero_le _) hR (by omega) _ _ _ h (lv_sub hl [0, 1, 2, 3] rfl)
      · skip
        replace hR := it_f hR c8
        subst hPQ
        exact x_vret E h ⟨hR0.trans hR.symm, hI, hF⟩ dX3_take_19
set_option maxHeartbeats 4000000 in
set_option maxRecDepth 100000 in
theorem aX2_findCosts_0 (l : Launch) (g : CX) (σ : ST) (hI : INV σ) (p3 : Int32) (p4 : Nat) (p5 : Nat) (hh0 : p4 ≤ p5) (hh1 : p5 ≤ 48) : XM l g yX2_findCosts wsX2_findCosts { frames := 2, cells := 0, slots := 0, locals := 47 } [.ref (g.2.1 16), .ref (g.2.1 5), .ref (g.2.1 10), .int p3, .int (nI p4), .int (nI p5)] σ (XQv g (fun σ' => fX2_findCosts_0 p3 (nI p4) (nI p5) σ = σ' ∧ INV σ' ∧ Fr [(3, 4)] [(8, 11), (18, 19)] σ σ')) := by
  refine x_met (own := RX2) (cc := cX2_findCosts) (maxL := 9) (ret := none) (lv := [(0, .ref (g.2.1 16)), (1, .ref (g.2.1 5)), (2, .ref (g.2.1 10)), (3, .int p3), (4, .int (nI p4)), (5, .int (nI p5))]) (by decide) rfl rfl (Nat.le_of_ble_eq_true rfl) rfl ?_
  intro p e s m args below meth c ls E h hl
  have hx := E.1
  have hb := E.2.1
  have hown := E.2.2.2.1
  have hts := E.2.2.2.2.1
  have hF : Fr [(3, 4)] [(8, 11), (18, 19)] σ σ := Fr.refl σ
  obtain ⟨R, hR0⟩ : ∃ R, fX2_findCosts_0 p3 (nI p4) (nI p5) σ = R := ⟨_, rfl⟩
  have hR : fX2_findCosts_0b0 p3 (nI p4) (nI p5) σ = R := hR0
  have hwX2 : ∀ w ∈ wsX20, w ∈ wsX2_findCosts := by decide +kernel
  have hwX3 : ∀ w ∈ wsX30, w ∈ wsX2_findCosts := by decide +kernel
  generalize hPQ : XQv g (fun σ' => fX2_findCosts_0 p3 (nI p4) (nI p5) σ = σ' ∧ INV σ' ∧ Fr [(3, 4)] [(8, 11), (18, 19)] σ σ') = PQz
  refine lv_aload_n hx hb dX2_findCosts_0 rfl (lv_at hl 0 rfl) ?_
  refine x_getR E h (fr_cu_cost g) rfl hwX2 (by decide) (by decide +kernel) dX2_findCosts_1 ?_
  refine lv_iload hx hb dX2_findCosts_4 (lv_at hl 5 rfl) ?_
  refine lv_iconst (v := 0) hx hb dX2_findCosts_6 (by decide) ?_
  refine y_stI E h hI hF (ia_cu_cost g) (i := nI p5) (vp_in_nI (by omega) (by decide)) (j := p5) (nI_clamp (by omega)) (ba_none rfl) rfl dX2_findCosts_7 (fun s1 H locs q1 hI1 hF1 h => ?_)
  replace hR := st_to hR (nI_clamp (n := p5) (by omega)) q1
  refine lv_iload hx hb dX2_findCosts_8 (lv_at hl 5 rfl) ?_
  refine lv_iconst (v := 1) hx hb dX2_findCosts_10 (by decide) ?_
  refine lv_isub hx hb dX2_findCosts_11 ?_
  replace hR := bd_to hR rfl
  refine lv_istore (lv' := [(6, .int (nI p5 - 1)), (0, .ref (g.2.1 16)), (1, .ref (g.2.1 5)), (2, .ref (g.2.1 10)), (3, .int p3), (4, .int (nI p4)), (5, .int (nI p5))]) hx hb dX2_findCosts_12 hl (by decide) rfl (fun ls hl => ?_)
  have loop14_2 : ∀ (fu : Nat) (t2 : ST) (i2_6 : Nat), INV t2 → Fr [(3, 4)] [(8, 11), (18, 19)] σ t2 → i2_6 ≤ p5 → fX2_findCosts_0l14 fu p3 (nI p4) (nI p5) (nI i2_6 - 1) t2 = R → i2_6 < fu → ∀ (H : Heap) (locs : List Loc) (ls : Array Slot), HW g t2 s H locs → lv_has ls 9 [(6, .int (nI i2_6 - 1)), (0, .ref (g.2.1 16)), (1, .ref (g.2.1 5)), (2, .ref (g.2.1 10)), (3, .int p3), (4, .int (nI p4)), (5, .int (nI p5))] → W p l e { frames := 2, cells := 0, slots := 0, locals := 47 } s m args below meth c H locs 0 0 (MQ below PQz args s 0 0 (Aw g)) (F0 m 14 ls []) := by
    intro fu2
    induction fu2 with
    | zero => intro t2 i2_6 hI_2 hF_2 bi2_6 hR2 hm; exact absurd hm (Nat.not_lt_zero _)
    | succ fu2 ih =>
      have ih2 := ih
      clear ih
      intro t2 i2_6 hI_2 hF_2 bi2_6 hR2 hm2 H locs ls h hl
      replace hR2 : fX2_findCosts_0b14 (fX2_findCosts_0l14 fu2) p3 (nI p4) (nI p5) (nI i2_6 - 1) t2 = R := hR2
      refine lv_iload hx hb dX2_findCosts_14 (lv_at hl 0 rfl) ?_
      refine lv_iload hx hb dX2_findCosts_16 (lv_at hl 5 rfl) ?_
      refine lv_icmp_lt (tgt := 117) hx hb dX2_findCosts_18 (by decide) (fun c3 => ?_) (fun c3 => ?_)
      · skip
        replace hR2 := it_t hR2 c3
        have b4 : i2_6 < p4 + 1 := y_ltL (a := i2_6) (b := p4) (by omega) (by omega) c3
        subst hPQ
        exact x_vret E h ⟨hR0.trans hR2.symm, hI_2, hF_2⟩ dX2_findCosts_117
      · skip
        replace hR2 := it_f hR2 c3
        have b5 : p4 + 1 ≤ i2_6 := y_nltL (a := i2_6) (b := p4) (by omega) (by omega) c3
        obtain ⟨n6, rfl⟩ : ∃ z, i2_6 = z + 1 := ⟨i2_6 - 1, by omega⟩
        rw [nI_pred] at hl
        try rw [nI_pred] at hR2
        refine lv_aload_n hx hb dX2_findCosts_21 rfl (lv_at hl 3 rfl) ?_
        refine x_vv E h (na := 0) (As := []) (aX3_empty_0 l g t2 hI_2) (oc_ga g) rfl gX2_findCosts_X3_empty rfl ⟨rfl, rfl⟩ rfl (by decide +kernel) ⟨Nat.le_of_ble_eq_true rfl, Nat.le_of_ble_eq_true rfl⟩ hl.1 rfl (Nat.le_of_ble_eq_true rfl) dX2_findCosts_22 ⟨Nat.le_of_ble_eq_true rfl, Nat.le_of_ble_eq_true rfl⟩ (fun s7 H locs q7 h => ?_)
        obtain ⟨x7, hI7, f7⟩ := q7
        replace hR2 := bd_to hR2 x7
        have hF7 := hF_2.call f7 (I := [(3, 4)]) (J := [(8, 11), (18, 19)]) rfl rfl
        refine lv_aload_n hx hb dX2_findCosts_25 rfl (lv_at hl 1 rfl) ?_
        refine x_getR E h (fr_cu_cost g) rfl hwX2 (by decide) (by decide +kernel) dX2_findCosts_26 ?_
        refine lv_iload hx hb dX2_findCosts_29 (lv_at hl 0 rfl) ?_
        refine lv_ldc (v := 1000000000) hx hb hown (hts (.constant RX2 77 (1000000000)) (by decide +kernel)) dX2_findCosts_31 ?_
        refine y_stI E h hI7 hF7 (ia_cu_cost g) (i := nI n6) (vp_in_nI (by omega) (by decide)) (j := n6) (nI_clamp (by omega)) (ba_none rfl) rfl dX2_findCosts_33 (fun s8 H locs q8 hI8 hF8 h => ?_)
        replace hR2 := st_to hR2 (nI_clamp (n := n6) (by omega)) q8
        refine lv_iload hx hb dX2_findCosts_34 (lv_at hl 0 rfl) ?_
        refine lv_istore (lv' := [(7, .int (nI n6)), (6, .int (nI n6)), (0, .ref (g.2.1 16)), (1, .ref (g.2.1 5)), (2, .ref (g.2.1 10)), (3, .int p3), (4, .int (nI p4)), (5, .int (nI p5))]) hx hb dX2_findCosts_36 hl (by decide) rfl (fun ls hl => ?_)
        have loop38_9 : ∀ (fu : Nat) (t9 : ST) (i9_7 : Nat), INV t9 → Fr [(3, 4)] [(8, 11), (18, 19)] σ t9 → i9_7 ≤ p5 → n6 ≤ i9_7 → fX2_findCosts_0l38 (fX2_findCosts_0l14 fu2) fu p3 (nI p4) (nI p5) (nI n6) (nI i9_7) t9 = R → p5 - i9_7 < fu → ∀ (H : Heap) (locs : List Loc) (ls : Array Slot), HW g t9 s H locs → lv_has ls 9 [(7, .int (nI i9_7)), (6, .int (nI n6)), (0, .ref (g.2.1 16)), (1, .ref (g.2.1 5)), (2, .ref (g.2.1 10)), (3, .int p3), (4, .int (nI p4)), (5, .int (nI p5))] → W p l e { frames := 2, cells := 0, slots := 0, locals := 47 } s m args below meth c H locs 0 0 (MQ below PQz args s 0 0 (Aw g)) (F0 m 38 ls []) := by
          intro fu9
          induction fu9 with
          | zero => intro t9 i9_7 hI_9 hF_9 bi9_7 pp9_0 hR9 hm; exact absurd hm (Nat.not_lt_zero _)
          | succ fu9 ih =>
            have ih9 := ih
            clear ih
            intro t9 i9_7 hI_9 hF_9 bi9_7 pp9_0 hR9 hm9 H locs ls h hl
            replace hR9 : fX2_findCosts_0b38 (fX2_findCosts_0l14 fu2) (fX2_findCosts_0l38 (fX2_findCosts_0l14 fu2) fu9) p3 (nI p4) (nI p5) (nI n6) (nI i9_7) t9 = R := hR9
            refine lv_iload hx hb dX2_findCosts_38 (lv_at hl 0 rfl) ?_
            refine lv_iload hx hb dX2_findCosts_40 (lv_at hl 7 rfl) ?_
            refine lv_icmp_ge (tgt := 111) hx hb dX2_findCosts_42 (by decide) (fun c10 => ?_) (fun c10 => ?_)
            · skip
              replace hR9 := it_t hR9 c10
              have b11 : p5 ≤ i9_7 := y_le (a := p5) (b := i9_7) (by omega) (by omega) c10
              replace hR9 := bd_to hR9 (y_m1 n6)
              refine lv_iinc (v := (nI n6 - 1)) (lv' := [(6, .int (nI n6 - 1)), (7, .int (nI i9_7)), (0, .ref (g.2.1 16)), (1, .ref (g.2.1 5)), (2, .ref (g.2.1 10)), (3, .int p3), (4, .int (nI p4)), (5, .int (nI p5))]) hx hb dX2_findCosts_111 hl (k := 1) rfl (y_m1 n6) (by decide) rfl (fun ls hl => ?_)
              refine lv_goto (tgt := 14) hx hb dX2_findCosts_114 (by decide) ?_
              exact ih2 t9 n6 hI_9 hF_9 (by omega) hR9 (by omega) _ _ _ h (lv_sub hl [0, 2, 3, 4, 5, 6, 7] rfl)
            · skip
              replace hR9 := it_f hR9 c10
              have b12 : i9_7 < p5 := y_nle (a := p5) (b := i9_7) (by omega) (by omega) c10
              refine lv_aload_n hx hb dX2_findCosts_45 rfl (lv_at hl 4 rfl) ?_
              refine lv_aload_n hx hb dX2_findCosts_46 rfl (lv_at hl 3 rfl) ?_
              refine lv_iload hx hb dX2_findCosts_47 (lv_at hl 0 rfl) ?_
              refine x_vv E h (na := 2) (As := [.ref (g.2.1 5), .int (nI i9_7)]) (aX3_take_0 l g t9 hI_9 (nI i9_7)) (oc_ga g) rfl gX2_findCosts_X3_take rfl ⟨rfl, rfl⟩ rfl (by decide +kernel) ⟨Nat.le_of_ble_eq_true rfl, Nat.le_of_ble_eq_true rfl⟩ hl.1 rfl (Nat.le_of_ble_eq_true rfl) dX2_findCosts_49 ⟨Nat.le_of_ble_eq_true rfl, Nat.le_of_ble_eq_true rfl⟩ (fun s13 H locs q13 h => ?_)
              obtain ⟨x13, hI13, f13⟩ := q13
              replace hR9 := bd_to hR9 x13
              have hF13 := hF_9.call f13 (I := [(3, 4)]) (J := [(8, 11), (18, 19)]) rfl rfl
              refine lv_aload_n hx hb dX2_findCosts_52 rfl (lv_at hl 4 rfl) ?_
              obtain ⟨x14, e14⟩ : ∃ x, s13.1 4 = x := ⟨_, rfl⟩
              refine x_getIN E h (fi_ga_spread g) rfl hwX3 (by decide) (by decide +kernel) (v := x14) e14 dX2_findCosts_53 ?_
              replace hR9 := bd_to hR9 e14
              refine lv_iload_n hx hb dX2_findCosts_56 rfl (lv_at hl 5 rfl) ?_
              refine lv_iadd hx hb dX2_findCosts_57 ?_
              refine lv_topi (fun x15 e15 => ?_)
              replace hR9 := bd_to hR9 e15.symm
              refine lv_aload_n hx hb dX2_findCosts_58 rfl (lv_at hl 2 rfl) ?_
              refine x_getR E h (fr_cu_cost g) rfl hwX2 (by decide) (by decide +kernel) dX2_findCosts_59 ?_
              refine lv_iload hx hb dX2_findCosts_62 (lv_at hl 0 rfl) ?_
              refine lv_iconst (v := 1) hx hb dX2_findCosts_64 (by decide) ?_
              refine lv_iadd hx hb dX2_findCosts_65 ?_
              refine x_topI (v2 := nI (i9_7 + 1)) (nI_add i9_7 1) ?_
              replace hR9 := bd_to hR9 (nI_add i9_7 1)
              refine x_ldI E h (ia_cu_cost g) (i := nI (i9_7 + 1)) (vp_in_nI (by omega) (by decide)) (v := s13.2.2 18 (i9_7 + 1)) (congrArg (s13.2.2 18) (nI_clamp (n := i9_7 + 1) (by omega))) dX2_findCosts_66 ?_
              replace hR9 := bd_to hR9 (congrArg (s13.2.2 18) (nI_clamp (n := i9_7 + 1) (by omega)))
              refine lv_iadd hx hb dX2_findCosts_67 ?_
              refine lv_topi (fun x16 e16 => ?_)
              replace hR9 := bd_to hR9 e16.symm
              refine lv_istore (lv' := [(8, .int x16), (7, .int (nI i9_7)), (6, .int (nI n6)), (0, .ref (g.2.1 16)), (1, .ref (g.2.1 5)), (2, .ref (g.2.1 10)), (3, .int p3), (4, .int (nI p4)), (5, .int (nI p5))]) hx hb dX2_findCosts_68 hl (by decide) rfl (fun ls hl => ?_)
              refine lv_iload hx hb dX2_findCosts_70 (lv_at hl 0 rfl) ?_
              refine lv_aload_n hx hb dX2_findCosts_72 rfl (lv_at hl 3 rfl) ?_
              refine x_getR E h (fr_cu_cost g) rfl hwX2 (by decide) (by decide +kernel) dX2_findCosts_73 ?_
              refine lv_iload hx hb dX2_findCosts_76 (lv_at hl 2 rfl) ?_
              refine x_ldI E h (ia_cu_cost g) (i := nI n6) (vp_in_nI (by omega) (by decide)) (v := s13.2.2 18 n6) (congrArg (s13.2.2 18) (nI_clamp (n := n6) (by omega))) dX2_findCosts_78 ?_
              replace hR9 := bd_to hR9 (congrArg (s13.2.2 18) (nI_clamp (n := n6) (by omega)))
              have j105_19 : ∀ (t19 : ST), INV t19 → Fr [(3, 4)] [(8, 11), (18, 19)] σ t19 → t19.1 4 = x14 → fX2_findCosts_0b105 (fX2_findCosts_0l14 fu2) (fX2_findCosts_0l38 (fX2_findCosts_0l14 fu2) fu9) p3 (nI p4) (nI p5) (nI n6) (nI i9_7) t19 = R → ∀ (H : Heap) (locs : List Loc) (ls : Array Slot), HW g t19 s H locs → lv_has ls 9 [(8, .int x16), (7, .int (nI i9_7)), (6, .int (nI n6)), (0, .ref (g.2.1 16)), (1, .ref (g.2.1 5)), (2, .ref (g.2.1 10)), (3, .int p3), (4, .int (nI p4)), (5, .int (nI p5))] → W p l e { frames := 2, cells := 0, slots := 0, locals := 47 } s m args below meth c H locs 0 0 (MQ below PQz args s 0 0 (Aw g)) (F0 m 105 ls []) := by
                intro t19 hI_19 hF_19 e20 hR19 H locs ls h hl
                replace hR19 := bd_to hR19 (nI_add i9_7 1)
                refine lv_iinc (v := (nI (i9_7 + 1))) (lv' := [(7, .int (nI (i9_7 + 1))), (8, .int x16), (6, .int (nI n6)), (0, .ref (g.2.1 16)), (1, .ref (g.2.1 5)), (2, .ref (g.2.1 10)), (3, .int p3), (4, .int (nI p4)), (5, .int (nI p5))]) hx hb dX2_findCosts_105 hl (k := 1) rfl (nI_add i9_7 1) (by decide) rfl (fun ls hl => ?_)
                refine lv_goto (tgt := 38) hx hb dX2_findCosts_108 (by decide) ?_
                exact ih9 t19 (i9_7 + 1) hI_19 hF_19 (by omega) (by omega) hR19 (by omega) _ _ _ h (lv_sub hl [0, 2, 3, 4, 5, 6, 7, 8] rfl)
              refine lv_icmp_gt (tgt := 105) hx hb dX2_findCosts_79 (by decide) (fun c17 => ?_) (fun c17 => ?_)
              · skip
                replace hR9 := it_t hR9 c17
                exact j105_19 s13 hI13 hF13 e14 hR9 _ _ _ h (lv_sub hl [0, 1, 2, 3, 4, 5, 6, 7, 8] rfl)
              · skip
                replace hR9 := it_f hR9 c17
                refine lv_aload_n hx hb dX2_findCosts_82 rfl (lv_at hl 3 rfl) ?_
                refine x_getR E h (fr_cu_cost g) rfl hwX2 (by decide) (by decide +kernel) dX2_findCosts_83 ?_
                refine lv_iload hx hb dX2_findCosts_86 (lv_at hl 2 rfl) ?_
                refine lv_iload hx hb dX2_findCosts_88 (lv_at hl 0 rfl) ?_
                refine y_stI E h hI13 hF13 (ia_cu_cost g) (i := nI n6) (vp_in_nI (by omega) (by decide)) (j := n6) (nI_clamp (by omega)) (ba_none rfl) rfl dX2_findCosts_90 (fun s22 H locs q22 hI22 hF22 h => ?_)
                replace hR9 := st_to hR9 (nI_clamp (n := n6) (by omega)) q22
                have e23 : s22.1 4 = x14 := (congrArg (fun t : ST => t.1 4) q22).trans e14
                refine lv_aload_n hx hb dX2_findCosts_91 rfl (lv_at hl 3 rfl) ?_
                refine x_getR E h (fr_cu_most g) rfl hwX2 (by decide) (by decide +kernel) dX2_findCosts_92 ?_
                refine lv_iload hx hb dX2_findCosts_95 (lv_at hl 2 rfl) ?_
                refine lv_iload hx hb dX2_findCosts_97 (lv_at hl 1 rfl) ?_
                refine lv_iload hx hb dX2_findCosts_99 (lv_at hl 2 rfl) ?_
                refine lv_isub hx hb dX2_findCosts_101 ?_
                refine x_topI (v2 := nI (i9_7 - n6)) (pk_sub (a := i9_7) (b := n6) (by omega)) ?_
                replace hR9 := bd_to hR9 (pk_sub (a := i9_7) (b := n6) (by omega))
                refine lv_iconst (v := 1) hx hb dX2_findCosts_102 (by decide) ?_
                refine lv_iadd hx hb dX2_findCosts_103 ?_
                refine x_topI (v2 := nI ((i9_7 - n6) + 1)) (nI_add (i9_7 - n6) 1) ?_
                replace hR9 := bd_to hR9 (nI_add (i9_7 - n6) 1)
                refine y_stI E h hI22 hF22 (ia_cu_most g) (i := nI n6) (vp_in_nI (by omega) (by decide)) (j := n6) (nI_clamp (by omega)) (ba_some rfl (Bd.mk (n := ((i9_7 - n6) + 1)) (by omega))) rfl dX2_findCosts_104 (fun s24 H locs q24 hI24 hF24 h => ?_)
                replace hR9 := st_to hR9 (nI_clamp (n := n6) (by omega)) q24
                have e25 : s24.1 4 = x14 := (congrArg (fun t : ST => t.1 4) q24).trans e23
                exact j105_19 s24 hI24 hF24 e25 hR9 _ _ _ h (lv_sub hl [0, 1, 2, 3, 4, 5, 6, 7, 8] rfl)
        exact loop38_9 4096 s8 n6 hI8 hF8 (by omega) (by omega) hR2 (by omega) _ _ _ h (lv_sub hl [0, 1, 2, 3, 4, 5, 6, 7] rfl)
  exact loop14_2 4096 s1 p5 hI1 hF1 (by omega) (by first | exact hR | (rw [nI_pred]; exact hR)) (by omega) _ _ _ h (lv_sub hl [0, 1, 2, 3, 4, 5, 6] rfl)
set_option maxHeartbeats 4000000 in
set_option maxRecDepth 100000 in
theorem aX3_writeMiddle_0 (l : Launch) (g : CX) (σ : ST) (hI : INV σ) (p2 : Int32) : XM l g yX3_writeMiddle wsX3_writeMiddle { frames := 0, cells := 0, slots := 0, locals := 0 } [.ref (g.2.1 10), .ref (g.2.1 20), .int p2] σ (XQv g (fun σ' => fX3_writeMiddle_0 p2 σ = σ' ∧ INV σ' ∧ Fr [] [(15, 15)] σ σ')) := by
  refine x_met (own := RX3) (cc := cX3_writeMiddle) (maxL := 4) (ret := none) (lv := [(0, .ref (g.2.1 10)), (1, .ref (g.2.1 20)), (2, .int p2)]) (by decide) rfl rfl (Nat.le_of_ble_eq_true rfl) rfl ?_
  intro p e s m args below meth c ls E h hl
  have hx := E.1
  have hb := E.2.1
  have hown := E.2.2.2.1
  have hts := E.2.2.2.2.1
  have hF : Fr [] [(15, 15)] σ σ := Fr.refl σ
  obtain ⟨R, hR0⟩ : ∃ R, fX3_writeMiddle_0 p2 σ = R := ⟨_, rfl⟩
  have hR : fX3_writeMiddle_0b0 p2 σ = R := hR0
  have hwX3 : ∀ w ∈ wsX30, w ∈ wsX3_writeMiddle := by decide +kernel
  generalize hPQ : XQv g (fun σ' => fX3_writeMiddle_0 p2 σ = σ' ∧ INV σ' ∧ Fr [] [(15, 15)] σ σ') = PQz
  refine lv_aload_n hx hb dX3_writeMiddle_0 rfl (lv_at hl 0 rfl) ?_
  obtain ⟨n1, b1, e1⟩ := hI.1 3 48 rfl
  refine x_getI E h (fi_ga_rows g) rfl hwX3 (by decide) (by decide +kernel) (v := nI n1) e1 dX3_writeMiddle_1 ?_
  replace hR := bd_to hR e1
  refine lv_if_eq (tgt := 19) hx hb dX3_writeMiddle_4 (by decide) (fun c2 => ?_) (fun c2 => ?_)
  · skip
    replace hR := it_t hR c2
    have b3 : n1 = 0 := y_eq (a := n1) (b := 0) (by omega) (by omega) c2
    subst hPQ
    exact x_vret E h ⟨hR0.trans hR.symm, hI, hF⟩ dX3_writeMiddle_19
  · skip
    replace hR := it_f hR c2
    have b4 : ¬ n1 = 0 := y_ne (a := n1) (b := 0) (by omega) (by omega) c2
    refine lv_iload_n hx hb dX3_writeMiddle_7 rfl (lv_at hl 2 rfl) ?_
    refine lv_if_lt (tgt := 19) hx hb dX3_writeMiddle_8 (by decide) (fun c5 => ?_) (fun c5 => ?_)
    · skip
      replace hR := it_t hR c5
      subst hPQ
      exact x_vret E h ⟨hR0.trans hR.symm, hI, hF⟩ dX3_writeMiddle_19
    · skip
      replace hR := it_f hR c5
      refine lv_iload_n hx hb dX3_writeMiddle_11 rfl (lv_at hl 2 rfl) ?_
      refine lv_aload_n hx hb dX3_writeMiddle_12 rfl (lv_at hl 1 rfl) ?_
      refine x_len E h (ia_cu_middles g) (v := 192) (by decide) dX3_writeMiddle_13 ?_
      refine lv_iconst (v := 4) hx hb dX3_writeMiddle_14 (by decide) ?_
      refine lv_isub hx hb dX3_writeMiddle_15 ?_
      refine x_topI (v2 := 188) (by decide) ?_
      replace hR := bd_to hR (show (192 : Int32) - (4 : Int32) = 188 by decide)
      refine lv_icmp_le (tgt := 20) hx hb dX3_writeMiddle_16 (by decide) (fun c8 => ?_) (fun c8 => ?_)
      · skip
        replace hR := it_t hR c8
        obtain ⟨n10, b10, rfl⟩ := y_rle (N := 188) (y_lo1 c5 (by decide)) c8 (by omega)
        have b11 : 0 ≤ n10 := y_nlt (a := n10) (b := 0) (by omega) (by omega) c5
        have b12 : n10 ≤ 188 := y_le (a := n10) (b := 188) (by omega) (by omega) c8
        refine lv_iconst (v := 0) hx hb dX3_writeMiddle_20 (by decide) ?_
        refine lv_istore_n (lv' := [(3, .int 0), (0, .ref (g.2.1 10)), (1, .ref (g.2.1 20)), (2, .int (nI n10))]) hx hb dX3_writeMiddle_21 rfl hl (by decide) rfl (fun ls hl => ?_)
        have loop22_13 : ∀ (fu : Nat) (t13 : ST) (i13_3 : Nat), INV t13 → Fr [] [(15, 15)] σ t13 → t13.1 3 = nI n1 → i13_3 ≤ 4 → fX3_writeMiddle_0l22 fu (nI n10) (nI i13_3) t13 = R → 4 - i13_3 < fu → ∀ (H : Heap) (locs : List Loc) (ls : Array Slot), HW g t13 s H locs → lv_has ls 4 [(3, .int (nI i13_3)), (0, .ref (g.2.1 10)), (1, .ref (g.2.1 20)), (2, .int (nI n10))] → W p l e { frames := 0, cells := 0, slots := 0, locals := 0 } s m args below meth c H locs 0 0 (MQ below PQz args s 0 0 (Aw g)) (F0 m 22 ls []) := by
          intro fu13
          induction fu13 with
          | zero => intro t13 i13_3 hI_13 hF_13 e14 bi13_3 hR13 hm; exact absurd hm (Nat.not_lt_zero _)
          | succ fu13 ih =>
            have ih13 := ih
            clear ih
            intro t13 i13_3 hI_13 hF_13 e14 bi13_3 hR13 hm13 H locs ls h hl
            replace hR13 : fX3_writeMiddle_0b22 (fX3_writeMiddle_0l22 fu13) (nI n10) (nI i13_3) t13 = R := hR13
            refine lv_iload_n hx hb dX3_writeMiddle_22 rfl (lv_at hl 0 rfl) ?_
            refine lv_iconst (v := 4) hx hb dX3_writeMiddle_23 (by decide) ?_
            refine lv_icmp_ge (tgt := 53) hx hb dX3_writeMiddle_24 (by decide) (fun c15 => ?_) (fun c15 => ?_)
            · skip
              replace hR13 := it_t hR13 c15
              have b16 : 4 ≤ i13_3 := y_le (a := 4) (b := i13_3) (by omega) (by omega) c15
              subst hPQ
              exact x_vret E h ⟨hR0.trans hR13.symm, hI_13, hF_13⟩ dX3_writeMiddle_53
            · skip
              replace hR13 := it_f hR13 c15
              have b17 : i13_3 < 4 := y_nle (a := 4) (b := i13_3) (by omega) (by omega) c15
              refine lv_aload_n hx hb dX3_writeMiddle_27 rfl (lv_at hl 2 rfl) ?_
              refine lv_iload_n hx hb dX3_writeMiddle_28 rfl (lv_at hl 3 rfl) ?_
              refine lv_iload_n hx hb dX3_writeMiddle_29 rfl (lv_at hl 0 rfl) ?_
              refine lv_iadd hx hb dX3_writeMiddle_30 ?_
              refine x_topI (v2 := nI (n10 + i13_3)) (nI_add n10 i13_3) ?_
              replace hR13 := bd_to hR13 (nI_add n10 i13_3)
              refine lv_aload_n hx hb dX3_writeMiddle_31 rfl (lv_at hl 1 rfl) ?_
              refine x_getR E h (fr_ga_sorted g) rfl hwX3 (by decide) (by decide +kernel) dX3_writeMiddle_32 ?_
              refine lv_iload_n hx hb dX3_writeMiddle_35 rfl (lv_at hl 0 rfl) ?_
              refine x_row E h (fg_ga_sorted g) (i := nI i13_3) (vp_in_nI (by omega) (by decide)) (kr := 12 + i13_3) (by rw [nI_clamp (by omega)]) dX3_writeMiddle_36 ?_
              replace hR13 := bd_to hR13 (nI_clamp (n := i13_3) (by omega))
              refine lv_aload_n hx hb dX3_writeMiddle_37 rfl (lv_at hl 1 rfl) ?_
              refine x_getI E h (fi_ga_rows g) rfl hwX3 (by decide) (by decide +kernel) (v := nI n1) e14 dX3_writeMiddle_38 ?_
              replace hR13 := bd_to hR13 e14
              refine lv_iconst (v := 1) hx hb dX3_writeMiddle_41 (by decide) ?_
              refine lv_isub hx hb dX3_writeMiddle_42 ?_
              refine x_topI (v2 := nI (n1 - 1)) (pk_sub (a := n1) (b := 1) (by omega)) ?_
              replace hR13 := bd_to hR13 (pk_sub (a := n1) (b := 1) (by omega))
              refine lv_iconst (v := 2) hx hb dX3_writeMiddle_43 (by decide) ?_
              refine lv_idiv hx hb dX3_writeMiddle_44 (by decide) ?_
              refine x_topI (v2 := nI ((n1 - 1) / 2)) (pk_div (a := n1 - 1) (d := 2) (by omega) (by decide) (by decide)) ?_
              replace hR13 := bd_to hR13 (pk_div (a := n1 - 1) (d := 2) (by omega) (by decide) (by decide))
              refine x_ldI E h (gi_ga_sorted g i13_3 (by omega)) (i := nI ((n1 - 1) / 2)) (vp_in_nI (by omega) (by decide)) (v := t13.2.2 (8 + i13_3) ((n1 - 1) / 2)) (congrArg (t13.2.2 (8 + i13_3)) (nI_clamp (n := (n1 - 1) / 2) (by omega))) dX3_writeMiddle_45 ?_
              replace hR13 := bd_to hR13 (congrArg (t13.2.2 (8 + i13_3)) (nI_clamp (n := (n1 - 1) / 2) (by omega)))
              refine y_stI E h hI_13 hF_13 (ia_cu_middles g) (i := nI (n10 + i13_3)) (vp_in_nI (by omega) (by decide)) (j := (n10 + i13_3)) (nI_clamp (by omega)) (ba_none rfl) rfl dX3_writeMiddle_46 (fun s18 H locs q18 hI18 hF18 h => ?_)
              replace hR13 := st_to hR13 (nI_clamp (n := n10 + i13_3) (by omega)) q18
              have e19 : s18.1 3 = nI n1 := (congrArg (fun t : ST => t.1 3) q18).trans e14
              replace hR13 := bd_to hR13 (nI_add i13_3 1)
              refine lv_iinc (v := (nI (i13_3 + 1))) (lv' := [(3, .int (nI (i13_3 + 1))), (0, .ref (g.2.1 10)), (1, .ref (g.2.1 20)), (2, .int (nI n10))]) hx hb dX3_writeMiddle_47 hl (k := 0) rfl (nI_add i13_3 1) (by decide) rfl (fun ls hl => ?_)
              refine lv_goto (tgt := 22) hx hb dX3_writeMiddle_50 (by decide) ?_
              exact ih13 s18 (i13_3 + 1) hI18 hF18 e19 (by omega) hR13 (by omega) _ _ _ h (lv_sub hl [0, 1, 2, 3] rfl)
        exact loop22_13 4096 σ 0 hI hF e1 (Nat.zero_le _) hR (by omega) _ _ _ h (lv_sub hl [0, 1, 2, 3] rfl)
      · skip
        replace hR := it_f hR c8
        subst hPQ
        exact x_vret E h ⟨hR0.trans hR.symm, hI, hF⟩ dX3_writeMiddle_19
set_option maxHeartbeats 4000000 in
set_option maxRecDepth 100000 in
theorem aX2_addPieces_0 (l : Launch) (g : CX) (σ : ST) (hI : INV σ) (p3 : Nat) (p4 : Nat) (hh0 : p3 ≤ p4) (hh1 : p4 ≤ 48) : XM l g yX2_addPieces wsX2_addPieces { frames := 2, cells := 0, slots := 0, locals := 47 } [.ref (g.2.1 16), .ref (g.2.1 5), .ref (g.2.1 10), .int (nI p3), .int (nI p4)] σ (XQv g (fun σ' => fX2_addPieces_0 (nI p3) (nI p4) σ = σ' ∧ INV σ' ∧ Fr [(3, 5)] [(8, 17)] σ σ')) := by
  refine x_met (own := RX2) (cc := cX2_addPieces) (maxL := 8) (ret := none) (lv := [(0, .ref (g.2.1 16)), (1, .ref (g.2.1 5)), (2, .ref (g.2.1 10)), (3, .int (nI p3)), (4, .int (nI p4))]) (by decide) rfl rfl (Nat.le_of_ble_eq_true rfl) rfl ?_
  intro p e s m args below meth c ls E h hl
  have hx := E.1
  have hb := E.2.1
  have hown := E.2.2.2.1
  have hts := E.2.2.2.2.1
  have hF : Fr [(3, 5)] [(8, 17)] σ σ := Fr.refl σ
  obtain ⟨R, hR0⟩ : ∃ R, fX2_addPieces_0 (nI p3) (nI p4) σ = R := ⟨_, rfl⟩
  have hR : fX2_addPieces_0b0 (nI p3) (nI p4) σ = R := hR0
  have hwX2 : ∀ w ∈ wsX20, w ∈ wsX2_addPieces := by decide +kernel
  have hwX3 : ∀ w ∈ wsX30, w ∈ wsX2_addPieces := by decide +kernel
  generalize hPQ : XQv g (fun σ' => fX2_addPieces_0 (nI p3) (nI p4) σ = σ' ∧ INV σ' ∧ Fr [(3, 5)] [(8, 17)] σ σ') = PQz
  refine lv_iload_n hx hb dX2_addPieces_0 rfl (lv_at hl 3 rfl) ?_
  refine lv_istore (lv' := [(5, .int (nI p3)), (0, .ref (g.2.1 16)), (1, .ref (g.2.1 5)), (2, .ref (g.2.1 10)), (3, .int (nI p3)), (4, .int (nI p4))]) hx hb dX2_addPieces_1 hl (by decide) rfl (fun ls hl => ?_)
  have loop3_1 : ∀ (fu : Nat) (t1 : ST) (i1_5 : Nat), INV t1 → Fr [(3, 5)] [(8, 17)] σ t1 → i1_5 ≤ p4 → fX2_addPieces_0l3 fu (nI p4) (nI i1_5) t1 = R → p4 - i1_5 < fu → ∀ (H : Heap) (locs : List Loc) (ls : Array Slot), HW g t1 s H locs → lv_has ls 8 [(5, .int (nI i1_5)), (0, .ref (g.2.1 16)), (1, .ref (g.2.1 5)), (2, .ref (g.2.1 10)), (3, .int (nI p3)), (4, .int (nI p4))] → W p l e { frames := 2, cells := 0, slots := 0, locals := 47 } s m args below meth c H locs 0 0 (MQ below PQz args s 0 0 (Aw g)) (F0 m 3 ls []) := by
    intro fu1
    induction fu1 with
    | zero => intro t1 i1_5 hI_1 hF_1 bi1_5 hR1 hm; exact absurd hm (Nat.not_lt_zero _)
    | succ fu1 ih =>
      have ih1 := ih
      clear ih
      intro t1 i1_5 hI_1 hF_1 bi1_5 hR1 hm1 H locs ls h hl
      replace hR1 : fX2_addPieces_0b3 (fX2_addPieces_0l3 fu1) (nI p4) (nI i1_5) t1 = R := hR1
      refine lv_iload hx hb dX2_addPieces_3 (lv_at hl 0 rfl) ?_
      refine lv_iload hx hb dX2_addPieces_5 (lv_at hl 5 rfl) ?_
      refine lv_icmp_ge (tgt := 161) hx hb dX2_addPieces_7 (by decide) (fun c2 => ?_) (fun c2 => ?_)
      · skip
        replace hR1 := it_t hR1 c2
        have b3 : p4 ≤ i1_5 := y_le (a := p4) (b := i1_5) (by omega) (by omega) c2
        subst hPQ
        exact x_vret E h ⟨hR0.trans hR1.symm, hI_1, hF_1⟩ dX2_addPieces_161
      · skip
        replace hR1 := it_f hR1 c2
        have b4 : i1_5 < p4 := y_nle (a := p4) (b := i1_5) (by omega) (by omega) c2
        refine lv_aload_n hx hb dX2_addPieces_10 rfl (lv_at hl 1 rfl) ?_
        obtain ⟨n5, b5, e5⟩ := hI_1.1 5 48 rfl
        refine x_getI E h (fi_cu_pieces g) rfl hwX2 (by decide) (by decide +kernel) (v := nI n5) e5 dX2_addPieces_11 ?_
        replace hR1 := bd_to hR1 e5
        refine lv_bipush (v := 48) hx hb dX2_addPieces_14 (by decide) ?_
        refine lv_icmp_ge (tgt := 161) hx hb dX2_addPieces_16 (by decide) (fun c6 => ?_) (fun c6 => ?_)
        · skip
          replace hR1 := it_t hR1 c6
          have b7 : 48 ≤ n5 := y_le (a := 48) (b := n5) (by omega) (by omega) c6
          subst hPQ
          exact x_vret E h ⟨hR0.trans hR1.symm, hI_1, hF_1⟩ dX2_addPieces_161
        · skip
          replace hR1 := it_f hR1 c6
          have b8 : n5 < 48 := y_nle (a := 48) (b := n5) (by omega) (by omega) c6
          refine lv_iload hx hb dX2_addPieces_19 (lv_at hl 5 rfl) ?_
          refine lv_iload hx hb dX2_addPieces_21 (lv_at hl 0 rfl) ?_
          refine lv_iconst (v := 1) hx hb dX2_addPieces_23 (by decide) ?_
          refine lv_aload_n hx hb dX2_addPieces_24 rfl (lv_at hl 1 rfl) ?_
          refine x_getR E h (fr_cu_most g) rfl hwX2 (by decide) (by decide +kernel) dX2_addPieces_25 ?_
          refine lv_iload hx hb dX2_addPieces_28 (lv_at hl 0 rfl) ?_
          obtain ⟨n9, b9, e9⟩ := hI_1.2 19 48 rfl i1_5
          refine x_ldI E h (ia_cu_most g) (i := nI i1_5) (vp_in_nI (by omega) (by decide)) (v := nI n9) ((congrArg (t1.2.2 19) (nI_clamp (n := i1_5) (by omega))).trans e9) dX2_addPieces_30 ?_
          replace hR1 := bd_to hR1 ((congrArg (t1.2.2 19) (nI_clamp (n := i1_5) (by omega))).trans e9)
          refine x_max E hl.1 (by decide +kernel) (by decide +kernel) (by decide +kernel) (by decide +kernel) ⟨Nat.le_of_ble_eq_true rfl, Nat.le_of_ble_eq_true rfl⟩ ⟨Nat.zero_le _, Nat.zero_le _⟩ dX2_addPieces_31 ?_
          obtain ⟨n10, b10, e10⟩ := y_max (a := 1) (b := n9) (by omega) (by omega)
          refine x_topI (v2 := nI n10) e10 ?_
          replace hR1 := bd_to hR1 e10
          refine lv_iadd hx hb dX2_addPieces_34 ?_
          refine x_topI (v2 := nI (i1_5 + n10)) (nI_add i1_5 n10) ?_
          replace hR1 := bd_to hR1 (nI_add i1_5 n10)
          refine x_min E hl.1 (by decide +kernel) (by decide +kernel) (by decide +kernel) (by decide +kernel) ⟨Nat.le_of_ble_eq_true rfl, Nat.le_of_ble_eq_true rfl⟩ ⟨Nat.zero_le _, Nat.zero_le _⟩ dX2_addPieces_35 ?_
          obtain ⟨n11, b11, e11⟩ := y_min (a := p4) (b := (i1_5 + n10)) (by omega) (by omega)
          refine x_topI (v2 := nI n11) e11 ?_
          replace hR1 := bd_to hR1 e11
          refine lv_istore (lv' := [(6, .int (nI n11)), (5, .int (nI i1_5)), (0, .ref (g.2.1 16)), (1, .ref (g.2.1 5)), (2, .ref (g.2.1 10)), (3, .int (nI p3)), (4, .int (nI p4))]) hx hb dX2_addPieces_38 hl (by decide) rfl (fun ls hl => ?_)
          refine lv_aload_n hx hb dX2_addPieces_40 rfl (lv_at hl 4 rfl) ?_
          refine x_vv E h (na := 0) (As := []) (aX3_empty_0 l g t1 hI_1) (oc_ga g) rfl gX2_addPieces_X3_empty rfl ⟨rfl, rfl⟩ rfl (by decide +kernel) ⟨Nat.le_of_ble_eq_true rfl, Nat.le_of_ble_eq_true rfl⟩ hl.1 rfl (Nat.le_of_ble_eq_true rfl) dX2_addPieces_41 ⟨Nat.le_of_ble_eq_true rfl, Nat.le_of_ble_eq_true rfl⟩ (fun s12 H locs q12 h => ?_)
          obtain ⟨x12, hI12, f12⟩ := q12
          replace hR1 := bd_to hR1 x12
          have hF12 := hF_1.call f12 (I := [(3, 5)]) (J := [(8, 17)]) rfl rfl
          have e13 : s12.1 5 = nI n5 := ((f12.1 5 rfl)).trans e5
          refine lv_iload hx hb dX2_addPieces_44 (lv_at hl 1 rfl) ?_
          refine lv_istore (lv' := [(7, .int (nI i1_5)), (6, .int (nI n11)), (5, .int (nI i1_5)), (0, .ref (g.2.1 16)), (1, .ref (g.2.1 5)), (2, .ref (g.2.1 10)), (3, .int (nI p3)), (4, .int (nI p4))]) hx hb dX2_addPieces_46 hl (by decide) rfl (fun ls hl => ?_)
          have loop48_14 : ∀ (fu : Nat) (t14 : ST) (i14_7 : Nat), INV t14 → Fr [(3, 5)] [(8, 17)] σ t14 → t14.1 5 = nI n5 → i14_7 ≤ n11 → fX2_addPieces_0l48 (fX2_addPieces_0l3 fu1) fu (nI p4) (nI i1_5) (nI n11) (nI i14_7) t14 = R → n11 - i14_7 < fu → ∀ (H : Heap) (locs : List Loc) (ls : Array Slot), HW g t14 s H locs → lv_has ls 8 [(7, .int (nI i14_7)), (6, .int (nI n11)), (5, .int (nI i1_5)), (0, .ref (g.2.1 16)), (1, .ref (g.2.1 5)), (2, .ref (g.2.1 10)), (3, .int (nI p3)), (4, .int (nI p4))] → W p l e { frames := 2, cells := 0, slots := 0, locals := 47 } s m args below meth c H locs 0 0 (MQ below PQz args s 0 0 (Aw g)) (F0 m 48 ls []) := by
            intro fu14
            induction fu14 with
            | zero => intro t14 i14_7 hI_14 hF_14 e15 bi14_7 hR14 hm; exact absurd hm (Nat.not_lt_zero _)
            | succ fu14 ih =>
              have ih14 := ih
              clear ih
              intro t14 i14_7 hI_14 hF_14 e15 bi14_7 hR14 hm14 H locs ls h hl
              replace hR14 : fX2_addPieces_0b48 (fX2_addPieces_0l3 fu1) (fX2_addPieces_0l48 (fX2_addPieces_0l3 fu1) fu14) (nI p4) (nI i1_5) (nI n11) (nI i14_7) t14 = R := hR14
              refine lv_iload hx hb dX2_addPieces_48 (lv_at hl 0 rfl) ?_
              refine lv_iload hx hb dX2_addPieces_50 (lv_at hl 1 rfl) ?_
              refine lv_icmp_ge (tgt := 79) hx hb dX2_addPieces_52 (by decide) (fun c16 => ?_) (fun c16 => ?_)
              · skip
                replace hR14 := it_t hR14 c16
                have b17 : n11 ≤ i14_7 := y_le (a := n11) (b := i14_7) (by omega) (by omega) c16
                refine lv_aload_n hx hb dX2_addPieces_79 rfl (lv_at hl 3 rfl) ?_
                refine x_getR E h (fr_cu_first g) rfl hwX2 (by decide) (by decide +kernel) dX2_addPieces_80 ?_
                refine lv_aload_n hx hb dX2_addPieces_83 rfl (lv_at hl 3 rfl) ?_
                refine x_getI E h (fi_cu_pieces g) rfl hwX2 (by decide) (by decide +kernel) (v := nI n5) e15 dX2_addPieces_84 ?_
                replace hR14 := bd_to hR14 e15
                refine lv_iload hx hb dX2_addPieces_87 (lv_at hl 2 rfl) ?_
                refine y_stI E h hI_14 hF_14 (ia_cu_first g) (i := nI n5) (vp_in_nI (by omega) (by decide)) (j := n5) (nI_clamp (by omega)) (ba_none rfl) rfl dX2_addPieces_89 (fun s18 H locs q18 hI18 hF18 h => ?_)
                replace hR14 := st_to hR14 (nI_clamp (n := n5) (by omega)) q18
                have e19 : s18.1 5 = nI n5 := (congrArg (fun t : ST => t.1 5) q18).trans e15
                refine lv_aload_n hx hb dX2_addPieces_90 rfl (lv_at hl 3 rfl) ?_
                refine x_getR E h (fr_cu_size g) rfl hwX2 (by decide) (by decide +kernel) dX2_addPieces_91 ?_
                refine lv_aload_n hx hb dX2_addPieces_94 rfl (lv_at hl 3 rfl) ?_
                refine x_getI E h (fi_cu_pieces g) rfl hwX2 (by decide) (by decide +kernel) (v := nI n5) e19 dX2_addPieces_95 ?_
                replace hR14 := bd_to hR14 e19
                refine lv_iload hx hb dX2_addPieces_98 (lv_at hl 1 rfl) ?_
                refine lv_iload hx hb dX2_addPieces_100 (lv_at hl 2 rfl) ?_
                refine lv_isub hx hb dX2_addPieces_102 ?_
                replace hR14 := bd_to hR14 rfl
                refine y_stI E h hI18 hF18 (ia_cu_size g) (i := nI n5) (vp_in_nI (by omega) (by decide)) (j := n5) (nI_clamp (by omega)) (ba_none rfl) rfl dX2_addPieces_103 (fun s20 H locs q20 hI20 hF20 h => ?_)
                replace hR14 := st_to hR14 (nI_clamp (n := n5) (by omega)) q20
                have e21 : s20.1 5 = nI n5 := (congrArg (fun t : ST => t.1 5) q20).trans e19
                refine lv_aload_n hx hb dX2_addPieces_104 rfl (lv_at hl 3 rfl) ?_
                refine x_getR E h (fr_cu_spread g) rfl hwX2 (by decide) (by decide +kernel) dX2_addPieces_105 ?_
                refine lv_aload_n hx hb dX2_addPieces_108 rfl (lv_at hl 3 rfl) ?_
                refine x_getI E h (fi_cu_pieces g) rfl hwX2 (by decide) (by decide +kernel) (v := nI n5) e21 dX2_addPieces_109 ?_
                replace hR14 := bd_to hR14 e21
                refine lv_aload_n hx hb dX2_addPieces_112 rfl (lv_at hl 5 rfl) ?_
                obtain ⟨x22, e22⟩ : ∃ x, s20.1 4 = x := ⟨_, rfl⟩
                refine x_getIN E h (fi_ga_spread g) rfl hwX3 (by decide) (by decide +kernel) (v := x22) e22 dX2_addPieces_113 ?_
                replace hR14 := bd_to hR14 e22
                refine y_stI E h hI20 hF20 (ia_cu_spread g) (i := nI n5) (vp_in_nI (by omega) (by decide)) (j := n5) (nI_clamp (by omega)) (ba_none rfl) rfl dX2_addPieces_116 (fun s23 H locs q23 hI23 hF23 h => ?_)
                replace hR14 := st_to hR14 (nI_clamp (n := n5) (by omega)) q23
                have e24 : s23.1 5 = nI n5 := (congrArg (fun t : ST => t.1 5) q23).trans e21
                have e25 : s23.1 4 = x22 := (congrArg (fun t : ST => t.1 4) q23).trans e22
                refine lv_aload_n hx hb dX2_addPieces_117 rfl (lv_at hl 3 rfl) ?_
                refine x_getR E h (fr_cu_stretchOf g) rfl hwX2 (by decide) (by decide +kernel) dX2_addPieces_118 ?_
                refine lv_aload_n hx hb dX2_addPieces_121 rfl (lv_at hl 3 rfl) ?_
                refine x_getI E h (fi_cu_pieces g) rfl hwX2 (by decide) (by decide +kernel) (v := nI n5) e24 dX2_addPieces_122 ?_
                replace hR14 := bd_to hR14 e24
                refine lv_aload_n hx hb dX2_addPieces_125 rfl (lv_at hl 3 rfl) ?_
                obtain ⟨x26, e26⟩ : ∃ x, s23.1 6 = x := ⟨_, rfl⟩
                refine x_getI E h (fi_cu_stretches g) rfl hwX2 (by decide) (by decide +kernel) (v := x26) e26 dX2_addPieces_126 ?_
                replace hR14 := bd_to hR14 e26
                refine y_stI E h hI23 hF23 (ia_cu_stretchOf g) (i := nI n5) (vp_in_nI (by omega) (by decide)) (j := n5) (nI_clamp (by omega)) (ba_none rfl) rfl dX2_addPieces_129 (fun s27 H locs q27 hI27 hF27 h => ?_)
                replace hR14 := st_to hR14 (nI_clamp (n := n5) (by omega)) q27
                have e28 : s27.1 5 = nI n5 := (congrArg (fun t : ST => t.1 5) q27).trans e24
                have e29 : s27.1 4 = x22 := (congrArg (fun t : ST => t.1 4) q27).trans e25
                have e30 : s27.1 6 = x26 := (congrArg (fun t : ST => t.1 6) q27).trans e26
                refine lv_aload_n hx hb dX2_addPieces_130 rfl (lv_at hl 5 rfl) ?_
                refine lv_aload_n hx hb dX2_addPieces_131 rfl (lv_at hl 3 rfl) ?_
                refine x_getR E h (fr_cu_middles g) rfl hwX2 (by decide) (by decide +kernel) dX2_addPieces_132 ?_
                refine lv_aload_n hx hb dX2_addPieces_135 rfl (lv_at hl 3 rfl) ?_
                refine x_getI E h (fi_cu_pieces g) rfl hwX2 (by decide) (by decide +kernel) (v := nI n5) e28 dX2_addPieces_136 ?_
                replace hR14 := bd_to hR14 e28
                refine lv_iconst (v := 4) hx hb dX2_addPieces_139 (by decide) ?_
                refine lv_imul hx hb dX2_addPieces_140 ?_
                refine x_topI (v2 := nI (n5 * 4)) (pk_mul n5 4) ?_
                replace hR14 := bd_to hR14 (pk_mul n5 4)
                refine x_vv E h (na := 2) (As := [.ref (g.2.1 20), .int (nI (n5 * 4))]) (aX3_writeMiddle_0 l g s27 hI27 (nI (n5 * 4))) (oc_ga g) rfl gX2_addPieces_X3_writeMiddle rfl ⟨rfl, rfl⟩ rfl (by decide +kernel) ⟨Nat.le_of_ble_eq_true rfl, Nat.le_of_ble_eq_true rfl⟩ hl.1 rfl (Nat.le_of_ble_eq_true rfl) dX2_addPieces_141 ⟨Nat.le_of_ble_eq_true rfl, Nat.le_of_ble_eq_true rfl⟩ (fun s31 H locs q31 h => ?_)
                obtain ⟨x31, hI31, f31⟩ := q31
                replace hR14 := bd_to hR14 x31
                have hF31 := hF27.call f31 (I := [(3, 5)]) (J := [(8, 17)]) rfl rfl
                have e32 : s31.1 5 = nI n5 := ((f31.1 5 rfl)).trans e28
                have e33 : s31.1 4 = x22 := ((f31.1 4 rfl)).trans e29
                have e34 : s31.1 6 = x26 := ((f31.1 6 rfl)).trans e30
                refine lv_aload_n hx hb dX2_addPieces_144 rfl (lv_at hl 3 rfl) ?_
                refine lv_dup hx hb dX2_addPieces_145 rfl ?_
                refine x_getI E h (fi_cu_pieces g) rfl hwX2 (by decide) (by decide +kernel) (v := nI n5) e32 dX2_addPieces_146 ?_
                replace hR14 := bd_to hR14 e32
                refine lv_iconst (v := 1) hx hb dX2_addPieces_149 (by decide) ?_
                refine lv_iadd hx hb dX2_addPieces_150 ?_
                refine x_topI (v2 := nI (n5 + 1)) (nI_add n5 1) ?_
                replace hR14 := bd_to hR14 (nI_add n5 1)
                refine y_putI E h hI31 hF31 (ty := .int) (v := nI (n5 + 1)) (fi_cu_pieces g) rfl hwX2 tyX2_ok nmX2 (by decide) (by decide +kernel) (by decide +kernel) (by decide +kernel) rfl rfl (ba_some rfl (Bd.mk (n := (n5 + 1)) (by omega))) rfl dX2_addPieces_151 (fun s35 H locs q35 hI35 hF35 h => ?_)
                replace hR14 := bd_to hR14 q35.symm
                have e36 : s35.1 4 = x22 := (congrArg (fun t : ST => t.1 4) q35).trans e33
                have e37 : s35.1 6 = x26 := (congrArg (fun t : ST => t.1 6) q35).trans e34
                have e38 : s35.1 5 = nI (n5 + 1) := congrArg (fun t : ST => t.1 5) q35
                refine lv_iload hx hb dX2_addPieces_154 (lv_at hl 1 rfl) ?_
                refine lv_istore (lv' := [(5, .int (nI n11)), (7, .int (nI i14_7)), (6, .int (nI n11)), (0, .ref (g.2.1 16)), (1, .ref (g.2.1 5)), (2, .ref (g.2.1 10)), (3, .int (nI p3)), (4, .int (nI p4))]) hx hb dX2_addPieces_156 hl (by decide) rfl (fun ls hl => ?_)
                refine lv_goto (tgt := 3) hx hb dX2_addPieces_158 (by decide) ?_
                exact ih1 s35 n11 hI35 hF35 (by omega) hR14 (by omega) _ _ _ h (lv_sub hl [0, 3, 4, 5, 6, 7] rfl)
              · skip
                replace hR14 := it_f hR14 c16
                have b39 : i14_7 < n11 := y_nle (a := n11) (b := i14_7) (by omega) (by omega) c16
                refine lv_aload_n hx hb dX2_addPieces_55 rfl (lv_at hl 5 rfl) ?_
                refine lv_aload_n hx hb dX2_addPieces_56 rfl (lv_at hl 4 rfl) ?_
                refine lv_iload hx hb dX2_addPieces_57 (lv_at hl 0 rfl) ?_
                refine x_vv E h (na := 2) (As := [.ref (g.2.1 5), .int (nI i14_7)]) (aX3_take_0 l g t14 hI_14 (nI i14_7)) (oc_ga g) rfl gX2_addPieces_X3_take rfl ⟨rfl, rfl⟩ rfl (by decide +kernel) ⟨Nat.le_of_ble_eq_true rfl, Nat.le_of_ble_eq_true rfl⟩ hl.1 rfl (Nat.le_of_ble_eq_true rfl) dX2_addPieces_59 ⟨Nat.le_of_ble_eq_true rfl, Nat.le_of_ble_eq_true rfl⟩ (fun s40 H locs q40 h => ?_)
                obtain ⟨x40, hI40, f40⟩ := q40
                replace hR14 := bd_to hR14 x40
                have hF40 := hF_14.call f40 (I := [(3, 5)]) (J := [(8, 17)]) rfl rfl
                have e41 : s40.1 5 = nI n5 := ((f40.1 5 rfl)).trans e15
                refine lv_aload_n hx hb dX2_addPieces_62 rfl (lv_at hl 3 rfl) ?_
                refine x_getR E h (fr_cu_pieceOf g) rfl hwX2 (by decide) (by decide +kernel) dX2_addPieces_63 ?_
                refine lv_iload hx hb dX2_addPieces_66 (lv_at hl 0 rfl) ?_
                refine lv_aload_n hx hb dX2_addPieces_68 rfl (lv_at hl 3 rfl) ?_
                refine x_getI E h (fi_cu_pieces g) rfl hwX2 (by decide) (by decide +kernel) (v := nI n5) e41 dX2_addPieces_69 ?_
                replace hR14 := bd_to hR14 e41
                refine y_stI E h hI40 hF40 (ia_cu_pieceOf g) (i := nI i14_7) (vp_in_nI (by omega) (by decide)) (j := i14_7) (nI_clamp (by omega)) (ba_none rfl) rfl dX2_addPieces_72 (fun s42 H locs q42 hI42 hF42 h => ?_)
                replace hR14 := st_to hR14 (nI_clamp (n := i14_7) (by omega)) q42
                have e43 : s42.1 5 = nI n5 := (congrArg (fun t : ST => t.1 5) q42).trans e41
                replace hR14 := bd_to hR14 (nI_add i14_7 1)
                refine lv_iinc (v := (nI (i14_7 + 1))) (lv' := [(7, .int (nI (i14_7 + 1))), (6, .int (nI n11)), (5, .int (nI i1_5)), (0, .ref (g.2.1 16)), (1, .ref (g.2.1 5)), (2, .ref (g.2.1 10)), (3, .int (nI p3)), (4, .int (nI p4))]) hx hb dX2_addPieces_73 hl (k := 0) rfl (nI_add i14_7 1) (by decide) rfl (fun ls hl => ?_)
                refine lv_goto (tgt := 48) hx hb dX2_addPieces_76 (by decide) ?_
                exact ih14 s42 (i14_7 + 1) hI42 hF42 e43 (by omega) hR14 (by omega) _ _ _ h (lv_sub hl [0, 1, 2, 3, 4, 5, 6, 7] rfl)
          exact loop48_14 4096 s12 i1_5 hI12 hF12 e13 (by omega) hR1 (by omega) _ _ _ h (lv_sub hl [0, 1, 2, 3, 4, 5, 6, 7] rfl)
  exact loop3_1 4096 σ p3 hI hF (by omega) hR (by omega) _ _ _ h (lv_sub hl [0, 1, 2, 3, 4, 5] rfl)
set_option maxHeartbeats 4000000 in
set_option maxRecDepth 100000 in
theorem aX7_isHeard_0 (l : Launch) (g : CX) (σ : ST) (hI : INV σ) (p1 : Nat) (p2 : Int32) (hh0 : p1 < 48) : XM l g yX7_isHeard wsX7_isHeard { frames := 0, cells := 0, slots := 0, locals := 0 } [.ref (g.2.1 5), .int (nI p1), .int p2] σ (XQi g (fun r σ' => fX7_isHeard_0 (nI p1) p2 σ = r ∧ σ = σ')) := by
  refine x_met (own := RX7) (cc := cX7_isHeard) (maxL := 5) (ret := (some .boolean)) (lv := [(0, .ref (g.2.1 5)), (1, .int (nI p1)), (2, .int p2)]) (by decide) rfl rfl (Nat.le_of_ble_eq_true rfl) rfl ?_
  intro p e s m args below meth c ls E h hl
  have hx := E.1
  have hb := E.2.1
  have hown := E.2.2.2.1
  have hts := E.2.2.2.2.1
  obtain ⟨R, hR0⟩ : ∃ R, fX7_isHeard_0 (nI p1) p2 σ = R := ⟨_, rfl⟩
  have hR : fX7_isHeard_0b0 (nI p1) p2 σ = R := hR0
  have hwX7 : ∀ w ∈ wsX70, w ∈ wsX7_isHeard := by decide +kernel
  generalize hPQ : XQi g (fun r σ' => fX7_isHeard_0 (nI p1) p2 σ = r ∧ σ = σ') = PQz
  refine lv_aload_n hx hb dX7_isHeard_0 rfl (lv_at hl 0 rfl) ?_
  refine x_getR E h (fr_bk_isDeaf g) rfl hwX7 (by decide) (by decide +kernel) dX7_isHeard_1 ?_
  refine lv_iload_n hx hb dX7_isHeard_4 rfl (lv_at hl 1 rfl) ?_
  refine x_ldZ E h (ia_bk_isDeaf g) (i := nI p1) (vp_in_nI (by omega) (by decide)) (v := σ.2.2 4 p1) (congrArg (σ.2.2 4) (nI_clamp (n := p1) (by omega))) dX7_isHeard_5 ?_
  replace hR := bd_to hR (congrArg (σ.2.2 4) (nI_clamp (n := p1) (by omega)))
  refine lv_if_ne (tgt := 18) hx hb dX7_isHeard_6 (by decide) (fun c1 => ?_) (fun c1 => ?_)
  · skip
    replace hR := it_f hR c1
    refine lv_iconst (v := 0) hx hb dX7_isHeard_18 (by decide) ?_
    subst hPQ
    exact x_zret E h rfl ⟨hR0.trans hR.symm, rfl⟩ dX7_isHeard_19
  · skip
    replace hR := it_t hR c1
    refine lv_aload_n hx hb dX7_isHeard_9 rfl (lv_at hl 0 rfl) ?_
    refine x_getR E h (fr_bk_isOut g) rfl hwX7 (by decide) (by decide +kernel) dX7_isHeard_10 ?_
    refine lv_iload_n hx hb dX7_isHeard_13 rfl (lv_at hl 1 rfl) ?_
    refine x_ldZ E h (ia_bk_isOut g) (i := nI p1) (vp_in_nI (by omega) (by decide)) (v := σ.2.2 5 p1) (congrArg (σ.2.2 5) (nI_clamp (n := p1) (by omega))) dX7_isHeard_14 ?_
    replace hR := bd_to hR (congrArg (σ.2.2 5) (nI_clamp (n := p1) (by omega)))
    refine lv_if_eq (tgt := 20) hx hb dX7_isHeard_15 (by decide) (fun c4 => ?_) (fun c4 => ?_)
    · skip
      replace hR := it_t hR c4
      refine lv_iconst (v := 0) hx hb dX7_isHeard_20 (by decide) ?_
      refine lv_istore_n (lv' := [(3, .int 0), (0, .ref (g.2.1 5)), (1, .int (nI p1)), (2, .int p2)]) hx hb dX7_isHeard_21 rfl hl (by decide) rfl (fun ls hl => ?_)
      refine lv_iconst (v := 0) hx hb dX7_isHeard_22 (by decide) ?_
      refine lv_istore (lv' := [(4, .int 0), (3, .int 0), (0, .ref (g.2.1 5)), (1, .int (nI p1)), (2, .int p2)]) hx hb dX7_isHeard_23 hl (by decide) rfl (fun ls hl => ?_)
      have loop25_6 : ∀ (fu : Nat) (i6_4 : Nat) (i6_3 : Int32), i6_4 ≤ 4 → fX7_isHeard_0l25 fu (nI p1) p2 i6_3 (nI i6_4) σ = R → 4 - i6_4 < fu → ∀ (H : Heap) (locs : List Loc) (ls : Array Slot), HW g σ s H locs → lv_has ls 5 [(4, .int (nI i6_4)), (3, .int i6_3), (0, .ref (g.2.1 5)), (1, .int (nI p1)), (2, .int p2)] → W p l e { frames := 0, cells := 0, slots := 0, locals := 0 } s m args below meth c H locs 0 0 (MQ below PQz args s 0 0 (Aw g)) (F0 m 25 ls []) := by
        intro fu6
        induction fu6 with
        | zero => intro i6_4 i6_3 bi6_4 hR6 hm; exact absurd hm (Nat.not_lt_zero _)
        | succ fu6 ih =>
          have ih6 := ih
          clear ih
          intro i6_4 i6_3 bi6_4 hR6 hm6 H locs ls h hl
          replace hR6 : fX7_isHeard_0b25 (fX7_isHeard_0l25 fu6) (nI p1) p2 i6_3 (nI i6_4) σ = R := hR6
          refine lv_iload hx hb dX7_isHeard_25 (lv_at hl 0 rfl) ?_
          refine lv_iconst (v := 4) hx hb dX7_isHeard_27 (by decide) ?_
          refine lv_icmp_ge (tgt := 51) hx hb dX7_isHeard_28 (by decide) (fun c7 => ?_) (fun c7 => ?_)
          · skip
            replace hR6 := it_t hR6 c7
            have b8 : 4 ≤ i6_4 := y_le (a := 4) (b := i6_4) (by omega) (by omega) c7
            refine lv_iload_n hx hb dX7_isHeard_51 rfl (lv_at hl 1 rfl) ?_
            refine lv_iload_n hx hb dX7_isHeard_52 rfl (lv_at hl 4 rfl) ?_
            refine lv_icmp_lt (tgt := 60) hx hb dX7_isHeard_53 (by decide) (fun c9 => ?_) (fun c9 => ?_)
            · skip
              replace hR6 := it_t hR6 c9
              refine lv_iconst (v := 0) hx hb dX7_isHeard_60 (by decide) ?_
              replace hR6 : fX7_isHeard_0b61 0 σ = R := hR6
              subst hPQ
              exact x_zret E h rfl ⟨hR0.trans hR6.symm, rfl⟩ dX7_isHeard_61
            · skip
              replace hR6 := it_f hR6 c9
              refine lv_iconst (v := 1) hx hb dX7_isHeard_56 (by decide) ?_
              refine lv_goto (tgt := 61) hx hb dX7_isHeard_57 (by decide) ?_
              replace hR6 : fX7_isHeard_0b61 1 σ = R := hR6
              subst hPQ
              exact x_zret E h rfl ⟨hR0.trans hR6.symm, rfl⟩ dX7_isHeard_61
          · skip
            replace hR6 := it_f hR6 c7
            have b12 : i6_4 < 4 := y_nle (a := 4) (b := i6_4) (by omega) (by omega) c7
            refine lv_iload_n hx hb dX7_isHeard_31 rfl (lv_at hl 1 rfl) ?_
            refine lv_aload_n hx hb dX7_isHeard_32 rfl (lv_at hl 2 rfl) ?_
            refine x_getR E h (fr_bk_numbers g) rfl hwX7 (by decide) (by decide +kernel) dX7_isHeard_33 ?_
            refine lv_iload_n hx hb dX7_isHeard_36 rfl (lv_at hl 3 rfl) ?_
            refine lv_iconst (v := 4) hx hb dX7_isHeard_37 (by decide) ?_
            refine lv_imul hx hb dX7_isHeard_38 ?_
            refine x_topI (v2 := nI (p1 * 4)) (pk_mul p1 4) ?_
            replace hR6 := bd_to hR6 (pk_mul p1 4)
            refine lv_iload hx hb dX7_isHeard_39 (lv_at hl 0 rfl) ?_
            refine lv_iadd hx hb dX7_isHeard_41 ?_
            refine x_topI (v2 := nI ((p1 * 4) + i6_4)) (nI_add (p1 * 4) i6_4) ?_
            replace hR6 := bd_to hR6 (nI_add (p1 * 4) i6_4)
            refine x_ldI E h (ia_bk_numbers g) (i := nI ((p1 * 4) + i6_4)) (vp_in_nI (by omega) (by decide)) (v := σ.2.2 3 ((p1 * 4) + i6_4)) (congrArg (σ.2.2 3) (nI_clamp (n := (p1 * 4) + i6_4) (by omega))) dX7_isHeard_42 ?_
            replace hR6 := bd_to hR6 (congrArg (σ.2.2 3) (nI_clamp (n := (p1 * 4) + i6_4) (by omega)))
            refine lv_iadd hx hb dX7_isHeard_43 ?_
            refine lv_topi (fun x13 e13 => ?_)
            replace hR6 := bd_to hR6 e13.symm
            refine lv_istore_n (lv' := [(3, .int x13), (4, .int (nI i6_4)), (0, .ref (g.2.1 5)), (1, .int (nI p1)), (2, .int p2)]) hx hb dX7_isHeard_44 rfl hl (by decide) rfl (fun ls hl => ?_)
            replace hR6 := bd_to hR6 (nI_add i6_4 1)
            refine lv_iinc (v := (nI (i6_4 + 1))) (lv' := [(4, .int (nI (i6_4 + 1))), (3, .int x13), (0, .ref (g.2.1 5)), (1, .int (nI p1)), (2, .int p2)]) hx hb dX7_isHeard_45 hl (k := 1) rfl (nI_add i6_4 1) (by decide) rfl (fun ls hl => ?_)
            refine lv_goto (tgt := 25) hx hb dX7_isHeard_48 (by decide) ?_
            exact ih6 (i6_4 + 1) x13 (by omega) hR6 (by omega) _ _ _ h (lv_sub hl [0, 1, 2, 3, 4] rfl)
      exact loop25_6 4096 0 0 (Nat.zero_le _) hR (by omega) _ _ _ h (lv_sub hl [0, 1, 2, 3, 4] rfl)
    · skip
      replace hR := it_f hR c4
      refine lv_iconst (v := 0) hx hb dX7_isHeard_18 (by decide) ?_
      subst hPQ
      exact x_zret E h rfl ⟨hR0.trans hR.symm, rfl⟩ dX7_isHeard_19
