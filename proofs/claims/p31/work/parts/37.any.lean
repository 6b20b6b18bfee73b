set_option maxHeartbeats 4000000 in
set_option maxRecDepth 100000 in
theorem aX6_brief_0 (l : Launch) (g : CX) (σ : ST) (hI : INV σ) (p2 : Nat) (hh0 : p2 < 48) : XM l g yX6_brief wsX6_brief { frames := 3, cells := 0, slots := 0, locals := 66 } [.ref (g.2.1 77), .ref (g.2.1 16), .int (nI p2)] σ (XQi g (fun r σ' => fX6_brief_0 (nI p2) σ = (r, σ') ∧ INV σ' ∧ Fr [] [] σ σ')) := by
  refine x_met (own := RX6) (cc := cX6_brief) (maxL := 3) (ret := (some .int)) (lv := [(0, .ref (g.2.1 77)), (1, .ref (g.2.1 16)), (2, .int (nI p2))]) (by decide) rfl rfl (Nat.le_of_ble_eq_true rfl) rfl ?_
  intro p e s m args below meth c ls E h hl
  have hx := E.1
  have hb := E.2.1
  have hown := E.2.2.2.1
  have hts := E.2.2.2.2.1
  have hF : Fr [] [] σ σ := Fr.refl σ
  obtain ⟨R, hR0⟩ : ∃ R, fX6_brief_0 (nI p2) σ = R := ⟨_, rfl⟩
  have hR : fX6_brief_0b0 (nI p2) σ = R := hR0
  have hwX6 : ∀ w ∈ wsX60, w ∈ wsX6_brief := by decide +kernel
  generalize hPQ : XQi g (fun r σ' => fX6_brief_0 (nI p2) σ = (r, σ') ∧ INV σ' ∧ Fr [] [] σ σ') = PQz
  refine lv_aload_n hx hb dX6_brief_0 rfl (lv_at hl 0 rfl) ?_
  refine lv_dup hx hb dX6_brief_1 rfl ?_
  refine x_getL E h (fl_ki_asked g) rfl hwX6 (by decide) (by decide +kernel) rfl dX6_brief_2 ?_
  replace hR := bd_to hR rfl
  refine lv_ldc2 (v := 10000) hx hb hown (hts (.constantLong RX6 58 (10000)) (by decide +kernel)) dX6_brief_5 ?_
  refine lv_ladd hx hb dX6_brief_8 ?_
  refine lv_topl (fun y1 e1 => ?_)
  replace hR := bd_to hR e1.symm
  refine y_putL E h hI hF (ty := .long) (v := y1) (fl_ki_asked g) rfl hwX6 tyX6_ok nmX6 (by decide) (by decide +kernel) (by decide +kernel) (by decide +kernel) rfl rfl dX6_brief_9 (fun s2 H locs q2 hI2 hF2 h => ?_)
  replace hR := bd_to hR q2.symm
  refine lv_iconst (v := 0) hx hb dX6_brief_12 (by decide) ?_
  refine lv_aload_n hx hb dX6_brief_13 rfl (lv_at hl 0 rfl) ?_
  refine lv_aload_n hx hb dX6_brief_14 rfl (lv_at hl 1 rfl) ?_
  refine lv_iload_n hx hb dX6_brief_15 rfl (lv_at hl 2 rfl) ?_
  refine x_vi E h (na := 2) (As := [.ref (g.2.1 16), .int (nI p2)]) (aX6_talk_0 l g s2 hI2 p2 (by omega)) (oc_ki g) rfl gX6_brief_X6_talk rfl ⟨rfl, rfl⟩ rfl (by decide +kernel) ⟨Nat.le_of_ble_eq_true rfl, Nat.le_of_ble_eq_true rfl⟩ hl.1 rfl (Nat.le_of_ble_eq_true rfl) dX6_brief_16 ⟨Nat.le_of_ble_eq_true rfl, Nat.le_of_ble_eq_true rfl⟩ (fun r3 s3 H locs q3 h => ?_)
  obtain ⟨x3, hI3, f3⟩ := q3
  replace hR := bp_to hR x3
  have hF3 := hF2.call f3 (I := []) (J := []) rfl rfl
  refine lv_iconst (v := 3) hx hb dX6_brief_19 (by decide) ?_
  refine lv_isub hx hb dX6_brief_20 ?_
  refine lv_topi (fun x4 e4 => ?_)
  replace hR := bd_to hR e4.symm
  refine x_max E hl.1 (by decide +kernel) (by decide +kernel) (by decide +kernel) (by decide +kernel) ⟨Nat.le_of_ble_eq_true rfl, Nat.le_of_ble_eq_true rfl⟩ ⟨Nat.zero_le _, Nat.zero_le _⟩ dX6_brief_21 ?_
  refine lv_topi (fun x5 e5 => ?_)
  replace hR := bd_to hR e5.symm
  subst hPQ
  exact x_iret E h ⟨hR0.trans hR.symm, hI3, hF3⟩ dX6_brief_24
set_option maxHeartbeats 4000000 in
set_option maxRecDepth 100000 in
theorem aX6_far_0 (l : Launch) (g : CX) (σ : ST) (hI : INV σ) (p2 : Nat) (hh0 : p2 < 48) : XM l g yX6_far wsX6_far { frames := 2, cells := 0, slots := 0, locals := 44 } [.ref (g.2.1 77), .ref (g.2.1 16), .int (nI p2)] σ (XQi g (fun r σ' => fX6_far_0 (nI p2) σ = (r, σ') ∧ INV σ' ∧ Fr [] [] σ σ')) := by
  refine x_met (own := RX6) (cc := cX6_far) (maxL := 3) (ret := (some .int)) (lv := [(0, .ref (g.2.1 77)), (1, .ref (g.2.1 16)), (2, .int (nI p2))]) (by decide) rfl rfl (Nat.le_of_ble_eq_true rfl) rfl ?_
  intro p e s m args below meth c ls E h hl
  have hx := E.1
  have hb := E.2.1
  have hown := E.2.2.2.1
  have hts := E.2.2.2.2.1
  have hF : Fr [] [] σ σ := Fr.refl σ
  obtain ⟨R, hR0⟩ : ∃ R, fX6_far_0 (nI p2) σ = R := ⟨_, rfl⟩
  have hR : fX6_far_0b0 (nI p2) σ = R := hR0
  have hwX6 : ∀ w ∈ wsX60, w ∈ wsX6_far := by decide +kernel
  generalize hPQ : XQi g (fun r σ' => fX6_far_0 (nI p2) σ = (r, σ') ∧ INV σ' ∧ Fr [] [] σ σ') = PQz
  refine lv_aload_n hx hb dX6_far_0 rfl (lv_at hl 0 rfl) ?_
  refine lv_dup hx hb dX6_far_1 rfl ?_
  refine x_getL E h (fl_ki_asked g) rfl hwX6 (by decide) (by decide +kernel) rfl dX6_far_2 ?_
  replace hR := bd_to hR rfl
  refine lv_ldc2 (v := 100000) hx hb hown (hts (.constantLong RX6 65 (100000)) (by decide +kernel)) dX6_far_5 ?_
  refine lv_ladd hx hb dX6_far_8 ?_
  refine lv_topl (fun y1 e1 => ?_)
  replace hR := bd_to hR e1.symm
  refine y_putL E h hI hF (ty := .long) (v := y1) (fl_ki_asked g) rfl hwX6 tyX6_ok nmX6 (by decide) (by decide +kernel) (by decide +kernel) (by decide +kernel) rfl rfl dX6_far_9 (fun s2 H locs q2 hI2 hF2 h => ?_)
  replace hR := bd_to hR q2.symm
  refine lv_aload_n hx hb dX6_far_12 rfl (lv_at hl 0 rfl) ?_
  refine lv_aload_n hx hb dX6_far_13 rfl (lv_at hl 1 rfl) ?_
  refine lv_iload_n hx hb dX6_far_14 rfl (lv_at hl 2 rfl) ?_
  refine x_vi E h (na := 2) (As := [.ref (g.2.1 16), .int (nI p2)]) (aX6_voice_0 l g s2 hI2 p2 (by omega)) (oc_ki g) rfl gX6_far_X6_voice rfl ⟨rfl, rfl⟩ rfl (by decide +kernel) ⟨Nat.le_of_ble_eq_true rfl, Nat.le_of_ble_eq_true rfl⟩ hl.1 rfl (Nat.le_of_ble_eq_true rfl) dX6_far_15 ⟨Nat.le_of_ble_eq_true rfl, Nat.le_of_ble_eq_true rfl⟩ (fun r3 s3 H locs q3 h => ?_)
  obtain ⟨x3, hI3, f3⟩ := q3
  replace hR := bp_to hR x3
  have hF3 := hF2.call f3 (I := []) (J := []) rfl rfl
  refine lv_iconst (v := 3) hx hb dX6_far_18 (by decide) ?_
  refine lv_idiv hx hb dX6_far_19 (by decide) ?_
  refine lv_topi (fun x4 e4 => ?_)
  replace hR := bd_to hR e4.symm
  subst hPQ
  exact x_iret E h ⟨hR0.trans hR.symm, hI3, hF3⟩ dX6_far_20
set_option maxHeartbeats 4000000 in
set_option maxRecDepth 100000 in
theorem aX6_known_0 (l : Launch) (g : CX) (σ : ST) (hI : INV σ) (p2 : Nat) (p3 : Int32) (hh0 : p2 < 48) : XM l g yX6_known wsX6_known { frames := 2, cells := 0, slots := 0, locals := 44 } [.ref (g.2.1 77), .ref (g.2.1 16), .int (nI p2), .int p3] σ (XQi g (fun r σ' => fX6_known_0 (nI p2) p3 σ = (r, σ') ∧ INV σ' ∧ Fr [] [] σ σ')) := by
  refine x_met (own := RX6) (cc := cX6_known) (maxL := 4) (ret := (some .int)) (lv := [(0, .ref (g.2.1 77)), (1, .ref (g.2.1 16)), (2, .int (nI p2)), (3, .int p3)]) (by decide) rfl rfl (Nat.le_of_ble_eq_true rfl) rfl ?_
  intro p e s m args below meth c ls E h hl
  have hx := E.1
  have hb := E.2.1
  have hown := E.2.2.2.1
  have hts := E.2.2.2.2.1
  have hF : Fr [] [] σ σ := Fr.refl σ
  obtain ⟨R, hR0⟩ : ∃ R, fX6_known_0 (nI p2) p3 σ = R := ⟨_, rfl⟩
  have hR : fX6_known_0b0 (nI p2) p3 σ = R := hR0
  have hwX6 : ∀ w ∈ wsX60, w ∈ wsX6_known := by decide +kernel
  generalize hPQ : XQi g (fun r σ' => fX6_known_0 (nI p2) p3 σ = (r, σ') ∧ INV σ' ∧ Fr [] [] σ σ') = PQz
  refine lv_aload_n hx hb dX6_known_0 rfl (lv_at hl 0 rfl) ?_
  refine lv_dup hx hb dX6_known_1 rfl ?_
  refine x_getL E h (fl_ki_asked g) rfl hwX6 (by decide) (by decide +kernel) rfl dX6_known_2 ?_
  replace hR := bd_to hR rfl
  refine lv_ldc2 (v := 1000000) hx hb hown (hts (.constantLong RX6 67 (1000000)) (by decide +kernel)) dX6_known_5 ?_
  refine lv_ladd hx hb dX6_known_8 ?_
  refine lv_topl (fun y1 e1 => ?_)
  replace hR := bd_to hR e1.symm
  refine y_putL E h hI hF (ty := .long) (v := y1) (fl_ki_asked g) rfl hwX6 tyX6_ok nmX6 (by decide) (by decide +kernel) (by decide +kernel) (by decide +kernel) rfl rfl dX6_known_9 (fun s2 H locs q2 hI2 hF2 h => ?_)
  replace hR := bd_to hR q2.symm
  refine lv_aload_n hx hb dX6_known_12 rfl (lv_at hl 0 rfl) ?_
  refine lv_aload_n hx hb dX6_known_13 rfl (lv_at hl 1 rfl) ?_
  refine lv_iload_n hx hb dX6_known_14 rfl (lv_at hl 2 rfl) ?_
  refine x_vi E h (na := 2) (As := [.ref (g.2.1 16), .int (nI p2)]) (aX6_voice_0 l g s2 hI2 p2 (by omega)) (oc_ki g) rfl gX6_known_X6_voice rfl ⟨rfl, rfl⟩ rfl (by decide +kernel) ⟨Nat.le_of_ble_eq_true rfl, Nat.le_of_ble_eq_true rfl⟩ hl.1 rfl (Nat.le_of_ble_eq_true rfl) dX6_known_15 ⟨Nat.le_of_ble_eq_true rfl, Nat.le_of_ble_eq_true rfl⟩ (fun r3 s3 H locs q3 h => ?_)
  obtain ⟨x3, hI3, f3⟩ := q3
  replace hR := bp_to hR x3
  have hF3 := hF2.call f3 (I := []) (J := []) rfl rfl
  refine lv_bipush (v := 7) hx hb dX6_known_18 (by decide) ?_
  refine lv_iload_n hx hb dX6_known_20 rfl (lv_at hl 3 rfl) ?_
  refine lv_imul hx hb dX6_known_21 ?_
  refine lv_topi (fun x4 e4 => ?_)
  replace hR := bd_to hR e4.symm
  refine lv_iadd hx hb dX6_known_22 ?_
  refine lv_topi (fun x5 e5 => ?_)
  replace hR := bd_to hR e5.symm
  subst hPQ
  exact x_iret E h ⟨hR0.trans hR.symm, hI3, hF3⟩ dX6_known_23
set_option maxHeartbeats 4000000 in
set_option maxRecDepth 100000 in
theorem aX6_noise_0 (l : Launch) (g : CX) (σ : ST) (hI : INV σ) (p2 : Nat) (hh0 : p2 < 48) : XM l g yX6_noise wsX6_noise { frames := 1, cells := 0, slots := 0, locals := 22 } [.ref (g.2.1 77), .ref (g.2.1 16), .int (nI p2)] σ (XQi g (fun r σ' => fX6_noise_0 (nI p2) σ = (r, σ') ∧ INV σ' ∧ Fr [] [] σ σ')) := by
  refine x_met (own := RX6) (cc := cX6_noise) (maxL := 4) (ret := (some .int)) (lv := [(0, .ref (g.2.1 77)), (1, .ref (g.2.1 16)), (2, .int (nI p2))]) (by decide) rfl rfl (Nat.le_of_ble_eq_true rfl) rfl ?_
  intro p e s m args below meth c ls E h hl
  have hx := E.1
  have hb := E.2.1
  have hown := E.2.2.2.1
  have hts := E.2.2.2.2.1
  have hF : Fr [] [] σ σ := Fr.refl σ
  obtain ⟨R, hR0⟩ : ∃ R, fX6_noise_0 (nI p2) σ = R := ⟨_, rfl⟩
  have hR : fX6_noise_0b0 (nI p2) σ = R := hR0
  have hwX6 : ∀ w ∈ wsX60, w ∈ wsX6_noise := by decide +kernel
  generalize hPQ : XQi g (fun r σ' => fX6_noise_0 (nI p2) σ = (r, σ') ∧ INV σ' ∧ Fr [] [] σ σ') = PQz
  refine lv_aload_n hx hb dX6_noise_0 rfl (lv_at hl 0 rfl) ?_
  refine lv_dup hx hb dX6_noise_1 rfl ?_
  refine x_getL E h (fl_ki_asked g) rfl hwX6 (by decide) (by decide +kernel) rfl dX6_noise_2 ?_
  replace hR := bd_to hR rfl
  refine lv_ldc2 (v := 10000000) hx hb hown (hts (.constantLong RX6 69 (10000000)) (by decide +kernel)) dX6_noise_5 ?_
  refine lv_ladd hx hb dX6_noise_8 ?_
  refine lv_topl (fun y1 e1 => ?_)
  replace hR := bd_to hR e1.symm
  refine y_putL E h hI hF (ty := .long) (v := y1) (fl_ki_asked g) rfl hwX6 tyX6_ok nmX6 (by decide) (by decide +kernel) (by decide +kernel) (by decide +kernel) rfl rfl dX6_noise_9 (fun s2 H locs q2 hI2 hF2 h => ?_)
  replace hR := bd_to hR q2.symm
  refine lv_aload_n hx hb dX6_noise_12 rfl (lv_at hl 0 rfl) ?_
  refine lv_aload_n hx hb dX6_noise_13 rfl (lv_at hl 1 rfl) ?_
  refine lv_iload_n hx hb dX6_noise_14 rfl (lv_at hl 2 rfl) ?_
  refine x_vi E h (na := 2) (As := [.ref (g.2.1 16), .int (nI p2)]) (aX6_span_0 l g s2 hI2 p2 (by omega)) (oc_ki g) rfl gX6_noise_X6_span rfl ⟨rfl, rfl⟩ rfl (by decide +kernel) ⟨Nat.le_of_ble_eq_true rfl, Nat.le_of_ble_eq_true rfl⟩ hl.1 rfl (Nat.le_of_ble_eq_true rfl) dX6_noise_15 ⟨Nat.le_of_ble_eq_true rfl, Nat.le_of_ble_eq_true rfl⟩ (fun r3 s3 H locs q3 h => ?_)
  obtain ⟨x3, hI3, f3⟩ := q3
  replace hR := bp_to hR x3
  have hF3 := hF2.call f3 (I := []) (J := []) rfl rfl
  refine lv_istore_n (lv' := [(3, .int r3), (0, .ref (g.2.1 77)), (1, .ref (g.2.1 16)), (2, .int (nI p2))]) hx hb dX6_noise_18 rfl hl (by decide) rfl (fun ls hl => ?_)
  refine lv_iload_n hx hb dX6_noise_19 rfl (lv_at hl 0 rfl) ?_
  refine lv_iload_n hx hb dX6_noise_20 rfl (lv_at hl 0 rfl) ?_
  refine lv_imul hx hb dX6_noise_21 ?_
  refine lv_topi (fun x4 e4 => ?_)
  replace hR := bd_to hR e4.symm
  refine lv_bipush (v := 89) hx hb dX6_noise_22 (by decide) ?_
  refine lv_irem hx hb dX6_noise_24 (by decide) ?_
  refine lv_topi (fun x5 e5 => ?_)
  replace hR := bd_to hR e5.symm
  subst hPQ
  exact x_iret E h ⟨hR0.trans hR.symm, hI3, hF3⟩ dX6_noise_25
set_option maxHeartbeats 4000000 in
set_option maxRecDepth 100000 in
theorem aX6_weigh_0 (l : Launch) (g : CX) (σ : ST) (hI : INV σ) (p1 : Int32) (p3 : Nat) (p4 : Int32) (hh0 : p3 < 48) : XM l g yX6_weigh wsX6_weigh { frames := 4, cells := 0, slots := 0, locals := 88 } [.ref (g.2.1 77), .int p1, .ref (g.2.1 16), .int (nI p3), .int p4] σ (XQi g (fun r σ' => fX6_weigh_0 p1 (nI p3) p4 σ = (r, σ') ∧ INV σ' ∧ Fr [] [] σ σ')) := by
  refine x_met (own := RX6) (cc := cX6_weigh) (maxL := 5) (ret := (some .int)) (lv := [(0, .ref (g.2.1 77)), (1, .int p1), (2, .ref (g.2.1 16)), (3, .int (nI p3)), (4, .int p4)]) (by decide) rfl rfl (Nat.le_of_ble_eq_true rfl) rfl ?_
  intro p e s m args below meth c ls E h hl
  have hx := E.1
  have hb := E.2.1
  have hown := E.2.2.2.1
  have hts := E.2.2.2.2.1
  have hF : Fr [] [] σ σ := Fr.refl σ
  obtain ⟨R, hR0⟩ : ∃ R, fX6_weigh_0 p1 (nI p3) p4 σ = R := ⟨_, rfl⟩
  have hR : fX6_weigh_0b0 p1 (nI p3) p4 σ = R := hR0
  generalize hPQ : XQi g (fun r σ' => fX6_weigh_0 p1 (nI p3) p4 σ = (r, σ') ∧ INV σ' ∧ Fr [] [] σ σ') = PQz
  refine lv_iload_n hx hb dX6_weigh_0 rfl (lv_at hl 1 rfl) ?_
  by_cases c_1_0 : p1 = 0
  · refine x_topI (v2 := 0) c_1_0 ?_
    replace hR := it_t hR c_1_0
    refine lv_tableIn (tgt := 44) (off := 43) hx hb dX6_weigh_1 (by decide) (by decide) (by decide) (by decide) ?_
    refine lv_aload_n hx hb dX6_weigh_44 rfl (lv_at hl 0 rfl) ?_
    refine lv_aload_n hx hb dX6_weigh_45 rfl (lv_at hl 2 rfl) ?_
    refine lv_iload_n hx hb dX6_weigh_46 rfl (lv_at hl 3 rfl) ?_
    refine x_vi E h (na := 2) (As := [.ref (g.2.1 16), .int (nI p3)]) (aX6_span_0 l g σ hI p3 (by omega)) (oc_ki g) rfl gX6_weigh_X6_span rfl ⟨rfl, rfl⟩ rfl (by decide +kernel) ⟨Nat.le_of_ble_eq_true rfl, Nat.le_of_ble_eq_true rfl⟩ hl.1 rfl (Nat.le_of_ble_eq_true rfl) dX6_weigh_47 ⟨Nat.le_of_ble_eq_true rfl, Nat.le_of_ble_eq_true rfl⟩ (fun r1 s1 H locs q1 h => ?_)
    obtain ⟨x1, hI1, f1⟩ := q1
    replace hR := bp_to hR x1
    have hF1 := hF.call f1 (I := []) (J := []) rfl rfl
    subst hPQ
    exact x_iret E h ⟨hR0.trans hR.symm, hI1, hF1⟩ dX6_weigh_50
  replace hR := it_f hR c_1_0
  by_cases c_1_1 : p1 = 1
  · refine x_topI (v2 := 1) c_1_1 ?_
    replace hR := it_t hR c_1_1
    refine lv_tableIn (tgt := 51) (off := 50) hx hb dX6_weigh_1 (by decide) (by decide) (by decide) (by decide) ?_
    refine lv_aload_n hx hb dX6_weigh_51 rfl (lv_at hl 0 rfl) ?_
    refine lv_aload_n hx hb dX6_weigh_52 rfl (lv_at hl 2 rfl) ?_
    refine lv_iload_n hx hb dX6_weigh_53 rfl (lv_at hl 3 rfl) ?_
    refine x_vi E h (na := 2) (As := [.ref (g.2.1 16), .int (nI p3)]) (aX6_voice_0 l g σ hI p3 (by omega)) (oc_ki g) rfl gX6_weigh_X6_voice rfl ⟨rfl, rfl⟩ rfl (by decide +kernel) ⟨Nat.le_of_ble_eq_true rfl, Nat.le_of_ble_eq_true rfl⟩ hl.1 rfl (Nat.le_of_ble_eq_true rfl) dX6_weigh_54 ⟨Nat.le_of_ble_eq_true rfl, Nat.le_of_ble_eq_true rfl⟩ (fun r2 s2 H locs q2 h => ?_)
    obtain ⟨x2, hI2, f2⟩ := q2
    replace hR := bp_to hR x2
    have hF2 := hF.call f2 (I := []) (J := []) rfl rfl
    subst hPQ
    exact x_iret E h ⟨hR0.trans hR.symm, hI2, hF2⟩ dX6_weigh_57
  replace hR := it_f hR c_1_1
  by_cases c_1_2 : p1 = 2
  · refine x_topI (v2 := 2) c_1_2 ?_
    replace hR := it_t hR c_1_2
    refine lv_tableIn (tgt := 58) (off := 57) hx hb dX6_weigh_1 (by decide) (by decide) (by decide) (by decide) ?_
    refine lv_aload_n hx hb dX6_weigh_58 rfl (lv_at hl 0 rfl) ?_
    refine lv_aload_n hx hb dX6_weigh_59 rfl (lv_at hl 2 rfl) ?_
    refine lv_iload_n hx hb dX6_weigh_60 rfl (lv_at hl 3 rfl) ?_
    refine x_vi E h (na := 2) (As := [.ref (g.2.1 16), .int (nI p3)]) (aX6_talk_0 l g σ hI p3 (by omega)) (oc_ki g) rfl gX6_weigh_X6_talk rfl ⟨rfl, rfl⟩ rfl (by decide +kernel) ⟨Nat.le_of_ble_eq_true rfl, Nat.le_of_ble_eq_true rfl⟩ hl.1 rfl (Nat.le_of_ble_eq_true rfl) dX6_weigh_61 ⟨Nat.le_of_ble_eq_true rfl, Nat.le_of_ble_eq_true rfl⟩ (fun r3 s3 H locs q3 h => ?_)
    obtain ⟨x3, hI3, f3⟩ := q3
    replace hR := bp_to hR x3
    have hF3 := hF.call f3 (I := []) (J := []) rfl rfl
    subst hPQ
    exact x_iret E h ⟨hR0.trans hR.symm, hI3, hF3⟩ dX6_weigh_64
  replace hR := it_f hR c_1_2
  by_cases c_1_3 : p1 = 3
  · refine x_topI (v2 := 3) c_1_3 ?_
    replace hR := it_t hR c_1_3
    refine lv_tableIn (tgt := 65) (off := 64) hx hb dX6_weigh_1 (by decide) (by decide) (by decide) (by decide) ?_
    refine lv_aload_n hx hb dX6_weigh_65 rfl (lv_at hl 0 rfl) ?_
    refine lv_aload_n hx hb dX6_weigh_66 rfl (lv_at hl 2 rfl) ?_
    refine lv_iload_n hx hb dX6_weigh_67 rfl (lv_at hl 3 rfl) ?_
    refine x_vi E h (na := 2) (As := [.ref (g.2.1 16), .int (nI p3)]) (aX6_two_0 l g σ hI p3 (by omega)) (oc_ki g) rfl gX6_weigh_X6_two rfl ⟨rfl, rfl⟩ rfl (by decide +kernel) ⟨Nat.le_of_ble_eq_true rfl, Nat.le_of_ble_eq_true rfl⟩ hl.1 rfl (Nat.le_of_ble_eq_true rfl) dX6_weigh_68 ⟨Nat.le_of_ble_eq_true rfl, Nat.le_of_ble_eq_true rfl⟩ (fun r4 s4 H locs q4 h => ?_)
    obtain ⟨x4, hI4, f4⟩ := q4
    replace hR := bp_to hR x4
    have hF4 := hF.call f4 (I := []) (J := []) rfl rfl
    subst hPQ
    exact x_iret E h ⟨hR0.trans hR.symm, hI4, hF4⟩ dX6_weigh_71
  replace hR := it_f hR c_1_3
  by_cases c_1_4 : p1 = 4
  · refine x_topI (v2 := 4) c_1_4 ?_
    replace hR := it_t hR c_1_4
    refine lv_tableIn (tgt := 72) (off := 71) hx hb dX6_weigh_1 (by decide) (by decide) (by decide) (by decide) ?_
    refine lv_aload_n hx hb dX6_weigh_72 rfl (lv_at hl 0 rfl) ?_
    refine lv_aload_n hx hb dX6_weigh_73 rfl (lv_at hl 2 rfl) ?_
    refine lv_iload_n hx hb dX6_weigh_74 rfl (lv_at hl 3 rfl) ?_
    refine x_vi E h (na := 2) (As := [.ref (g.2.1 16), .int (nI p3)]) (aX6_brief_0 l g σ hI p3 (by omega)) (oc_ki g) rfl gX6_weigh_X6_brief rfl ⟨rfl, rfl⟩ rfl (by decide +kernel) ⟨Nat.le_of_ble_eq_true rfl, Nat.le_of_ble_eq_true rfl⟩ hl.1 rfl (Nat.le_of_ble_eq_true rfl) dX6_weigh_75 ⟨Nat.le_of_ble_eq_true rfl, Nat.le_of_ble_eq_true rfl⟩ (fun r5 s5 H locs q5 h => ?_)
    obtain ⟨x5, hI5, f5⟩ := q5
    replace hR := bp_to hR x5
    have hF5 := hF.call f5 (I := []) (J := []) rfl rfl
    subst hPQ
    exact x_iret E h ⟨hR0.trans hR.symm, hI5, hF5⟩ dX6_weigh_78
  replace hR := it_f hR c_1_4
  by_cases c_1_5 : p1 = 5
  · refine x_topI (v2 := 5) c_1_5 ?_
    replace hR := it_t hR c_1_5
    refine lv_tableIn (tgt := 79) (off := 78) hx hb dX6_weigh_1 (by decide) (by decide) (by decide) (by decide) ?_
    refine lv_aload_n hx hb dX6_weigh_79 rfl (lv_at hl 0 rfl) ?_
    refine lv_aload_n hx hb dX6_weigh_80 rfl (lv_at hl 2 rfl) ?_
    refine lv_iload_n hx hb dX6_weigh_81 rfl (lv_at hl 3 rfl) ?_
    refine x_vi E h (na := 2) (As := [.ref (g.2.1 16), .int (nI p3)]) (aX6_far_0 l g σ hI p3 (by omega)) (oc_ki g) rfl gX6_weigh_X6_far rfl ⟨rfl, rfl⟩ rfl (by decide +kernel) ⟨Nat.le_of_ble_eq_true rfl, Nat.le_of_ble_eq_true rfl⟩ hl.1 rfl (Nat.le_of_ble_eq_true rfl) dX6_weigh_82 ⟨Nat.le_of_ble_eq_true rfl, Nat.le_of_ble_eq_true rfl⟩ (fun r6 s6 H locs q6 h => ?_)
    obtain ⟨x6, hI6, f6⟩ := q6
    replace hR := bp_to hR x6
    have hF6 := hF.call f6 (I := []) (J := []) rfl rfl
    subst hPQ
    exact x_iret E h ⟨hR0.trans hR.symm, hI6, hF6⟩ dX6_weigh_85
  replace hR := it_f hR c_1_5
  by_cases c_1_6 : p1 = 6
  · refine x_topI (v2 := 6) c_1_6 ?_
    replace hR := it_t hR c_1_6
    refine lv_tableIn (tgt := 86) (off := 85) hx hb dX6_weigh_1 (by decide) (by decide) (by decide) (by decide) ?_
    refine lv_aload_n hx hb dX6_weigh_86 rfl (lv_at hl 0 rfl) ?_
    refine lv_aload_n hx hb dX6_weigh_87 rfl (lv_at hl 2 rfl) ?_
    refine lv_iload_n hx hb dX6_weigh_88 rfl (lv_at hl 3 rfl) ?_
    refine lv_iload hx hb dX6_weigh_89 (lv_at hl 4 rfl) ?_
    refine x_vi E h (na := 3) (As := [.ref (g.2.1 16), .int (nI p3), .int p4]) (aX6_known_0 l g σ hI p3 p4 (by omega)) (oc_ki g) rfl gX6_weigh_X6_known rfl ⟨rfl, rfl⟩ rfl (by decide +kernel) ⟨Nat.le_of_ble_eq_true rfl, Nat.le_of_ble_eq_true rfl⟩ hl.1 rfl (Nat.le_of_ble_eq_true rfl) dX6_weigh_91 ⟨Nat.le_of_ble_eq_true rfl, Nat.le_of_ble_eq_true rfl⟩ (fun r7 s7 H locs q7 h => ?_)
    obtain ⟨x7, hI7, f7⟩ := q7
    replace hR := bp_to hR x7
    have hF7 := hF.call f7 (I := []) (J := []) rfl rfl
    subst hPQ
    exact x_iret E h ⟨hR0.trans hR.symm, hI7, hF7⟩ dX6_weigh_94
  replace hR := it_f hR c_1_6
  refine lv_tableOut (tgt := 95) hx hb dX6_weigh_1 (x_out6 c_1_0 c_1_1 c_1_2 c_1_3 c_1_4 c_1_5 c_1_6) (by decide) ?_
  refine lv_aload_n hx hb dX6_weigh_95 rfl (lv_at hl 0 rfl) ?_
  refine lv_aload_n hx hb dX6_weigh_96 rfl (lv_at hl 2 rfl) ?_
  refine lv_iload_n hx hb dX6_weigh_97 rfl (lv_at hl 3 rfl) ?_
  refine x_vi E h (na := 2) (As := [.ref (g.2.1 16), .int (nI p3)]) (aX6_noise_0 l g σ hI p3 (by omega)) (oc_ki g) rfl gX6_weigh_X6_noise rfl ⟨rfl, rfl⟩ rfl (by decide +kernel) ⟨Nat.le_of_ble_eq_true rfl, Nat.le_of_ble_eq_true rfl⟩ hl.1 rfl (Nat.le_of_ble_eq_true rfl) dX6_weigh_98 ⟨Nat.le_of_ble_eq_true rfl, Nat.le_of_ble_eq_true rfl⟩ (fun r8 s8 H locs q8 h => ?_)
  obtain ⟨x8, hI8, f8⟩ := q8
  replace hR := bp_to hR x8
  have hF8 := hF.call f8 (I := []) (J := []) rfl rfl
  subst hPQ
  exact x_iret E h ⟨hR0.trans hR.symm, hI8, hF8⟩ dX6_weigh_101
set_option maxHeartbeats 4000000 in
set_option maxRecDepth 100000 in
theorem aX11_weight_0 (l : Launch) (g : CX) (σ : ST) (hI : INV σ) (p1 : Int32) (p2 : Int32) : XM l g yX11_weight wsX11_weight { frames := 6, cells := 0, slots := 0, locals := 142 } [.ref (g.2.1 0), .int p1, .int p2] σ (XQi g (fun r σ' => fX11_weight_0 p1 p2 σ = (r, σ') ∧ INV σ' ∧ Fr [(3, 8), (22, 22)] [(8, 19)] σ σ')) := by
  refine x_met (own := RX11) (cc := cX11_weight) (maxL := 3) (ret := (some .int)) (lv := [(0, .ref (g.2.1 0)), (1, .int p1), (2, .int p2)]) (by decide) rfl rfl (Nat.le_of_ble_eq_true rfl) rfl ?_
  intro p e s m args below meth c ls E h hl
  have hx := E.1
  have hb := E.2.1
  have hown := E.2.2.2.1
  have hts := E.2.2.2.2.1
  have hF : Fr [(3, 8), (22, 22)] [(8, 19)] σ σ := Fr.refl σ
  obtain ⟨R, hR0⟩ : ∃ R, fX11_weight_0 p1 p2 σ = R := ⟨_, rfl⟩
  have hR : fX11_weight_0b0 p1 p2 σ = R := hR0
  have hwX11 : ∀ w ∈ wsX110, w ∈ wsX11_weight := by decide +kernel
  have hwX5 : ∀ w ∈ wsX50, w ∈ wsX11_weight := by decide +kernel
  generalize hPQ : XQi g (fun r σ' => fX11_weight_0 p1 p2 σ = (r, σ') ∧ INV σ' ∧ Fr [(3, 8), (22, 22)] [(8, 19)] σ σ') = PQz
  refine lv_iload_n hx hb dX11_weight_0 rfl (lv_at hl 1 rfl) ?_
  refine lv_iconst (v := 0) hx hb dX11_weight_1 (by decide) ?_
  refine lv_bipush (v := 7) hx hb dX11_weight_2 (by decide) ?_
  refine x_si E h (na := 3) (As := [.int p1, .int 0, .int 7]) (aX11_within_0 l g σ hI p1 0 7) gX11_weight_X11_within rfl ⟨rfl, rfl⟩ rfl (by decide +kernel) ⟨Nat.le_of_ble_eq_true rfl, Nat.le_of_ble_eq_true rfl⟩ hl.1 rfl (Nat.le_of_ble_eq_true rfl) dX11_weight_4 ⟨Nat.le_of_ble_eq_true rfl, Nat.le_of_ble_eq_true rfl⟩ (fun r1 s1 H locs q1 h => ?_)
  obtain ⟨x1, d1, rfl⟩ := q1
  replace hR := bd_to hR x1
  rcases d1 with ⟨rfl, u1_0_0, u1_0_1⟩ | rfl
  · skip
    obtain ⟨n2, b2, rfl⟩ := y_rnlt (N := 7) (y_lo1 u1_0_0 (by decide)) u1_0_1 (by omega)
    have b3 : 0 ≤ n2 := y_nlt (a := n2) (b := 0) (by omega) (by omega) u1_0_0
    have b4 : n2 ≤ 7 := y_nlt (a := 7) (b := n2) (by omega) (by omega) u1_0_1
    replace hR := it_f hR (by decide)
    refine lv_if_eq (tgt := 18) hx hb dX11_weight_7 (by decide) (fun c => absurd c (by decide)) (fun _ => ?_)
    refine lv_aload_n hx hb dX11_weight_10 rfl (lv_at hl 0 rfl) ?_
    refine lv_iload_n hx hb dX11_weight_11 rfl (lv_at hl 2 rfl) ?_
    refine x_vi E h (na := 1) (As := [.int p2]) (aX11_isPiece_0 l g σ hI p2) (oc_vh g) rfl gX11_weight_X11_isPiece rfl ⟨rfl, rfl⟩ rfl (by decide +kernel) ⟨Nat.le_of_ble_eq_true rfl, Nat.le_of_ble_eq_true rfl⟩ hl.1 rfl (Nat.le_of_ble_eq_true rfl) dX11_weight_12 ⟨Nat.le_of_ble_eq_true rfl, Nat.le_of_ble_eq_true rfl⟩ (fun r5 s5 H locs q5 h => ?_)
    obtain ⟨x5, d5, hI5, f5⟩ := q5
    replace hR := bp_to hR x5
    have hF5 := hF.call f5 (I := [(3, 8), (22, 22)]) (J := [(8, 19)]) rfl rfl
    rcases d5 with ⟨rfl, m5_0n, m5_0P, u5_0_0, u5_0_1, u5_0_2, u5_0_3, rfl⟩ | rfl
    · skip
      replace hR := it_f hR (by decide)
      refine lv_if_ne (tgt := 20) hx hb dX11_weight_15 (by decide) (fun _ => ?_) (fun c => absurd c (by decide))
      refine lv_aload_n hx hb dX11_weight_20 rfl (lv_at hl 0 rfl) ?_
      refine x_getR E h (fr_vh_kinds g) rfl hwX11 (by decide) (by decide +kernel) dX11_weight_21 ?_
      refine lv_iload_n hx hb dX11_weight_24 rfl (lv_at hl 1 rfl) ?_
      refine lv_aload_n hx hb dX11_weight_25 rfl (lv_at hl 0 rfl) ?_
      refine x_getR E h (fr_vh_cutting g) rfl hwX11 (by decide) (by decide +kernel) dX11_weight_26 ?_
      refine lv_iload_n hx hb dX11_weight_29 rfl (lv_at hl 2 rfl) ?_
      refine lv_aload_n hx hb dX11_weight_30 rfl (lv_at hl 0 rfl) ?_
      refine x_getR E h (fr_vh_kept g) rfl hwX11 (by decide) (by decide +kernel) dX11_weight_31 ?_
      obtain ⟨n6, b6, e6⟩ := hI5.1 19 6 rfl
      refine x_getIN E h (fi_ke_voices g) rfl hwX5 (by decide) (by decide +kernel) (v := nI n6) e6 dX11_weight_34 ?_
      replace hR := bd_to hR e6
      refine x_vi E h (na := 4) (As := [.int (nI n2), .ref (g.2.1 16), .int (nI m5_0n), .int (nI n6)]) (aX6_weigh_0 l g s5 hI5 (nI n2) m5_0n (nI n6) (by omega)) (oc_ki g) rfl gX11_weight_X6_weigh rfl ⟨rfl, rfl⟩ rfl (by decide +kernel) ⟨Nat.le_of_ble_eq_true rfl, Nat.le_of_ble_eq_true rfl⟩ hl.1 rfl (Nat.le_of_ble_eq_true rfl) dX11_weight_37 ⟨Nat.le_of_ble_eq_true rfl, Nat.le_of_ble_eq_true rfl⟩ (fun r7 s7 H locs q7 h => ?_)
      obtain ⟨x7, hI7, f7⟩ := q7
      replace hR := bp_to hR x7
      have hF7 := hF5.call f7 (I := [(3, 8), (22, 22)]) (J := [(8, 19)]) rfl rfl
      have e8 : s7.1 22 = 0 := ((f7.1 22 rfl)).trans u5_0_0
      have e9 : s7.1 5 = nI m5_0P := ((f7.1 5 rfl)).trans u5_0_1
      have e10 : s7.1 19 = nI n6 := ((f7.1 19 rfl)).trans e6
      subst hPQ
      exact x_iret E h ⟨hR0.trans hR.symm, hI7, hF7⟩ dX11_weight_40
    · skip
      replace hR := it_t hR (by decide)
      refine lv_if_ne (tgt := 20) hx hb dX11_weight_15 (by decide) (fun c => absurd (by decide) c) (fun _ => ?_)
      refine lv_iconst (v := (-1)) hx hb dX11_weight_18 (by decide) ?_
      subst hPQ
      exact x_iret E h ⟨hR0.trans hR.symm, hI5, hF5⟩ dX11_weight_19
  · skip
    replace hR := it_t hR (by decide)
    refine lv_if_eq (tgt := 18) hx hb dX11_weight_7 (by decide) (fun _ => ?_) (fun c => absurd (by decide) c)
    refine lv_iconst (v := (-1)) hx hb dX11_weight_18 (by decide) ?_
    subst hPQ
    exact x_iret E h ⟨hR0.trans hR.symm, hI, hF⟩ dX11_weight_19
set_option maxHeartbeats 4000000 in
set_option maxRecDepth 100000 in
theorem aX7_deafRows_0 (l : Launch) (g : CX) (σ : ST) (hI : INV σ)  : XM l g yX7_deafRows wsX7_deafRows { frames := 0, cells := 0, slots := 0, locals := 0 } [.ref (g.2.1 5)] σ (XQi g (fun r σ' => fX7_deafRows_0 σ = r ∧ σ = σ')) := by
  refine x_met (own := RX7) (cc := cX7_deafRows) (maxL := 3) (ret := (some .int)) (lv := [(0, .ref (g.2.1 5))]) (by decide) rfl rfl (Nat.le_of_ble_eq_true rfl) rfl ?_
  intro p e s m args below meth c ls E h hl
  have hx := E.1
  have hb := E.2.1
  have hown := E.2.2.2.1
  have hts := E.2.2.2.2.1
  obtain ⟨R, hR0⟩ : ∃ R, fX7_deafRows_0 σ = R := ⟨_, rfl⟩
  have hR : fX7_deafRows_0b0 σ = R := hR0
  have hwX7 : ∀ w ∈ wsX70, w ∈ wsX7_deafRows := by decide +kernel
  generalize hPQ : XQi g (fun r σ' => fX7_deafRows_0 σ = r ∧ σ = σ') = PQz
  refine lv_iconst (v := 0) hx hb dX7_deafRows_0 (by decide) ?_
  refine lv_istore_n (lv' := [(1, .int 0), (0, .ref (g.2.1 5))]) hx hb dX7_deafRows_1 rfl hl (by decide) rfl (fun ls hl => ?_)
  refine lv_iconst (v := 0) hx hb dX7_deafRows_2 (by decide) ?_
  refine lv_istore_n (lv' := [(2, .int 0), (1, .int 0), (0, .ref (g.2.1 5))]) hx hb dX7_deafRows_3 rfl hl (by decide) rfl (fun ls hl => ?_)
  obtain ⟨n2, b2, e2⟩ := hI.1 2 48 rfl
  have loop4_1 : ∀ (fu : Nat) (i1_2 : Nat) (i1_1 : Int32), i1_2 ≤ n2 → fX7_deafRows_0l4 fu i1_1 (nI i1_2) σ = R → n2 - i1_2 < fu → ∀ (H : Heap) (locs : List Loc) (ls : Array Slot), HW g σ s H locs → lv_has ls 3 [(2, .int (nI i1_2)), (1, .int i1_1), (0, .ref (g.2.1 5))] → W p l e { frames := 0, cells := 0, slots := 0, locals := 0 } s m args below meth c H locs 0 0 (MQ below PQz args s 0 0 (Aw g)) (F0 m 4 ls []) := by
    intro fu1
    induction fu1 with
    | zero => intro i1_2 i1_1 bi1_2 hR1 hm; exact absurd hm (Nat.not_lt_zero _)
    | succ fu1 ih =>
      have ih1 := ih
      clear ih
      intro i1_2 i1_1 bi1_2 hR1 hm1 H locs ls h hl
      replace hR1 : fX7_deafRows_0b4 (fX7_deafRows_0l4 fu1) i1_1 (nI i1_2) σ = R := hR1
      refine lv_iload_n hx hb dX7_deafRows_4 rfl (lv_at hl 0 rfl) ?_
      refine lv_aload_n hx hb dX7_deafRows_5 rfl (lv_at hl 2 rfl) ?_
      refine x_getI E h (fi_bk_rows g) rfl hwX7 (by decide) (by decide +kernel) (v := nI n2) e2 dX7_deafRows_6 ?_
      replace hR1 := bd_to hR1 e2
      refine lv_icmp_ge (tgt := 35) hx hb dX7_deafRows_9 (by decide) (fun c3 => ?_) (fun c3 => ?_)
      · skip
        replace hR1 := it_t hR1 c3
        have b4 : n2 ≤ i1_2 := y_le (a := n2) (b := i1_2) (by omega) (by omega) c3
        refine lv_iload_n hx hb dX7_deafRows_35 rfl (lv_at hl 1 rfl) ?_
        subst hPQ
        exact x_iret E h ⟨hR0.trans hR1.symm, rfl⟩ dX7_deafRows_36
      · skip
        replace hR1 := it_f hR1 c3
        have b5 : i1_2 < n2 := y_nle (a := n2) (b := i1_2) (by omega) (by omega) c3
        refine lv_iload_n hx hb dX7_deafRows_12 rfl (lv_at hl 1 rfl) ?_
        refine lv_aload_n hx hb dX7_deafRows_13 rfl (lv_at hl 2 rfl) ?_
        refine x_getR E h (fr_bk_isDeaf g) rfl hwX7 (by decide) (by decide +kernel) dX7_deafRows_14 ?_
        refine lv_iload_n hx hb dX7_deafRows_17 rfl (lv_at hl 0 rfl) ?_
        refine x_ldZ E h (ia_bk_isDeaf g) (i := nI i1_2) (vp_in_nI (by omega) (by decide)) (v := σ.2.2 4 i1_2) (congrArg (σ.2.2 4) (nI_clamp (n := i1_2) (by omega))) dX7_deafRows_18 ?_
        replace hR1 := bd_to hR1 (congrArg (σ.2.2 4) (nI_clamp (n := i1_2) (by omega)))
        have j27_8 : ∀ (y8_s0 : Int32), fX7_deafRows_0b27 (fX7_deafRows_0l4 fu1) (nI i1_2) y8_s0 i1_1 σ = R → ∀ (H : Heap) (locs : List Loc) (ls : Array Slot), HW g σ s H locs → lv_has ls 3 [(2, .int (nI i1_2)), (1, .int i1_1), (0, .ref (g.2.1 5))] → W p l e { frames := 0, cells := 0, slots := 0, locals := 0 } s m args below meth c H locs 0 0 (MQ below PQz args s 0 0 (Aw g)) (F0 m 27 ls [.int y8_s0, .int i1_1]) := by
          intro y8_s0 hR8 H locs ls h hl
          refine lv_iadd hx hb dX7_deafRows_27 ?_
          refine lv_topi (fun x9 e9 => ?_)
          replace hR8 := bd_to hR8 e9.symm
          refine lv_istore_n (lv' := [(1, .int x9), (2, .int (nI i1_2)), (0, .ref (g.2.1 5))]) hx hb dX7_deafRows_28 rfl hl (by decide) rfl (fun ls hl => ?_)
          replace hR8 := bd_to hR8 (nI_add i1_2 1)
          refine lv_iinc (v := (nI (i1_2 + 1))) (lv' := [(2, .int (nI (i1_2 + 1))), (1, .int x9), (0, .ref (g.2.1 5))]) hx hb dX7_deafRows_29 hl (k := 1) rfl (nI_add i1_2 1) (by decide) rfl (fun ls hl => ?_)
          refine lv_goto (tgt := 4) hx hb dX7_deafRows_32 (by decide) ?_
          exact ih1 (i1_2 + 1) x9 (by omega) hR8 (by omega) _ _ _ h (lv_sub hl [0, 1, 2] rfl)
        refine lv_if_eq (tgt := 26) hx hb dX7_deafRows_19 (by decide) (fun c6 => ?_) (fun c6 => ?_)
        · skip
          replace hR1 := it_t hR1 c6
          refine lv_iconst (v := 0) hx hb dX7_deafRows_26 (by decide) ?_
          exact j27_8 0 hR1 _ _ _ h (lv_sub hl [0, 1, 2] rfl)
        · skip
          replace hR1 := it_f hR1 c6
          refine lv_iconst (v := 1) hx hb dX7_deafRows_22 (by decide) ?_
          refine lv_goto (tgt := 27) hx hb dX7_deafRows_23 (by decide) ?_
          exact j27_8 1 hR1 _ _ _ h (lv_sub hl [0, 1, 2] rfl)
  exact loop4_1 4096 0 0 (Nat.zero_le _) hR (by omega) _ _ _ h (lv_sub hl [0, 1, 2] rfl)
set_option maxHeartbeats 4000000 in
set_option maxRecDepth 100000 in
theorem aX7_outRows_0 (l : Launch) (g : CX) (σ : ST) (hI : INV σ)  : XM l g yX7_outRows wsX7_outRows { frames := 0, cells := 0, slots := 0, locals := 0 } [.ref (g.2.1 5)] σ (XQi g (fun r σ' => fX7_outRows_0 σ = r ∧ σ = σ')) := by
  refine x_met (own := RX7) (cc := cX7_outRows) (maxL := 3) (ret := (some .int)) (lv := [(0, .ref (g.2.1 5))]) (by decide) rfl rfl (Nat.le_of_ble_eq_true rfl) rfl ?_
  intro p e s m args below meth c ls E h hl
  have hx := E.1
  have hb := E.2.1
  have hown := E.2.2.2.1
  have hts := E.2.2.2.2.1
  obtain ⟨R, hR0⟩ : ∃ R, fX7_outRows_0 σ = R := ⟨_, rfl⟩
  have hR : fX7_outRows_0b0 σ = R := hR0
  have hwX7 : ∀ w ∈ wsX70, w ∈ wsX7_outRows := by decide +kernel
  generalize hPQ : XQi g (fun r σ' => fX7_outRows_0 σ = r ∧ σ = σ') = PQz
  refine lv_iconst (v := 0) hx hb dX7_outRows_0 (by decide) ?_
  refine lv_istore_n (lv' := [(1, .int 0), (0, .ref (g.2.1 5))]) hx hb dX7_outRows_1 rfl hl (by decide) rfl (fun ls hl => ?_)
  refine lv_iconst (v := 0) hx hb dX7_outRows_2 (by decide) ?_
  refine lv_istore_n (lv' := [(2, .int 0), (1, .int 0), (0, .ref (g.2.1 5))]) hx hb dX7_outRows_3 rfl hl (by decide) rfl (fun ls hl => ?_)
  obtain ⟨n2, b2, e2⟩ := hI.1 2 48 rfl
  have loop4_1 : ∀ (fu : Nat) (i1_2 : Nat) (i1_1 : Int32), i1_2 ≤ n2 → fX7_outRows_0l4 fu i1_1 (nI i1_2) σ = R → n2 - i1_2 < fu → ∀ (H : Heap) (locs : List Loc) (ls : Array Slot), HW g σ s H locs → lv_has ls 3 [(2, .int (nI i1_2)), (1, .int i1_1), (0, .ref (g.2.1 5))] → W p l e { frames := 0, cells := 0, slots := 0, locals := 0 } s m args below meth c H locs 0 0 (MQ below PQz args s 0 0 (Aw g)) (F0 m 4 ls []) := by
    intro fu1
    induction fu1 with
    | zero => intro i1_2 i1_1 bi1_2 hR1 hm; exact absurd hm (Nat.not_lt_zero _)
    | succ fu1 ih =>
      have ih1 := ih
      clear ih
      intro i1_2 i1_1 bi1_2 hR1 hm1 H locs ls h hl
      replace hR1 : fX7_outRows_0b4 (fX7_outRows_0l4 fu1) i1_1 (nI i1_2) σ = R := hR1
      refine lv_iload_n hx hb dX7_outRows_4 rfl (lv_at hl 0 rfl) ?_
      refine lv_aload_n hx hb dX7_outRows_5 rfl (lv_at hl 2 rfl) ?_
      refine x_getI E h (fi_bk_rows g) rfl hwX7 (by decide) (by decide +kernel) (v := nI n2) e2 dX7_outRows_6 ?_
      replace hR1 := bd_to hR1 e2
      refine lv_icmp_ge (tgt := 35) hx hb dX7_outRows_9 (by decide) (fun c3 => ?_) (fun c3 => ?_)
      · skip
        replace hR1 := it_t hR1 c3
        have b4 : n2 ≤ i1_2 := y_le (a := n2) (b := i1_2) (by omega) (by omega) c3
        refine lv_iload_n hx hb dX7_outRows_35 rfl (lv_at hl 1 rfl) ?_
        subst hPQ
        exact x_iret E h ⟨hR0.trans hR1.symm, rfl⟩ dX7_outRows_36
      · skip
        replace hR1 := it_f hR1 c3
        have b5 : i1_2 < n2 := y_nle (a := n2) (b := i1_2) (by omega) (by omega) c3
        refine lv_iload_n hx hb dX7_outRows_12 rfl (lv_at hl 1 rfl) ?_
        refine lv_aload_n hx hb dX7_outRows_13 rfl (lv_at hl 2 rfl) ?_
        refine x_getR E h (fr_bk_isOut g) rfl hwX7 (by decide) (by decide +kernel) dX7_outRows_14 ?_
        refine lv_iload_n hx hb dX7_outRows_17 rfl (lv_at hl 0 rfl) ?_
        refine x_ldZ E h (ia_bk_isOut g) (i := nI i1_2) (vp_in_nI (by omega) (by decide)) (v := σ.2.2 5 i1_2) (congrArg (σ.2.2 5) (nI_clamp (n := i1_2) (by omega))) dX7_outRows_18 ?_
        replace hR1 := bd_to hR1 (congrArg (σ.2.2 5) (nI_clamp (n := i1_2) (by omega)))
        have j27_8 : ∀ (y8_s0 : Int32), fX7_outRows_0b27 (fX7_outRows_0l4 fu1) (nI i1_2) y8_s0 i1_1 σ = R → ∀ (H : Heap) (locs : List Loc) (ls : Array Slot), HW g σ s H locs → lv_has ls 3 [(2, .int (nI i1_2)), (1, .int i1_1), (0, .ref (g.2.1 5))] → W p l e { frames := 0, cells := 0, slots := 0, locals := 0 } s m args below meth c H locs 0 0 (MQ below PQz args s 0 0 (Aw g)) (F0 m 27 ls [.int y8_s0, .int i1_1]) := by
          intro y8_s0 hR8 H locs ls h hl
          refine lv_iadd hx hb dX7_outRows_27 ?_
          refine lv_topi (fun x9 e9 => ?_)
          replace hR8 := bd_to hR8 e9.symm
          refine lv_istore_n (lv' := [(1, .int x9), (2, .int (nI i1_2)), (0, .ref (g.2.1 5))]) hx hb dX7_outRows_28 rfl hl (by decide) rfl (fun ls hl => ?_)
          replace hR8 := bd_to hR8 (nI_add i1_2 1)
          refine lv_iinc (v := (nI (i1_2 + 1))) (lv' := [(2, .int (nI (i1_2 + 1))), (1, .int x9), (0, .ref (g.2.1 5))]) hx hb dX7_outRows_29 hl (k := 1) rfl (nI_add i1_2 1) (by decide) rfl (fun ls hl => ?_)
          refine lv_goto (tgt := 4) hx hb dX7_outRows_32 (by decide) ?_
          exact ih1 (i1_2 + 1) x9 (by omega) hR8 (by omega) _ _ _ h (lv_sub hl [0, 1, 2] rfl)
        refine lv_if_eq (tgt := 26) hx hb dX7_outRows_19 (by decide) (fun c6 => ?_) (fun c6 => ?_)
        · skip
          replace hR1 := it_t hR1 c6
          refine lv_iconst (v := 0) hx hb dX7_outRows_26 (by decide) ?_
          exact j27_8 0 hR1 _ _ _ h (lv_sub hl [0, 1, 2] rfl)
        · skip
          replace hR1 := it_f hR1 c6
          refine lv_iconst (v := 1) hx hb dX7_outRows_22 (by decide) ?_
          refine lv_goto (tgt := 27) hx hb dX7_outRows_23 (by decide) ?_
          exact j27_8 1 hR1 _ _ _ h (lv_sub hl [0, 1, 2] rfl)
  exact loop4_1 4096 0 0 (Nat.zero_le _) hR (by omega) _ _ _ h (lv_sub hl [0, 1, 2] rfl)
set_option maxHeartbeats 4000000 in
set_option maxRecDepth 100000 in
theorem aX11_count_0 (l : Launch) (g : CX) (σ : ST) (hI : INV σ) (p1 : Int32) : XM l g yX11_count wsX11_count { frames := 1, cells := 0, slots := 0, locals := 22 } [.ref (g.2.1 0), .int p1] σ (XQi g (fun r σ' => fX11_count_0 p1 σ = r ∧ σ = σ')) := by
  refine x_met (own := RX11) (cc := cX11_count) (maxL := 2) (ret := (some .int)) (lv := [(0, .ref (g.2.1 0)), (1, .int p1)]) (by decide) rfl rfl (Nat.le_of_ble_eq_true rfl) rfl ?_
  intro p e s m args below meth c ls E h hl
  have hx := E.1
  have hb := E.2.1
  have hown := E.2.2.2.1
  have hts := E.2.2.2.2.1
  obtain ⟨R, hR0⟩ : ∃ R, fX11_count_0 p1 σ = R := ⟨_, rfl⟩
  have hR : fX11_count_0b0 p1 σ = R := hR0
  have hwX10 : ∀ w ∈ wsX100, w ∈ wsX11_count := by decide +kernel
  have hwX11 : ∀ w ∈ wsX110, w ∈ wsX11_count := by decide +kernel
  have hwX5 : ∀ w ∈ wsX50, w ∈ wsX11_count := by decide +kernel
  have hwX7 : ∀ w ∈ wsX70, w ∈ wsX11_count := by decide +kernel
  have hwX8 : ∀ w ∈ wsX80, w ∈ wsX11_count := by decide +kernel
  generalize hPQ : XQi g (fun r σ' => fX11_count_0 p1 σ = r ∧ σ = σ') = PQz
  refine lv_iload_n hx hb dX11_count_0 rfl (lv_at hl 1 rfl) ?_
  by_cases c_1_0 : p1 = 0
  · refine x_topI (v2 := 0) c_1_0 ?_
    replace hR := it_t hR c_1_0
    refine lv_tableIn (tgt := 40) (off := 39) hx hb dX11_count_1 (by decide) (by decide) (by decide) (by decide) ?_
    refine lv_aload_n hx hb dX11_count_40 rfl (lv_at hl 0 rfl) ?_
    refine x_getR E h (fr_vh_book g) rfl hwX11 (by decide) (by decide +kernel) dX11_count_41 ?_
    obtain ⟨n1, b1, e1⟩ := hI.1 2 48 rfl
    refine x_getIN E h (fi_bk_rows g) rfl hwX7 (by decide) (by decide +kernel) (v := nI n1) e1 dX11_count_44 ?_
    replace hR := bd_to hR e1
    subst hPQ
    exact x_iret E h ⟨hR0.trans hR.symm, rfl⟩ dX11_count_47
  replace hR := it_f hR c_1_0
  by_cases c_1_1 : p1 = 1
  · refine x_topI (v2 := 1) c_1_1 ?_
    replace hR := it_t hR c_1_1
    refine lv_tableIn (tgt := 48) (off := 47) hx hb dX11_count_1 (by decide) (by decide) (by decide) (by decide) ?_
    refine lv_aload_n hx hb dX11_count_48 rfl (lv_at hl 0 rfl) ?_
    refine x_getR E h (fr_vh_book g) rfl hwX11 (by decide) (by decide +kernel) dX11_count_49 ?_
    refine x_vi E h (na := 0) (As := []) (aX7_deafRows_0 l g σ hI) (oc_bk g) rfl gX11_count_X7_deafRows rfl ⟨rfl, rfl⟩ rfl (by decide +kernel) ⟨Nat.le_of_ble_eq_true rfl, Nat.le_of_ble_eq_true rfl⟩ hl.1 rfl (Nat.le_of_ble_eq_true rfl) dX11_count_52 ⟨Nat.le_of_ble_eq_true rfl, Nat.le_of_ble_eq_true rfl⟩ (fun r2 s2 H locs q2 h => ?_)
    obtain ⟨x2, rfl⟩ := q2
    replace hR := bd_to hR x2
    subst hPQ
    exact x_iret E h ⟨hR0.trans hR.symm, rfl⟩ dX11_count_55
  replace hR := it_f hR c_1_1
  by_cases c_1_2 : p1 = 2
  · refine x_topI (v2 := 2) c_1_2 ?_
    replace hR := it_t hR c_1_2
    refine lv_tableIn (tgt := 56) (off := 55) hx hb dX11_count_1 (by decide) (by decide) (by decide) (by decide) ?_
    refine lv_aload_n hx hb dX11_count_56 rfl (lv_at hl 0 rfl) ?_
    refine x_getR E h (fr_vh_book g) rfl hwX11 (by decide) (by decide +kernel) dX11_count_57 ?_
    refine x_vi E h (na := 0) (As := []) (aX7_outRows_0 l g σ hI) (oc_bk g) rfl gX11_count_X7_outRows rfl ⟨rfl, rfl⟩ rfl (by decide +kernel) ⟨Nat.le_of_ble_eq_true rfl, Nat.le_of_ble_eq_true rfl⟩ hl.1 rfl (Nat.le_of_ble_eq_true rfl) dX11_count_60 ⟨Nat.le_of_ble_eq_true rfl, Nat.le_of_ble_eq_true rfl⟩ (fun r3 s3 H locs q3 h => ?_)
    obtain ⟨x3, rfl⟩ := q3
    replace hR := bd_to hR x3
    subst hPQ
    exact x_iret E h ⟨hR0.trans hR.symm, rfl⟩ dX11_count_63
  replace hR := it_f hR c_1_2
  by_cases c_1_3 : p1 = 3
  · refine x_topI (v2 := 3) c_1_3 ?_
    replace hR := it_t hR c_1_3
    refine lv_tableIn (tgt := 64) (off := 63) hx hb dX11_count_1 (by decide) (by decide) (by decide) (by decide) ?_
    refine lv_aload_n hx hb dX11_count_64 rfl (lv_at hl 0 rfl) ?_
    refine x_getR E h (fr_vh_kept g) rfl hwX11 (by decide) (by decide +kernel) dX11_count_65 ?_
    obtain ⟨n4, b4, e4⟩ := hI.1 19 6 rfl
    refine x_getIN E h (fi_ke_voices g) rfl hwX5 (by decide) (by decide +kernel) (v := nI n4) e4 dX11_count_68 ?_
    replace hR := bd_to hR e4
    subst hPQ
    exact x_iret E h ⟨hR0.trans hR.symm, rfl⟩ dX11_count_71
  replace hR := it_f hR c_1_3
  by_cases c_1_4 : p1 = 4
  · refine x_topI (v2 := 4) c_1_4 ?_
    replace hR := it_t hR c_1_4
    refine lv_tableIn (tgt := 72) (off := 71) hx hb dX11_count_1 (by decide) (by decide) (by decide) (by decide) ?_
    refine lv_aload_n hx hb dX11_count_72 rfl (lv_at hl 0 rfl) ?_
    refine x_getR E h (fr_vh_wordBook g) rfl hwX11 (by decide) (by decide +kernel) dX11_count_73 ?_
    obtain ⟨n5, b5, e5⟩ := hI.1 20 12 rfl
    refine x_getIN E h (fi_wb_words g) rfl hwX10 (by decide) (by decide +kernel) (v := nI n5) e5 dX11_count_76 ?_
    replace hR := bd_to hR e5
    subst hPQ
    exact x_iret E h ⟨hR0.trans hR.symm, rfl⟩ dX11_count_79
  replace hR := it_f hR c_1_4
  by_cases c_1_5 : p1 = 5
  · refine x_topI (v2 := 5) c_1_5 ?_
    replace hR := it_t hR c_1_5
    refine lv_tableIn (tgt := 80) (off := 79) hx hb dX11_count_1 (by decide) (by decide) (by decide) (by decide) ?_
    refine lv_aload_n hx hb dX11_count_80 rfl (lv_at hl 0 rfl) ?_
    refine x_getR E h (fr_vh_ruleText g) rfl hwX11 (by decide) (by decide +kernel) dX11_count_81 ?_
    obtain ⟨n6, b6, e6⟩ := hI.1 0 200 rfl
    refine x_getIN E h (fi_rt_length g) rfl hwX8 (by decide) (by decide +kernel) (v := nI n6) e6 dX11_count_84 ?_
    replace hR := bd_to hR e6
    subst hPQ
    exact x_iret E h ⟨hR0.trans hR.symm, rfl⟩ dX11_count_87
  replace hR := it_f hR c_1_5
  refine lv_tableOut (tgt := 88) hx hb dX11_count_1 (x_out5 c_1_0 c_1_1 c_1_2 c_1_3 c_1_4 c_1_5) (by decide) ?_
  refine lv_iconst (v := (-1)) hx hb dX11_count_88 (by decide) ?_
  subst hPQ
  exact x_iret E h ⟨hR0.trans hR.symm, rfl⟩ dX11_count_89
set_option maxHeartbeats 4000000 in
set_option maxRecDepth 100000 in
theorem aX11_trace_0 (l : Launch) (g : CX) (σ : ST) (hI : INV σ)  : XM l g yX11_trace wsX11_trace { frames := 0, cells := 0, slots := 0, locals := 0 } [.ref (g.2.1 0)] σ (XQl g (fun r σ' => fX11_trace_0 σ = r ∧ σ = σ')) := by
  refine x_met (own := RX11) (cc := cX11_trace) (maxL := 1) (ret := (some .long)) (lv := [(0, .ref (g.2.1 0))]) (by decide) rfl rfl (Nat.le_of_ble_eq_true rfl) rfl ?_
  intro p e s m args below meth c ls E h hl
  have hx := E.1
  have hb := E.2.1
  have hown := E.2.2.2.1
  have hts := E.2.2.2.2.1
  obtain ⟨R, hR0⟩ : ∃ R, fX11_trace_0 σ = R := ⟨_, rfl⟩
  have hR : fX11_trace_0b0 σ = R := hR0
  have hwX11 : ∀ w ∈ wsX110, w ∈ wsX11_trace := by decide +kernel
  have hwX6 : ∀ w ∈ wsX60, w ∈ wsX11_trace := by decide +kernel
  generalize hPQ : XQl g (fun r σ' => fX11_trace_0 σ = r ∧ σ = σ') = PQz
  refine lv_aload_n hx hb dX11_trace_0 rfl (lv_at hl 0 rfl) ?_
  refine x_getR E h (fr_vh_kinds g) rfl hwX11 (by decide) (by decide +kernel) dX11_trace_1 ?_
  refine x_getLN E h (fl_ki_asked g) rfl hwX6 (by decide) (by decide +kernel) rfl dX11_trace_4 ?_
  replace hR := bd_to hR rfl
  subst hPQ
  exact x_lret E h ⟨hR0.trans hR.symm, rfl⟩ dX11_trace_7
set_option maxHeartbeats 4000000 in
set_option maxRecDepth 100000 in
theorem aX12_in_0 (l : Launch) (g : CX) (σ : ST) (hI : INV σ) (p0 : Int32) (p1 : Int32) (p2 : Int32) : XM l g yX12_in wsX12_in { frames := 0, cells := 0, slots := 0, locals := 0 } [.int p0, .int p1, .int p2] σ (XQi g (fun r σ' => fX12_in_0 p0 p1 p2 σ = r ∧ ((1 = r ∧ ¬ p0 < p1 ∧ ¬ p2 < p0) ∨ (0 = r ∧ ¬ (¬ p0 < p1 ∧ ¬ p2 < p0))) ∧ σ = σ')) := by
  refine x_met (own := RX12) (cc := cX12_in) (maxL := 3) (ret := (some .boolean)) (lv := [(0, .int p0), (1, .int p1), (2, .int p2)]) (by decide) rfl rfl (Nat.le_of_ble_eq_true rfl) rfl ?_
  intro p e s m args below meth c ls E h hl
  have hx := E.1
  have hb := E.2.1
  have hown := E.2.2.2.1
  have hts := E.2.2.2.2.1
  obtain ⟨R, hR0⟩ : ∃ R, fX12_in_0 p0 p1 p2 σ = R := ⟨_, rfl⟩
  have hR : fX12_in_0b0 p0 p1 p2 σ = R := hR0
  generalize hPQ : XQi g (fun r σ' => fX12_in_0 p0 p1 p2 σ = r ∧ ((1 = r ∧ ¬ p0 < p1 ∧ ¬ p2 < p0) ∨ (0 = r ∧ ¬ (¬ p0 < p1 ∧ ¬ p2 < p0))) ∧ σ = σ') = PQz
  refine lv_iload_n hx hb dX12_in_0 rfl (lv_at hl 0 rfl) ?_
  refine lv_iload_n hx hb dX12_in_1 rfl (lv_at hl 1 rfl) ?_
  refine lv_icmp_lt (tgt := 14) hx hb dX12_in_2 (by decide) (fun c1 => ?_) (fun c1 => ?_)
  · skip
    replace hR := it_t hR c1
    refine lv_iconst (v := 0) hx hb dX12_in_14 (by decide) ?_
    replace hR : fX12_in_0b15 0 σ = R := hR
    subst hPQ
    exact x_zret E h rfl ⟨hR0.trans hR.symm, (Or.inr (⟨rfl, (fun q9 => q9.1 c1)⟩)), rfl⟩ dX12_in_15
  · skip
    replace hR := it_f hR c1
    refine lv_iload_n hx hb dX12_in_5 rfl (lv_at hl 0 rfl) ?_
    refine lv_iload_n hx hb dX12_in_6 rfl (lv_at hl 2 rfl) ?_
    refine lv_icmp_gt (tgt := 14) hx hb dX12_in_7 (by decide) (fun c4 => ?_) (fun c4 => ?_)
    · skip
      replace hR := it_t hR c4
      refine lv_iconst (v := 0) hx hb dX12_in_14 (by decide) ?_
      replace hR : fX12_in_0b15 0 σ = R := hR
      subst hPQ
      exact x_zret E h rfl ⟨hR0.trans hR.symm, (Or.inr (⟨rfl, (fun q9 => q9.2 c4)⟩)), rfl⟩ dX12_in_15
    · skip
      replace hR := it_f hR c4
      refine lv_iconst (v := 1) hx hb dX12_in_10 (by decide) ?_
      refine lv_goto (tgt := 15) hx hb dX12_in_11 (by decide) ?_
      replace hR : fX12_in_0b15 1 σ = R := hR
      subst hPQ
      exact x_zret E h rfl ⟨hR0.trans hR.symm, (Or.inl ⟨rfl, c1, c4⟩), rfl⟩ dX12_in_15
set_option maxHeartbeats 4000000 in
set_option maxRecDepth 100000 in
theorem aX12_type_0 (l : Launch) (g : CX) (σ : ST) (hI : INV σ) (p1 : Int64) (p2 : Int32) : XM l g yX12_type wsX12_type { frames := 1, cells := 0, slots := 0, locals := 22 } [.ref (g.2.1 79), .long p1, .int p2] σ (XQi g (fun r σ' => fX12_type_0 p1 p2 σ = (r, σ') ∧ INV σ' ∧ Fr [(25, 25)] [(67, 67)] σ σ')) := by
  refine x_met (own := RX12) (cc := cX12_type) (maxL := 5) (ret := (some .int)) (lv := [(0, .ref (g.2.1 79)), (1, .long p1), (3, .int p2)]) (by decide) rfl rfl (Nat.le_of_ble_eq_true rfl) rfl ?_
  intro p e s m args below meth c ls E h hl
  have hx := E.1
  have hb := E.2.1
  have hown := E.2.2.2.1
  have hts := E.2.2.2.2.1
  have hF : Fr [(25, 25)] [(67, 67)] σ σ := Fr.refl σ
  obtain ⟨R, hR0⟩ : ∃ R, fX12_type_0 p1 p2 σ = R := ⟨_, rfl⟩
  have hR : fX12_type_0b0 p1 p2 σ = R := hR0
  have hwX12 : ∀ w ∈ wsX120, w ∈ wsX12_type := by decide +kernel
  generalize hPQ : XQi g (fun r σ' => fX12_type_0 p1 p2 σ = (r, σ') ∧ INV σ' ∧ Fr [(25, 25)] [(67, 67)] σ σ') = PQz
  refine lv_iload_n hx hb dX12_type_0 rfl (lv_at hl 2 rfl) ?_
  refine lv_iconst (v := 1) hx hb dX12_type_1 (by decide) ?_
  refine lv_bipush (v := 8) hx hb dX12_type_2 (by decide) ?_
  refine x_si E h (na := 3) (As := [.int p2, .int 1, .int 8]) (aX12_in_0 l g σ hI p2 1 8) gX12_type_X12_in rfl ⟨rfl, rfl⟩ rfl (by decide +kernel) ⟨Nat.le_of_ble_eq_true rfl, Nat.le_of_ble_eq_true rfl⟩ hl.1 rfl (Nat.le_of_ble_eq_true rfl) dX12_type_4 ⟨Nat.le_of_ble_eq_true rfl, Nat.le_of_ble_eq_true rfl⟩ (fun r1 s1 H locs q1 h => ?_)
  obtain ⟨x1, d1, rfl⟩ := q1
  replace hR := bd_to hR x1
  rcases d1 with ⟨rfl, u1_0_0, u1_0_1⟩ | ⟨rfl, u1_1_0⟩
  · skip
    obtain ⟨n2, b2, rfl⟩ := y_rnlt (N := 8) (y_lo1 u1_0_0 (by decide)) u1_0_1 (by omega)
    have b3 : 1 ≤ n2 := y_nlt (a := n2) (b := 1) (by omega) (by omega) u1_0_0
    have b4 : n2 ≤ 8 := y_nlt (a := 8) (b := n2) (by omega) (by omega) u1_0_1
    replace hR := it_f hR (by decide)
    refine lv_if_ne (tgt := 12) hx hb dX12_type_7 (by decide) (fun _ => ?_) (fun c => absurd c (by decide))
    refine lv_aload_n hx hb dX12_type_12 rfl (lv_at hl 0 rfl) ?_
    obtain ⟨n5, b5, e5⟩ := hI.1 25 200 rfl
    refine x_getI E h (fi_mo_typed g) rfl hwX12 (by decide) (by decide +kernel) (v := nI n5) e5 dX12_type_13 ?_
    replace hR := bd_to hR e5
    refine lv_iload_n hx hb dX12_type_16 rfl (lv_at hl 2 rfl) ?_
    refine lv_iadd hx hb dX12_type_17 ?_
    refine x_topI (v2 := nI (n5 + n2)) (nI_add n5 n2) ?_
    replace hR := bd_to hR (nI_add n5 n2)
    refine lv_sipush (v := 200) hx hb dX12_type_18 (by decide) ?_
    refine lv_icmp_le (tgt := 27) hx hb dX12_type_21 (by decide) (fun c6 => ?_) (fun c6 => ?_)
    · skip
      replace hR := it_t hR c6
      have b7 : (n5 + n2) ≤ 200 := y_le (a := (n5 + n2)) (b := 200) (by omega) (by omega) c6
      refine lv_iload_n hx hb dX12_type_27 rfl (lv_at hl 2 rfl) ?_
      refine lv_iconst (v := 1) hx hb dX12_type_28 (by decide) ?_
      refine lv_isub hx hb dX12_type_29 ?_
      replace hR := bd_to hR rfl
      refine lv_istore (lv' := [(4, .int (nI n2 - 1)), (0, .ref (g.2.1 79)), (1, .long p1), (3, .int (nI n2))]) hx hb dX12_type_30 hl (by decide) rfl (fun ls hl => ?_)
      have loop32_8 : ∀ (fu : Nat) (t8 : ST) (f8_25 : Nat) (i8_4 : Nat), INV t8 → Fr [(25, 25)] [(67, 67)] σ t8 → t8.1 25 = nI f8_25 → i8_4 ≤ 8 → f8_25 + i8_4 ≤ 200 → fX12_type_0l32 fu p1 (nI i8_4 - 1) t8 = R → i8_4 < fu → ∀ (H : Heap) (locs : List Loc) (ls : Array Slot), HW g t8 s H locs → lv_has ls 5 [(4, .int (nI i8_4 - 1)), (0, .ref (g.2.1 79)), (1, .long p1), (3, .int (nI n2))] → W p l e { frames := 1, cells := 0, slots := 0, locals := 22 } s m args below meth c H locs 0 0 (MQ below PQz args s 0 0 (Aw g)) (F0 m 32 ls []) := by
        intro fu8
        induction fu8 with
        | zero => intro t8 f8_25 i8_4 hI_8 hF_8 ef8_25 bi8_4 pp8_0 hR8 hm; exact absurd hm (Nat.not_lt_zero _)
        | succ fu8 ih =>
          have ih8 := ih
          clear ih
          intro t8 f8_25 i8_4 hI_8 hF_8 ef8_25 bi8_4 pp8_0 hR8 hm8 H locs ls h hl
          replace hR8 : fX12_type_0b32 (fX12_type_0l32 fu8) p1 (nI i8_4 - 1) t8 = R := hR8
          refine lv_iload hx hb dX12_type_32 (lv_at hl 0 rfl) ?_
          refine lv_if_lt (tgt := 75) hx hb dX12_type_34 (by decide) (fun c9 => ?_) (fun c9 => ?_)
          · skip
            replace hR8 := it_t hR8 c9
            have b10 : i8_4 < 0 + 1 := y_ltL (a := i8_4) (b := 0) (by omega) (by omega) c9
            refine lv_aload_n hx hb dX12_type_75 rfl (lv_at hl 1 rfl) ?_
            refine x_getI E h (fi_mo_typed g) rfl hwX12 (by decide) (by decide +kernel) (v := nI f8_25) ef8_25 dX12_type_76 ?_
            replace hR8 := bd_to hR8 ef8_25
            subst hPQ
            exact x_iret E h ⟨hR0.trans hR8.symm, hI_8, hF_8⟩ dX12_type_79
          · skip
            replace hR8 := it_f hR8 c9
            have b11 : 0 + 1 ≤ i8_4 := y_nltL (a := i8_4) (b := 0) (by omega) (by omega) c9
            obtain ⟨n12, rfl⟩ : ∃ z, i8_4 = z + 1 := ⟨i8_4 - 1, by omega⟩
            rw [nI_pred] at hl
            try rw [nI_pred] at hR8
            refine lv_aload_n hx hb dX12_type_37 rfl (lv_at hl 1 rfl) ?_
            refine x_getR E h (fr_mo_text g) rfl hwX12 (by decide) (by decide +kernel) dX12_type_38 ?_
            refine lv_aload_n hx hb dX12_type_41 rfl (lv_at hl 1 rfl) ?_
            refine x_getI E h (fi_mo_typed g) rfl hwX12 (by decide) (by decide +kernel) (v := nI f8_25) ef8_25 dX12_type_42 ?_
            replace hR8 := bd_to hR8 ef8_25
            refine lv_lload_n hx hb dX12_type_45 rfl (lv_at hl 2 rfl) ?_
            refine lv_bipush (v := 8) hx hb dX12_type_46 (by decide) ?_
            refine lv_iload hx hb dX12_type_48 (lv_at hl 0 rfl) ?_
            refine lv_imul hx hb dX12_type_50 ?_
            refine x_topI (v2 := nI (8 * n12)) (pk_mul 8 n12) ?_
            replace hR8 := bd_to hR8 (pk_mul 8 n12)
            refine lv_lshr hx hb dX12_type_51 rfl ?_
            refine lv_topl (fun y13 e13 => ?_)
            replace hR8 := bd_to hR8 e13.symm
            refine lv_ldc2 (v := 255) hx hb hown (hts (.constantLong RX12 108 (255)) (by decide +kernel)) dX12_type_52 ?_
            refine lv_land hx hb dX12_type_55 ?_
            refine lv_topl (fun y14 e14 => ?_)
            replace hR8 := bd_to hR8 e14.symm
            refine lv_l2i hx hb dX12_type_56 rfl ?_
            refine lv_topi (fun x15 e15 => ?_)
            replace hR8 := bd_to hR8 e15.symm
            refine lv_i2b hx hb dX12_type_57 rfl ?_
            refine lv_topi (fun x16 e16 => ?_)
            replace hR8 := bd_to hR8 e16.symm
            refine y_stB E h hI_8 hF_8 (ia_mo_text g) (i := nI f8_25) (vp_in_nI (by omega) (by decide)) (j := f8_25) (nI_clamp (by omega)) (ba_none rfl) rfl dX12_type_58 (fun s17 H locs q17 hI17 hF17 h => ?_)
            replace hR8 := st_to hR8 (nI_clamp (n := f8_25) (by omega)) q17
            have e18 : s17.1 25 = nI f8_25 := (congrArg (fun t : ST => t.1 25) q17).trans ef8_25
            refine lv_aload_n hx hb dX12_type_59 rfl (lv_at hl 1 rfl) ?_
            refine lv_dup hx hb dX12_type_60 rfl ?_
            refine x_getI E h (fi_mo_typed g) rfl hwX12 (by decide) (by decide +kernel) (v := nI f8_25) e18 dX12_type_61 ?_
            replace hR8 := bd_to hR8 e18
            refine lv_iconst (v := 1) hx hb dX12_type_64 (by decide) ?_
            refine lv_iadd hx hb dX12_type_65 ?_
            refine x_topI (v2 := nI (f8_25 + 1)) (nI_add f8_25 1) ?_
            replace hR8 := bd_to hR8 (nI_add f8_25 1)
            refine y_putI E h hI17 hF17 (ty := .int) (v := nI (f8_25 + 1)) (fi_mo_typed g) rfl hwX12 tyX12_ok nmX12 (by decide) (by decide +kernel) (by decide +kernel) (by decide +kernel) rfl rfl (ba_some rfl (Bd.mk (n := (f8_25 + 1)) (by omega))) rfl dX12_type_66 (fun s19 H locs q19 hI19 hF19 h => ?_)
            replace hR8 := bd_to hR8 q19.symm
            have e20 : s19.1 25 = nI (f8_25 + 1) := congrArg (fun t : ST => t.1 25) q19
            replace hR8 := bd_to hR8 (y_m1 n12)
            refine lv_iinc (v := (nI n12 - 1)) (lv' := [(4, .int (nI n12 - 1)), (0, .ref (g.2.1 79)), (1, .long p1), (3, .int (nI n2))]) hx hb dX12_type_69 hl (k := 0) rfl (y_m1 n12) (by decide) rfl (fun ls hl => ?_)
            refine lv_goto (tgt := 32) hx hb dX12_type_72 (by decide) ?_
            exact ih8 s19 (f8_25 + 1) n12 hI19 hF19 e20 (by omega) (by omega) hR8 (by omega) _ _ _ h (lv_sub hl [0, 1, 2, 3] rfl)
      exact loop32_8 4096 σ n5 n2 hI hF e5 (by omega) (by omega) (by first | exact hR | (rw [nI_pred]; exact hR)) (by omega) _ _ _ h (lv_sub hl [0, 1, 2, 3] rfl)
    · skip
      replace hR := it_f hR c6
      have b21 : 200 < (n5 + n2) := y_nle (a := (n5 + n2)) (b := 200) (by omega) (by omega) c6
      refine lv_bipush (v := (-3)) hx hb dX12_type_24 (by decide) ?_
      subst hPQ
      exact x_iret E h ⟨hR0.trans hR.symm, hI, hF⟩ dX12_type_26
  · skip
    replace hR := it_t hR (by decide)
    refine lv_if_ne (tgt := 12) hx hb dX12_type_7 (by decide) (fun c => absurd (by decide) c) (fun _ => ?_)
    refine lv_iconst (v := (-1)) hx hb dX12_type_10 (by decide) ?_
    subst hPQ
    exact x_iret E h ⟨hR0.trans hR.symm, hI, hF⟩ dX12_type_11
set_option maxHeartbeats 4000000 in
set_option maxRecDepth 100000 in
theorem aX12_clear_0 (l : Launch) (g : CX) (σ : ST) (hI : INV σ)  : XM l g yX12_clear wsX12_clear { frames := 0, cells := 0, slots := 0, locals := 0 } [.ref (g.2.1 79)] σ (XQi g (fun r σ' => fX12_clear_0 σ = (r, σ') ∧ INV σ' ∧ Fr [(25, 25)] [] σ σ')) := by
  refine x_met (own := RX12) (cc := cX12_clear) (maxL := 2) (ret := (some .int)) (lv := [(0, .ref (g.2.1 79))]) (by decide) rfl rfl (Nat.le_of_ble_eq_true rfl) rfl ?_
  intro p e s m args below meth c ls E h hl
  have hx := E.1
  have hb := E.2.1
  have hown := E.2.2.2.1
  have hts := E.2.2.2.2.1
  have hF : Fr [(25, 25)] [] σ σ := Fr.refl σ
  obtain ⟨R, hR0⟩ : ∃ R, fX12_clear_0 σ = R := ⟨_, rfl⟩
  have hR : fX12_clear_0b0 σ = R := hR0
  have hwX12 : ∀ w ∈ wsX120, w ∈ wsX12_clear := by decide +kernel
  generalize hPQ : XQi g (fun r σ' => fX12_clear_0 σ = (r, σ') ∧ INV σ' ∧ Fr [(25, 25)] [] σ σ') = PQz
  refine lv_aload_n hx hb dX12_clear_0 rfl (lv_at hl 0 rfl) ?_
  obtain ⟨n1, b1, e1⟩ := hI.1 25 200 rfl
  refine x_getI E h (fi_mo_typed g) rfl hwX12 (by decide) (by decide +kernel) (v := nI n1) e1 dX12_clear_1 ?_
  replace hR := bd_to hR e1
  refine lv_istore_n (lv' := [(1, .int (nI n1)), (0, .ref (g.2.1 79))]) hx hb dX12_clear_4 rfl hl (by decide) rfl (fun ls hl => ?_)
  refine lv_aload_n hx hb dX12_clear_5 rfl (lv_at hl 1 rfl) ?_
  refine lv_iconst (v := 0) hx hb dX12_clear_6 (by decide) ?_
  refine y_putI E h hI hF (ty := .int) (v := nI 0) (fi_mo_typed g) rfl hwX12 tyX12_ok nmX12 (by decide) (by decide +kernel) (by decide +kernel) (by decide +kernel) rfl rfl (ba_some rfl (Bd.mk (n := 0) (by omega))) rfl dX12_clear_7 (fun s2 H locs q2 hI2 hF2 h => ?_)
  replace hR := bd_to hR q2.symm
  have e3 : s2.1 25 = nI 0 := congrArg (fun t : ST => t.1 25) q2
  refine lv_iload_n hx hb dX12_clear_10 rfl (lv_at hl 0 rfl) ?_
  subst hPQ
  exact x_iret E h ⟨hR0.trans hR.symm, hI2, hF2⟩ dX12_clear_11
set_option maxHeartbeats 4000000 in
set_option maxRecDepth 100000 in
theorem aX12_atFirst_0 (l : Launch) (g : CX) (σ : ST) (hI : INV σ)  : XM l g yX12_atFirst wsX12_atFirst { frames := 0, cells := 0, slots := 0, locals := 0 } [.ref (g.2.1 79), .int 6] σ (XQv g (fun σ' => fX12_atFirst_0 6 σ = σ' ∧ INV σ' ∧ Fr [] [(66, 66)] σ σ')) := by
  refine x_met (own := RX12) (cc := cX12_atFirst) (maxL := 2) (ret := none) (lv := [(0, .ref (g.2.1 79)), (1, .int 6)]) (by decide) rfl rfl (Nat.le_of_ble_eq_true rfl) rfl ?_
  intro p e s m args below meth c ls E h hl
  have hx := E.1
  have hb := E.2.1
  have hown := E.2.2.2.1
  have hts := E.2.2.2.2.1
  have hF : Fr [] [(66, 66)] σ σ := Fr.refl σ
  obtain ⟨R, hR0⟩ : ∃ R, fX12_atFirst_0 6 σ = R := ⟨_, rfl⟩
  have hR : fX12_atFirst_0b0 6 σ = R := hR0
  have hwX12 : ∀ w ∈ wsX120, w ∈ wsX12_atFirst := by decide +kernel
  generalize hPQ : XQv g (fun σ' => fX12_atFirst_0 6 σ = σ' ∧ INV σ' ∧ Fr [] [(66, 66)] σ σ') = PQz
  refine lv_aload_n hx hb dX12_atFirst_0 rfl (lv_at hl 0 rfl) ?_
  refine x_getR E h (fr_mo_rule g) rfl hwX12 (by decide) (by decide +kernel) dX12_atFirst_1 ?_
  refine lv_iload_n hx hb dX12_atFirst_4 rfl (lv_at hl 1 rfl) ?_
  refine lv_iconst (v := 0) hx hb dX12_atFirst_5 (by decide) ?_
  refine lv_iadd hx hb dX12_atFirst_6 ?_
  refine x_topI (v2 := 6) (by decide) ?_
  replace hR := bd_to hR (show (6 : Int32) + (0 : Int32) = 6 by decide)
  refine lv_bipush (v := 20) hx hb dX12_atFirst_7 (by decide) ?_
  refine y_stI E h hI hF (ia_mo_rule g) (i := nI 6) (vp_in_nI (by omega) (by decide)) (j := 6) (nI_clamp (by omega)) (ba_none rfl) rfl dX12_atFirst_9 (fun s1 H locs q1 hI1 hF1 h => ?_)
  replace hR := st_to hR (nI_clamp (n := 6) (by omega)) q1
  refine lv_aload_n hx hb dX12_atFirst_10 rfl (lv_at hl 0 rfl) ?_
  refine x_getR E h (fr_mo_rule g) rfl hwX12 (by decide) (by decide +kernel) dX12_atFirst_11 ?_
  refine lv_iload_n hx hb dX12_atFirst_14 rfl (lv_at hl 1 rfl) ?_
  refine lv_iconst (v := 1) hx hb dX12_atFirst_15 (by decide) ?_
  refine lv_iadd hx hb dX12_atFirst_16 ?_
  refine x_topI (v2 := 7) (by decide) ?_
  replace hR := bd_to hR (show (6 : Int32) + (1 : Int32) = 7 by decide)
  refine lv_bipush (v := 10) hx hb dX12_atFirst_17 (by decide) ?_
  refine y_stI E h hI1 hF1 (ia_mo_rule g) (i := nI 7) (vp_in_nI (by omega) (by decide)) (j := 7) (nI_clamp (by omega)) (ba_none rfl) rfl dX12_atFirst_19 (fun s2 H locs q2 hI2 hF2 h => ?_)
  replace hR := st_to hR (nI_clamp (n := 7) (by omega)) q2
  refine lv_aload_n hx hb dX12_atFirst_20 rfl (lv_at hl 0 rfl) ?_
  refine x_getR E h (fr_mo_rule g) rfl hwX12 (by decide) (by decide +kernel) dX12_atFirst_21 ?_
  refine lv_iload_n hx hb dX12_atFirst_24 rfl (lv_at hl 1 rfl) ?_
  refine lv_iconst (v := 2) hx hb dX12_atFirst_25 (by decide) ?_
  refine lv_iadd hx hb dX12_atFirst_26 ?_
  refine x_topI (v2 := 8) (by decide) ?_
  replace hR := bd_to hR (show (6 : Int32) + (2 : Int32) = 8 by decide)
  refine lv_bipush (v := 40) hx hb dX12_atFirst_27 (by decide) ?_
  refine y_stI E h hI2 hF2 (ia_mo_rule g) (i := nI 8) (vp_in_nI (by omega) (by decide)) (j := 8) (nI_clamp (by omega)) (ba_none rfl) rfl dX12_atFirst_29 (fun s3 H locs q3 hI3 hF3 h => ?_)
  replace hR := st_to hR (nI_clamp (n := 8) (by omega)) q3
  refine lv_aload_n hx hb dX12_atFirst_30 rfl (lv_at hl 0 rfl) ?_
  refine x_getR E h (fr_mo_rule g) rfl hwX12 (by decide) (by decide +kernel) dX12_atFirst_31 ?_
  refine lv_iload_n hx hb dX12_atFirst_34 rfl (lv_at hl 1 rfl) ?_
  refine lv_iconst (v := 3) hx hb dX12_atFirst_35 (by decide) ?_
  refine lv_iadd hx hb dX12_atFirst_36 ?_
  refine x_topI (v2 := 9) (by decide) ?_
  replace hR := bd_to hR (show (6 : Int32) + (3 : Int32) = 9 by decide)
  refine lv_iconst (v := 0) hx hb dX12_atFirst_37 (by decide) ?_
  refine y_stI E h hI3 hF3 (ia_mo_rule g) (i := nI 9) (vp_in_nI (by omega) (by decide)) (j := 9) (nI_clamp (by omega)) (ba_none rfl) rfl dX12_atFirst_38 (fun s4 H locs q4 hI4 hF4 h => ?_)
  replace hR := st_to hR (nI_clamp (n := 9) (by omega)) q4
  refine lv_aload_n hx hb dX12_atFirst_39 rfl (lv_at hl 0 rfl) ?_
  refine x_getR E h (fr_mo_rule g) rfl hwX12 (by decide) (by decide +kernel) dX12_atFirst_40 ?_
  refine lv_iload_n hx hb dX12_atFirst_43 rfl (lv_at hl 1 rfl) ?_
  refine lv_iconst (v := 4) hx hb dX12_atFirst_44 (by decide) ?_
  refine lv_iadd hx hb dX12_atFirst_45 ?_
  refine x_topI (v2 := 10) (by decide) ?_
  replace hR := bd_to hR (show (6 : Int32) + (4 : Int32) = 10 by decide)
  refine lv_iconst (v := 0) hx hb dX12_atFirst_46 (by decide) ?_
  refine y_stI E h hI4 hF4 (ia_mo_rule g) (i := nI 10) (vp_in_nI (by omega) (by decide)) (j := 10) (nI_clamp (by omega)) (ba_none rfl) rfl dX12_atFirst_47 (fun s5 H locs q5 hI5 hF5 h => ?_)
  replace hR := st_to hR (nI_clamp (n := 10) (by omega)) q5
  refine lv_aload_n hx hb dX12_atFirst_48 rfl (lv_at hl 0 rfl) ?_
  refine x_getR E h (fr_mo_rule g) rfl hwX12 (by decide) (by decide +kernel) dX12_atFirst_49 ?_
  refine lv_iload_n hx hb dX12_atFirst_52 rfl (lv_at hl 1 rfl) ?_
  refine lv_iconst (v := 5) hx hb dX12_atFirst_53 (by decide) ?_
  refine lv_iadd hx hb dX12_atFirst_54 ?_
  refine x_topI (v2 := 11) (by decide) ?_
  replace hR := bd_to hR (show (6 : Int32) + (5 : Int32) = 11 by decide)
  refine lv_bipush (v := 10) hx hb dX12_atFirst_55 (by decide) ?_
  refine y_stI E h hI5 hF5 (ia_mo_rule g) (i := nI 11) (vp_in_nI (by omega) (by decide)) (j := 11) (nI_clamp (by omega)) (ba_none rfl) rfl dX12_atFirst_57 (fun s6 H locs q6 hI6 hF6 h => ?_)
  replace hR := st_to hR (nI_clamp (n := 11) (by omega)) q6
  subst hPQ
  exact x_vret E h ⟨hR0.trans hR.symm, hI6, hF6⟩ dX12_atFirst_58
set_option maxHeartbeats 4000000 in
set_option maxRecDepth 100000 in
theorem aX12_here_0 (l : Launch) (g : CX) (σ : ST) (hI : INV σ)  : XM l g yX12_here wsX12_here { frames := 0, cells := 0, slots := 0, locals := 0 } [.ref (g.2.1 79)] σ (XQi g (fun r σ' => fX12_here_0 σ = r ∧ (((-1) = r) ∨ (∃ a T n : Nat, σ.1 26 = nI a ∧ σ.1 25 = nI T ∧ T ≤ 200 ∧ a < T ∧ n < 256 ∧ r = nI n)) ∧ σ = σ')) := by
  refine x_met (own := RX12) (cc := cX12_here) (maxL := 1) (ret := (some .int)) (lv := [(0, .ref (g.2.1 79))]) (by decide) rfl rfl (Nat.le_of_ble_eq_true rfl) rfl ?_
  intro p e s m args below meth c ls E h hl
  have hx := E.1
  have hb := E.2.1
  have hown := E.2.2.2.1
  have hts := E.2.2.2.2.1
  obtain ⟨R, hR0⟩ : ∃ R, fX12_here_0 σ = R := ⟨_, rfl⟩
  have hR : fX12_here_0b0 σ = R := hR0
  have hwX12 : ∀ w ∈ wsX120, w ∈ wsX12_here := by decide +kernel
  generalize hPQ : XQi g (fun r σ' => fX12_here_0 σ = r ∧ (((-1) = r) ∨ (∃ a T n : Nat, σ.1 26 = nI a ∧ σ.1 25 = nI T ∧ T ≤ 200 ∧ a < T ∧ n < 256 ∧ r = nI n)) ∧ σ = σ') = PQz
  refine lv_aload_n hx hb dX12_here_0 rfl (lv_at hl 0 rfl) ?_
  obtain ⟨n1, b1, e1⟩ := hI.1 26 200 rfl
  refine x_getI E h (fi_mo_at g) rfl hwX12 (by decide) (by decide +kernel) (v := nI n1) e1 dX12_here_1 ?_
  replace hR := bd_to hR e1
  refine lv_aload_n hx hb dX12_here_4 rfl (lv_at hl 0 rfl) ?_
  obtain ⟨n2, b2, e2⟩ := hI.1 25 200 rfl
  refine x_getI E h (fi_mo_typed g) rfl hwX12 (by decide) (by decide +kernel) (v := nI n2) e2 dX12_here_5 ?_
  replace hR := bd_to hR e2
  refine lv_icmp_ge (tgt := 27) hx hb dX12_here_8 (by decide) (fun c3 => ?_) (fun c3 => ?_)
  · skip
    replace hR := it_t hR c3
    have b4 : n2 ≤ n1 := y_le (a := n2) (b := n1) (by omega) (by omega) c3
    refine lv_iconst (v := (-1)) hx hb dX12_here_27 (by decide) ?_
    replace hR : fX12_here_0b28 (-1) σ = R := hR
    subst hPQ
    exact x_iret E h ⟨hR0.trans hR.symm, (Or.inl rfl), rfl⟩ dX12_here_28
  · skip
    replace hR := it_f hR c3
    have b5 : n1 < n2 := y_nle (a := n2) (b := n1) (by omega) (by omega) c3
    refine lv_aload_n hx hb dX12_here_11 rfl (lv_at hl 0 rfl) ?_
    refine x_getR E h (fr_mo_text g) rfl hwX12 (by decide) (by decide +kernel) dX12_here_12 ?_
    refine lv_aload_n hx hb dX12_here_15 rfl (lv_at hl 0 rfl) ?_
    refine x_getI E h (fi_mo_at g) rfl hwX12 (by decide) (by decide +kernel) (v := nI n1) e1 dX12_here_16 ?_
    replace hR := bd_to hR e1
    refine x_ldB E h (ia_mo_text g) (i := nI n1) (vp_in_nI (by omega) (by decide)) (v := σ.2.2 67 n1) (congrArg (σ.2.2 67) (nI_clamp (n := n1) (by omega))) dX12_here_19 ?_
    replace hR := bd_to hR (congrArg (σ.2.2 67) (nI_clamp (n := n1) (by omega)))
    refine lv_sipush (v := 255) hx hb dX12_here_20 (by decide) ?_
    refine lv_iand hx hb dX12_here_23 ?_
    obtain ⟨n6, b6, e6⟩ := pk_andE (σ.2.2 67 n1) (m := 255) 8 (by decide)
    refine x_topI (v2 := nI n6) e6 ?_
    replace hR := bd_to hR e6
    refine lv_goto (tgt := 28) hx hb dX12_here_24 (by decide) ?_
    subst hPQ
    exact x_iret E h ⟨hR0.trans hR.symm, (Or.inr (⟨n1, n2, n6, e1, e2, (by omega), (by omega), (by omega), rfl⟩)), rfl⟩ dX12_here_28
set_option maxHeartbeats 4000000 in
set_option maxRecDepth 100000 in
theorem aX12_more_0 (l : Launch) (g : CX) (σ : ST) (hI : INV σ) (p0 : Int64) (p1 : Int32) : XM l g yX12_more wsX12_more { frames := 0, cells := 0, slots := 0, locals := 0 } [.long p0, .int p1] σ (XQl g (fun r σ' => fX12_more_0 p0 p1 σ = r ∧ σ = σ')) := by
  refine x_met (own := RX12) (cc := cX12_more) (maxL := 3) (ret := (some .long)) (lv := [(0, .long p0), (2, .int p1)]) (by decide) rfl rfl (Nat.le_of_ble_eq_true rfl) rfl ?_
  intro p e s m args below meth c ls E h hl
  have hx := E.1
  have hb := E.2.1
  have hown := E.2.2.2.1
  have hts := E.2.2.2.2.1
  obtain ⟨R, hR0⟩ : ∃ R, fX12_more_0 p0 p1 σ = R := ⟨_, rfl⟩
  have hR : fX12_more_0b0 p0 p1 σ = R := hR0
  generalize hPQ : XQl g (fun r σ' => fX12_more_0 p0 p1 σ = r ∧ σ = σ') = PQz
  refine lv_iload_n hx hb dX12_more_0 rfl (lv_at hl 1 rfl) ?_
  refine lv_if_ne (tgt := 8) hx hb dX12_more_1 (by decide) (fun c1 => ?_) (fun c1 => ?_)
  · skip
    replace hR := it_f hR c1
    refine lv_lload_n hx hb dX12_more_8 rfl (lv_at hl 0 rfl) ?_
    refine lv_ldc2 (v := 27) hx hb hown (hts (.constantLong RX12 113 (27)) (by decide +kernel)) dX12_more_9 ?_
    refine lv_lmul hx hb dX12_more_12 ?_
    refine lv_topl (fun y3 e3 => ?_)
    replace hR := bd_to hR e3.symm
    refine lv_iload_n hx hb dX12_more_13 rfl (lv_at hl 1 rfl) ?_
    refine lv_i2l hx hb dX12_more_14 rfl ?_
    refine lv_topl (fun y4 e4 => ?_)
    replace hR := bd_to hR e4.symm
    refine lv_ladd hx hb dX12_more_15 ?_
    refine lv_topl (fun y5 e5 => ?_)
    replace hR := bd_to hR e5.symm
    refine lv_ldc2 (v := 97) hx hb hown (hts (.constantLong RX12 115 (97)) (by decide +kernel)) dX12_more_16 ?_
    refine lv_lsub hx hb dX12_more_19 ?_
    refine lv_topl (fun y6 e6 => ?_)
    replace hR := bd_to hR e6.symm
    refine lv_lconst (v := 1) hx hb dX12_more_20 (by decide) ?_
    refine lv_ladd hx hb dX12_more_21 ?_
    refine lv_topl (fun y7 e7 => ?_)
    replace hR := bd_to hR e7.symm
    subst hPQ
    exact x_lret E h ⟨hR0.trans hR.symm, rfl⟩ dX12_more_22
  · skip
    replace hR := it_t hR c1
    refine lv_lload_n hx hb dX12_more_4 rfl (lv_at hl 0 rfl) ?_
    refine lv_goto (tgt := 22) hx hb dX12_more_5 (by decide) ?_
    replace hR : fX12_more_0b22 p0 σ = R := hR
    subst hPQ
    exact x_lret E h ⟨hR0.trans hR.symm, rfl⟩ dX12_more_22
set_option maxHeartbeats 4000000 in
set_option maxRecDepth 100000 in
theorem aX12_code_0 (l : Launch) (g : CX) (σ : ST) (hI : INV σ) (p0 : Int32) (p1 : Int32) (p2 : Int32) (p3 : Int32) (p4 : Int32) : XM l g yX12_code wsX12_code { frames := 1, cells := 0, slots := 0, locals := 22 } [.int p0, .int p1, .int p2, .int p3, .int p4] σ (XQl g (fun r σ' => fX12_code_0 p0 p1 p2 p3 p4 σ = r ∧ σ = σ')) := by
  refine x_met (own := RX12) (cc := cX12_code) (maxL := 5) (ret := (some .long)) (lv := [(0, .int p0), (1, .int p1), (2, .int p2), (3, .int p3), (4, .int p4)]) (by decide) rfl rfl (Nat.le_of_ble_eq_true rfl) rfl ?_
  intro p e s m args below meth c ls E h hl
  have hx := E.1
  have hb := E.2.1
  have hown := E.2.2.2.1
  have hts := E.2.2.2.2.1
  obtain ⟨R, hR0⟩ : ∃ R, fX12_code_0 p0 p1 p2 p3 p4 σ = R := ⟨_, rfl⟩
  have hR : fX12_code_0b0 p0 p1 p2 p3 p4 σ = R := hR0
  generalize hPQ : XQl g (fun r σ' => fX12_code_0 p0 p1 p2 p3 p4 σ = r ∧ σ = σ') = PQz
  refine lv_lconst (v := 0) hx hb dX12_code_0 (by decide) ?_
  refine lv_iload_n hx hb dX12_code_1 rfl (lv_at hl 0 rfl) ?_
  refine x_sl E h (na := 2) (As := [.long 0, .int p0]) (aX12_more_0 l g σ hI 0 p0) gX12_code_X12_more rfl ⟨rfl, rfl⟩ rfl (by decide +kernel) ⟨Nat.le_of_ble_eq_true rfl, Nat.le_of_ble_eq_true rfl⟩ hl.1 rfl (Nat.le_of_ble_eq_true rfl) dX12_code_2 ⟨Nat.le_of_ble_eq_true rfl, Nat.le_of_ble_eq_true rfl⟩ (fun r1 s1 H locs q1 h => ?_)
  obtain ⟨x1, rfl⟩ := q1
  replace hR := bd_to hR x1
  refine lv_iload_n hx hb dX12_code_5 rfl (lv_at hl 1 rfl) ?_
  refine x_sl E h (na := 2) (As := [.long r1, .int p1]) (aX12_more_0 l g σ hI r1 p1) gX12_code_X12_more rfl ⟨rfl, rfl⟩ rfl (by decide +kernel) ⟨Nat.le_of_ble_eq_true rfl, Nat.le_of_ble_eq_true rfl⟩ hl.1 rfl (Nat.le_of_ble_eq_true rfl) dX12_code_6 ⟨Nat.le_of_ble_eq_true rfl, Nat.le_of_ble_eq_true rfl⟩ (fun r2 s2 H locs q2 h => ?_)
  obtain ⟨x2, rfl⟩ := q2
  replace hR := bd_to hR x2
  refine lv_iload_n hx hb dX12_code_9 rfl (lv_at hl 2 rfl) ?_
  refine x_sl E h (na := 2) (As := [.long r2, .int p2]) (aX12_more_0 l g σ hI r2 p2) gX12_code_X12_more rfl ⟨rfl, rfl⟩ rfl (by decide +kernel) ⟨Nat.le_of_ble_eq_true rfl, Nat.le_of_ble_eq_true rfl⟩ hl.1 rfl (Nat.le_of_ble_eq_true rfl) dX12_code_10 ⟨Nat.le_of_ble_eq_true rfl, Nat.le_of_ble_eq_true rfl⟩ (fun r3 s3 H locs q3 h => ?_)
  obtain ⟨x3, rfl⟩ := q3
  replace hR := bd_to hR x3
  refine lv_iload_n hx hb dX12_code_13 rfl (lv_at hl 3 rfl) ?_
  refine x_sl E h (na := 2) (As := [.long r3, .int p3]) (aX12_more_0 l g σ hI r3 p3) gX12_code_X12_more rfl ⟨rfl, rfl⟩ rfl (by decide +kernel) ⟨Nat.le_of_ble_eq_true rfl, Nat.le_of_ble_eq_true rfl⟩ hl.1 rfl (Nat.le_of_ble_eq_true rfl) dX12_code_14 ⟨Nat.le_of_ble_eq_true rfl, Nat.le_of_ble_eq_true rfl⟩ (fun r4 s4 H locs q4 h => ?_)
  obtain ⟨x4, rfl⟩ := q4
  replace hR := bd_to hR x4
  refine lv_iload hx hb dX12_code_17 (lv_at hl 4 rfl) ?_
  refine x_sl E h (na := 2) (As := [.long r4, .int p4]) (aX12_more_0 l g σ hI r4 p4) gX12_code_X12_more rfl ⟨rfl, rfl⟩ rfl (by decide +kernel) ⟨Nat.le_of_ble_eq_true rfl, Nat.le_of_ble_eq_true rfl⟩ hl.1 rfl (Nat.le_of_ble_eq_true rfl) dX12_code_19 ⟨Nat.le_of_ble_eq_true rfl, Nat.le_of_ble_eq_true rfl⟩ (fun r5 s5 H locs q5 h => ?_)
  obtain ⟨x5, rfl⟩ := q5
  replace hR := bd_to hR x5
  subst hPQ
  exact x_lret E h ⟨hR0.trans hR.symm, rfl⟩ dX12_code_22
set_option maxHeartbeats 4000000 in
set_option maxRecDepth 100000 in
theorem aX12_wordOf_0 (l : Launch) (g : CX) (σ : ST) (hI : INV σ) (p1 : Nat) (p2 : Nat) (hh0 : p1 ≤ p2) (hh1 : p2 ≤ 200) : XM l g yX12_wordOf wsX12_wordOf { frames := 2, cells := 0, slots := 0, locals := 46 } [.ref (g.2.1 79), .int (nI p1), .int (nI p2)] σ (XQi g (fun r σ' => fX12_wordOf_0 (nI p1) (nI p2) σ = r ∧ Opt (-9) 6 r ∧ σ = σ')) := by
  refine x_met (own := RX12) (cc := cX12_wordOf) (maxL := 6) (ret := (some .int)) (lv := [(0, .ref (g.2.1 79)), (1, .int (nI p1)), (2, .int (nI p2))]) (by decide) rfl rfl (Nat.le_of_ble_eq_true rfl) rfl ?_
  intro p e s m args below meth c ls E h hl
  have hx := E.1
  have hb := E.2.1
  have hown := E.2.2.2.1
  have hts := E.2.2.2.2.1
  obtain ⟨R, hR0⟩ : ∃ R, fX12_wordOf_0 (nI p1) (nI p2) σ = R := ⟨_, rfl⟩
  have hR : fX12_wordOf_0b0 (nI p1) (nI p2) σ = R := hR0
  have hwX12 : ∀ w ∈ wsX120, w ∈ wsX12_wordOf := by decide +kernel
  generalize hPQ : XQi g (fun r σ' => fX12_wordOf_0 (nI p1) (nI p2) σ = r ∧ Opt (-9) 6 r ∧ σ = σ') = PQz
  refine lv_lconst (v := 0) hx hb dX12_wordOf_0 (by decide) ?_
  refine lv_lstore_n (lv' := [(3, .long 0), (0, .ref (g.2.1 79)), (1, .int (nI p1)), (2, .int (nI p2))]) hx hb dX12_wordOf_1 rfl hl (by decide) rfl (fun ls hl => ?_)
  refine lv_iload_n hx hb dX12_wordOf_2 rfl (lv_at hl 2 rfl) ?_
  refine lv_istore (lv' := [(5, .int (nI p1)), (3, .long 0), (0, .ref (g.2.1 79)), (1, .int (nI p1)), (2, .int (nI p2))]) hx hb dX12_wordOf_3 hl (by decide) rfl (fun ls hl => ?_)
  have loop5_1 : ∀ (fu : Nat) (i1_5 : Nat) (i1_3 : Int64), i1_5 ≤ p2 → fX12_wordOf_0l5 fu (nI p1) (nI p2) i1_3 (nI i1_5) σ = R → p2 - i1_5 < fu → ∀ (H : Heap) (locs : List Loc) (ls : Array Slot), HW g σ s H locs → lv_has ls 6 [(5, .int (nI i1_5)), (3, .long i1_3), (0, .ref (g.2.1 79)), (1, .int (nI p1)), (2, .int (nI p2))] → W p l e { frames := 2, cells := 0, slots := 0, locals := 46 } s m args below meth c H locs 0 0 (MQ below PQz args s 0 0 (Aw g)) (F0 m 5 ls []) := by
    intro fu1
    induction fu1 with
    | zero => intro i1_5 i1_3 bi1_5 hR1 hm; exact absurd hm (Nat.not_lt_zero _)
    | succ fu1 ih =>
      have ih1 := ih
      clear ih
      intro i1_5 i1_3 bi1_5 hR1 hm1 H locs ls h hl
      replace hR1 : fX12_wordOf_0b5 (fX12_wordOf_0l5 fu1) (nI p1) (nI p2) i1_3 (nI i1_5) σ = R := hR1
      refine lv_iload hx hb dX12_wordOf_5 (lv_at hl 0 rfl) ?_
      refine lv_iload_n hx hb dX12_wordOf_7 rfl (lv_at hl 4 rfl) ?_
      refine lv_icmp_ge (tgt := 38) hx hb dX12_wordOf_8 (by decide) (fun c2 => ?_) (fun c2 => ?_)
      · skip
        replace hR1 := it_t hR1 c2
        have b3 : p2 ≤ i1_5 := y_le (a := p2) (b := i1_5) (by omega) (by omega) c2
        refine lv_bipush (v := (-9)) hx hb dX12_wordOf_38 (by decide) ?_
        refine lv_istore (lv' := [(5, .int (-9)), (3, .long i1_3), (0, .ref (g.2.1 79)), (1, .int (nI p1)), (2, .int (nI p2))]) hx hb dX12_wordOf_40 hl (by decide) rfl (fun ls hl => ?_)
        refine lv_lload_n hx hb dX12_wordOf_42 rfl (lv_at hl 1 rfl) ?_
        refine lv_bipush (v := 112) hx hb dX12_wordOf_43 (by decide) ?_
        refine lv_bipush (v := 114) hx hb dX12_wordOf_45 (by decide) ?_
        refine lv_bipush (v := 105) hx hb dX12_wordOf_47 (by decide) ?_
        refine lv_bipush (v := 99) hx hb dX12_wordOf_49 (by decide) ?_
        refine lv_bipush (v := 101) hx hb dX12_wordOf_51 (by decide) ?_
        refine x_sl E h (na := 5) (As := [.int 112, .int 114, .int 105, .int 99, .int 101]) (aX12_code_0 l g σ hI 112 114 105 99 101) gX12_wordOf_X12_code rfl ⟨rfl, rfl⟩ rfl (by decide +kernel) ⟨Nat.le_of_ble_eq_true rfl, Nat.le_of_ble_eq_true rfl⟩ hl.1 rfl (Nat.le_of_ble_eq_true rfl) dX12_wordOf_53 ⟨Nat.le_of_ble_eq_true rfl, Nat.le_of_ble_eq_true rfl⟩ (fun r4 s4 H locs q4 h => ?_)
        obtain ⟨x4, rfl⟩ := q4
        replace hR1 := bd_to hR1 x4
        refine W.lcmp hx hb dX12_wordOf_56 ?_
        refine lv_topi (fun x5 e5 => ?_)
        replace hR1 := bd_to hR1 e5.symm
        have j66_8 : ∀ (y8_s0 : Int32), Opt (-9) 6 y8_s0 → fX12_wordOf_0b66 (nI p1) (nI p2) i1_3 y8_s0 σ = R → ∀ (H : Heap) (locs : List Loc) (ls : Array Slot), HW g σ s H locs → lv_has ls 6 [(5, .int (-9)), (3, .long i1_3), (0, .ref (g.2.1 79)), (1, .int (nI p1)), (2, .int (nI p2))] → W p l e { frames := 2, cells := 0, slots := 0, locals := 46 } s m args below meth c H locs 0 0 (MQ below PQz args s 0 0 (Aw g)) (F0 m 66 ls [.int y8_s0]) := by
          intro y8_s0 oy8_s0 hR8 H locs ls h hl
          refine lv_istore (lv' := [(5, .int y8_s0), (3, .long i1_3), (0, .ref (g.2.1 79)), (1, .int (nI p1)), (2, .int (nI p2))]) hx hb dX12_wordOf_66 hl (by decide) rfl (fun ls hl => ?_)
          refine lv_lload_n hx hb dX12_wordOf_68 rfl (lv_at hl 1 rfl) ?_
          refine lv_bipush (v := 104) hx hb dX12_wordOf_69 (by decide) ?_
          refine lv_bipush (v := 117) hx hb dX12_wordOf_71 (by decide) ?_
          refine lv_bipush (v := 115) hx hb dX12_wordOf_73 (by decide) ?_
          refine lv_bipush (v := 104) hx hb dX12_wordOf_75 (by decide) ?_
          refine lv_iconst (v := 0) hx hb dX12_wordOf_77 (by decide) ?_
          refine x_sl E h (na := 5) (As := [.int 104, .int 117, .int 115, .int 104, .int 0]) (aX12_code_0 l g σ hI 104 117 115 104 0) gX12_wordOf_X12_code rfl ⟨rfl, rfl⟩ rfl (by decide +kernel) ⟨Nat.le_of_ble_eq_true rfl, Nat.le_of_ble_eq_true rfl⟩ hl.1 rfl (Nat.le_of_ble_eq_true rfl) dX12_wordOf_78 ⟨Nat.le_of_ble_eq_true rfl, Nat.le_of_ble_eq_true rfl⟩ (fun r9 s9 H locs q9 h => ?_)
          obtain ⟨x9, rfl⟩ := q9
          replace hR8 := bd_to hR8 x9
          refine W.lcmp hx hb dX12_wordOf_81 ?_
          refine lv_topi (fun x10 e10 => ?_)
          replace hR8 := bd_to hR8 e10.symm
          have j91_13 : ∀ (y13_s0 : Int32), Opt (-9) 6 y13_s0 → fX12_wordOf_0b91 (nI p1) (nI p2) i1_3 y13_s0 σ = R → ∀ (H : Heap) (locs : List Loc) (ls : Array Slot), HW g σ s H locs → lv_has ls 6 [(5, .int y8_s0), (3, .long i1_3), (0, .ref (g.2.1 79)), (1, .int (nI p1)), (2, .int (nI p2))] → W p l e { frames := 2, cells := 0, slots := 0, locals := 46 } s m args below meth c H locs 0 0 (MQ below PQz args s 0 0 (Aw g)) (F0 m 91 ls [.int y13_s0]) := by
            intro y13_s0 oy13_s0 hR13 H locs ls h hl
            refine lv_istore (lv' := [(5, .int y13_s0), (3, .long i1_3), (0, .ref (g.2.1 79)), (1, .int (nI p1)), (2, .int (nI p2))]) hx hb dX12_wordOf_91 hl (by decide) rfl (fun ls hl => ?_)
            refine lv_lload_n hx hb dX12_wordOf_93 rfl (lv_at hl 1 rfl) ?_
            refine lv_bipush (v := 108) hx hb dX12_wordOf_94 (by decide) ?_
            refine lv_bipush (v := 105) hx hb dX12_wordOf_96 (by decide) ?_
            refine lv_bipush (v := 107) hx hb dX12_wordOf_98 (by decide) ?_
            refine lv_bipush (v := 101) hx hb dX12_wordOf_100 (by decide) ?_
            refine lv_iconst (v := 0) hx hb dX12_wordOf_102 (by decide) ?_
            refine x_sl E h (na := 5) (As := [.int 108, .int 105, .int 107, .int 101, .int 0]) (aX12_code_0 l g σ hI 108 105 107 101 0) gX12_wordOf_X12_code rfl ⟨rfl, rfl⟩ rfl (by decide +kernel) ⟨Nat.le_of_ble_eq_true rfl, Nat.le_of_ble_eq_true rfl⟩ hl.1 rfl (Nat.le_of_ble_eq_true rfl) dX12_wordOf_103 ⟨Nat.le_of_ble_eq_true rfl, Nat.le_of_ble_eq_true rfl⟩ (fun r14 s14 H locs q14 h => ?_)
            obtain ⟨x14, rfl⟩ := q14
            replace hR13 := bd_to hR13 x14
            refine W.lcmp hx hb dX12_wordOf_106 ?_
            refine lv_topi (fun x15 e15 => ?_)
            replace hR13 := bd_to hR13 e15.symm
            have j116_18 : ∀ (y18_s0 : Int32), Opt (-9) 6 y18_s0 → fX12_wordOf_0b116 (nI p1) (nI p2) i1_3 y18_s0 σ = R → ∀ (H : Heap) (locs : List Loc) (ls : Array Slot), HW g σ s H locs → lv_has ls 6 [(5, .int y13_s0), (3, .long i1_3), (0, .ref (g.2.1 79)), (1, .int (nI p1)), (2, .int (nI p2))] → W p l e { frames := 2, cells := 0, slots := 0, locals := 46 } s m args below meth c H locs 0 0 (MQ below PQz args s 0 0 (Aw g)) (F0 m 116 ls [.int y18_s0]) := by
              intro y18_s0 oy18_s0 hR18 H locs ls h hl
              refine lv_istore (lv' := [(5, .int y18_s0), (3, .long i1_3), (0, .ref (g.2.1 79)), (1, .int (nI p1)), (2, .int (nI p2))]) hx hb dX12_wordOf_116 hl (by decide) rfl (fun ls hl => ?_)
              refine lv_lload_n hx hb dX12_wordOf_118 rfl (lv_at hl 1 rfl) ?_
              refine lv_bipush (v := 110) hx hb dX12_wordOf_119 (by decide) ?_
              refine lv_bipush (v := 101) hx hb dX12_wordOf_121 (by decide) ?_
              refine lv_bipush (v := 97) hx hb dX12_wordOf_123 (by decide) ?_
              refine lv_bipush (v := 114) hx hb dX12_wordOf_125 (by decide) ?_
              refine lv_iconst (v := 0) hx hb dX12_wordOf_127 (by decide) ?_
              refine x_sl E h (na := 5) (As := [.int 110, .int 101, .int 97, .int 114, .int 0]) (aX12_code_0 l g σ hI 110 101 97 114 0) gX12_wordOf_X12_code rfl ⟨rfl, rfl⟩ rfl (by decide +kernel) ⟨Nat.le_of_ble_eq_true rfl, Nat.le_of_ble_eq_true rfl⟩ hl.1 rfl (Nat.le_of_ble_eq_true rfl) dX12_wordOf_128 ⟨Nat.le_of_ble_eq_true rfl, Nat.le_of_ble_eq_true rfl⟩ (fun r19 s19 H locs q19 h => ?_)
              obtain ⟨x19, rfl⟩ := q19
              replace hR18 := bd_to hR18 x19
              refine W.lcmp hx hb dX12_wordOf_131 ?_
              refine lv_topi (fun x20 e20 => ?_)
              replace hR18 := bd_to hR18 e20.symm
              have j141_23 : ∀ (y23_s0 : Int32), Opt (-9) 6 y23_s0 → fX12_wordOf_0b141 (nI p1) (nI p2) i1_3 y23_s0 σ = R → ∀ (H : Heap) (locs : List Loc) (ls : Array Slot), HW g σ s H locs → lv_has ls 6 [(5, .int y18_s0), (3, .long i1_3), (0, .ref (g.2.1 79)), (1, .int (nI p1)), (2, .int (nI p2))] → W p l e { frames := 2, cells := 0, slots := 0, locals := 46 } s m args below meth c H locs 0 0 (MQ below PQz args s 0 0 (Aw g)) (F0 m 141 ls [.int y23_s0]) := by
                intro y23_s0 oy23_s0 hR23 H locs ls h hl
                refine lv_istore (lv' := [(5, .int y23_s0), (3, .long i1_3), (0, .ref (g.2.1 79)), (1, .int (nI p1)), (2, .int (nI p2))]) hx hb dX12_wordOf_141 hl (by decide) rfl (fun ls hl => ?_)
                refine lv_lload_n hx hb dX12_wordOf_143 rfl (lv_at hl 1 rfl) ?_
                refine lv_bipush (v := 116) hx hb dX12_wordOf_144 (by decide) ?_
                refine lv_bipush (v := 117) hx hb dX12_wordOf_146 (by decide) ?_
                refine lv_bipush (v := 114) hx hb dX12_wordOf_148 (by decide) ?_
                refine lv_bipush (v := 110) hx hb dX12_wordOf_150 (by decide) ?_
                refine lv_iconst (v := 0) hx hb dX12_wordOf_152 (by decide) ?_
                refine x_sl E h (na := 5) (As := [.int 116, .int 117, .int 114, .int 110, .int 0]) (aX12_code_0 l g σ hI 116 117 114 110 0) gX12_wordOf_X12_code rfl ⟨rfl, rfl⟩ rfl (by decide +kernel) ⟨Nat.le_of_ble_eq_true rfl, Nat.le_of_ble_eq_true rfl⟩ hl.1 rfl (Nat.le_of_ble_eq_true rfl) dX12_wordOf_153 ⟨Nat.le_of_ble_eq_true rfl, Nat.le_of_ble_eq_true rfl⟩ (fun r24 s24 H locs q24 h => ?_)
                obtain ⟨x24, rfl⟩ := q24
                replace hR23 := bd_to hR23 x24
                refine W.lcmp hx hb dX12_wordOf_156 ?_
                refine lv_topi (fun x25 e25 => ?_)
                replace hR23 := bd_to hR23 e25.symm
                have j166_28 : ∀ (y28_s0 : Int32), Opt (-9) 6 y28_s0 → fX12_wordOf_0b166 (nI p1) (nI p2) i1_3 y28_s0 σ = R → ∀ (H : Heap) (locs : List Loc) (ls : Array Slot), HW g σ s H locs → lv_has ls 6 [(5, .int y23_s0), (3, .long i1_3), (0, .ref (g.2.1 79)), (1, .int (nI p1)), (2, .int (nI p2))] → W p l e { frames := 2, cells := 0, slots := 0, locals := 46 } s m args below meth c H locs 0 0 (MQ below PQz args s 0 0 (Aw g)) (F0 m 166 ls [.int y28_s0]) := by
                  intro y28_s0 oy28_s0 hR28 H locs ls h hl
                  refine lv_istore (lv' := [(5, .int y28_s0), (3, .long i1_3), (0, .ref (g.2.1 79)), (1, .int (nI p1)), (2, .int (nI p2))]) hx hb dX12_wordOf_166 hl (by decide) rfl (fun ls hl => ?_)
                  refine lv_lload_n hx hb dX12_wordOf_168 rfl (lv_at hl 1 rfl) ?_
                  refine lv_bipush (v := 116) hx hb dX12_wordOf_169 (by decide) ?_
                  refine lv_bipush (v := 119) hx hb dX12_wordOf_171 (by decide) ?_
                  refine lv_bipush (v := 105) hx hb dX12_wordOf_173 (by decide) ?_
                  refine lv_bipush (v := 99) hx hb dX12_wordOf_175 (by decide) ?_
                  refine lv_bipush (v := 101) hx hb dX12_wordOf_177 (by decide) ?_
                  refine x_sl E h (na := 5) (As := [.int 116, .int 119, .int 105, .int 99, .int 101]) (aX12_code_0 l g σ hI 116 119 105 99 101) gX12_wordOf_X12_code rfl ⟨rfl, rfl⟩ rfl (by decide +kernel) ⟨Nat.le_of_ble_eq_true rfl, Nat.le_of_ble_eq_true rfl⟩ hl.1 rfl (Nat.le_of_ble_eq_true rfl) dX12_wordOf_179 ⟨Nat.le_of_ble_eq_true rfl, Nat.le_of_ble_eq_true rfl⟩ (fun r29 s29 H locs q29 h => ?_)
                  obtain ⟨x29, rfl⟩ := q29
                  replace hR28 := bd_to hR28 x29
                  refine W.lcmp hx hb dX12_wordOf_182 ?_
                  refine lv_topi (fun x30 e30 => ?_)
                  replace hR28 := bd_to hR28 e30.symm
                  have j192_33 : ∀ (y33_s0 : Int32), Opt (-9) 6 y33_s0 → fX12_wordOf_0b192 (nI p1) (nI p2) y33_s0 σ = R → ∀ (H : Heap) (locs : List Loc) (ls : Array Slot), HW g σ s H locs → lv_has ls 6 [(5, .int y28_s0), (3, .long i1_3), (0, .ref (g.2.1 79)), (1, .int (nI p1)), (2, .int (nI p2))] → W p l e { frames := 2, cells := 0, slots := 0, locals := 46 } s m args below meth c H locs 0 0 (MQ below PQz args s 0 0 (Aw g)) (F0 m 192 ls [.int y33_s0]) := by
                    intro y33_s0 oy33_s0 hR33 H locs ls h hl
                    refine lv_istore (lv' := [(5, .int y33_s0), (3, .long i1_3), (0, .ref (g.2.1 79)), (1, .int (nI p1)), (2, .int (nI p2))]) hx hb dX12_wordOf_192 hl (by decide) rfl (fun ls hl => ?_)
                    refine lv_iload_n hx hb dX12_wordOf_194 rfl (lv_at hl 4 rfl) ?_
                    refine lv_iload_n hx hb dX12_wordOf_195 rfl (lv_at hl 3 rfl) ?_
                    refine lv_isub hx hb dX12_wordOf_196 ?_
                    replace hR33 := bd_to hR33 rfl
                    refine lv_iconst (v := 5) hx hb dX12_wordOf_197 (by decide) ?_
                    refine lv_icmp_le (tgt := 206) hx hb dX12_wordOf_198 (by decide) (fun c34 => ?_) (fun c34 => ?_)
                    · skip
                      replace hR33 := it_t hR33 c34
                      refine lv_iload hx hb dX12_wordOf_206 (lv_at hl 0 rfl) ?_
                      replace hR33 : fX12_wordOf_0b208 y33_s0 σ = R := hR33
                      subst hPQ
                      exact x_iret E h ⟨hR0.trans hR33.symm, oy33_s0, rfl⟩ dX12_wordOf_208
                    · skip
                      replace hR33 := it_f hR33 c34
                      refine lv_bipush (v := (-9)) hx hb dX12_wordOf_201 (by decide) ?_
                      refine lv_goto (tgt := 208) hx hb dX12_wordOf_203 (by decide) ?_
                      replace hR33 : fX12_wordOf_0b208 (-9) σ = R := hR33
                      subst hPQ
                      exact x_iret E h ⟨hR0.trans hR33.symm, (Or.inl rfl), rfl⟩ dX12_wordOf_208
                  refine lv_if_ne (tgt := 190) hx hb dX12_wordOf_183 (by decide) (fun c31 => ?_) (fun c31 => ?_)
                  · skip
                    replace hR28 := it_f hR28 c31
                    refine lv_iload hx hb dX12_wordOf_190 (lv_at hl 0 rfl) ?_
                    exact j192_33 y28_s0 oy28_s0 hR28 _ _ _ h (lv_sub hl [0, 1, 2, 3, 4] rfl)
                  · skip
                    replace hR28 := it_t hR28 c31
                    subst c31
                    refine lv_iconst (v := 5) hx hb dX12_wordOf_186 (by decide) ?_
                    refine lv_goto (tgt := 192) hx hb dX12_wordOf_187 (by decide) ?_
                    exact j192_33 5 (Or.inr ⟨5, by omega, rfl⟩) hR28 _ _ _ h (lv_sub hl [0, 1, 2, 3, 4] rfl)
                refine lv_if_ne (tgt := 164) hx hb dX12_wordOf_157 (by decide) (fun c26 => ?_) (fun c26 => ?_)
                · skip
                  replace hR23 := it_f hR23 c26
                  refine lv_iload hx hb dX12_wordOf_164 (lv_at hl 0 rfl) ?_
                  exact j166_28 y23_s0 oy23_s0 hR23 _ _ _ h (lv_sub hl [0, 1, 2, 3, 4] rfl)
                · skip
                  replace hR23 := it_t hR23 c26
                  subst c26
                  refine lv_iconst (v := 4) hx hb dX12_wordOf_160 (by decide) ?_
                  refine lv_goto (tgt := 166) hx hb dX12_wordOf_161 (by decide) ?_
                  exact j166_28 4 (Or.inr ⟨4, by omega, rfl⟩) hR23 _ _ _ h (lv_sub hl [0, 1, 2, 3, 4] rfl)
              refine lv_if_ne (tgt := 139) hx hb dX12_wordOf_132 (by decide) (fun c21 => ?_) (fun c21 => ?_)
              · skip
                replace hR18 := it_f hR18 c21
                refine lv_iload hx hb dX12_wordOf_139 (lv_at hl 0 rfl) ?_
                exact j141_23 y18_s0 oy18_s0 hR18 _ _ _ h (lv_sub hl [0, 1, 2, 3, 4] rfl)
              · skip
                replace hR18 := it_t hR18 c21
                subst c21
                refine lv_iconst (v := 3) hx hb dX12_wordOf_135 (by decide) ?_
                refine lv_goto (tgt := 141) hx hb dX12_wordOf_136 (by decide) ?_
                exact j141_23 3 (Or.inr ⟨3, by omega, rfl⟩) hR18 _ _ _ h (lv_sub hl [0, 1, 2, 3, 4] rfl)
            refine lv_if_ne (tgt := 114) hx hb dX12_wordOf_107 (by decide) (fun c16 => ?_) (fun c16 => ?_)
            · skip
              replace hR13 := it_f hR13 c16
              refine lv_iload hx hb dX12_wordOf_114 (lv_at hl 0 rfl) ?_
              exact j116_18 y13_s0 oy13_s0 hR13 _ _ _ h (lv_sub hl [0, 1, 2, 3, 4] rfl)
            · skip
              replace hR13 := it_t hR13 c16
              subst c16
              refine lv_iconst (v := 2) hx hb dX12_wordOf_110 (by decide) ?_
              refine lv_goto (tgt := 116) hx hb dX12_wordOf_111 (by decide) ?_
              exact j116_18 2 (Or.inr ⟨2, by omega, rfl⟩) hR13 _ _ _ h (lv_sub hl [0, 1, 2, 3, 4] rfl)
          refine lv_if_ne (tgt := 89) hx hb dX12_wordOf_82 (by decide) (fun c11 => ?_) (fun c11 => ?_)
          · skip
            replace hR8 := it_f hR8 c11
            refine lv_iload hx hb dX12_wordOf_89 (lv_at hl 0 rfl) ?_
            exact j91_13 y8_s0 oy8_s0 hR8 _ _ _ h (lv_sub hl [0, 1, 2, 3, 4] rfl)
          · skip
            replace hR8 := it_t hR8 c11
            subst c11
            refine lv_iconst (v := 1) hx hb dX12_wordOf_85 (by decide) ?_
            refine lv_goto (tgt := 91) hx hb dX12_wordOf_86 (by decide) ?_
            exact j91_13 1 (Or.inr ⟨1, by omega, rfl⟩) hR8 _ _ _ h (lv_sub hl [0, 1, 2, 3, 4] rfl)
        refine lv_if_ne (tgt := 64) hx hb dX12_wordOf_57 (by decide) (fun c6 => ?_) (fun c6 => ?_)
        · skip
          replace hR1 := it_f hR1 c6
          refine lv_iload hx hb dX12_wordOf_64 (lv_at hl 0 rfl) ?_
          exact j66_8 (-9) (Or.inl rfl) hR1 _ _ _ h (lv_sub hl [0, 1, 2, 3, 4] rfl)
        · skip
          replace hR1 := it_t hR1 c6
          subst c6
          refine lv_iconst (v := 0) hx hb dX12_wordOf_60 (by decide) ?_
          refine lv_goto (tgt := 66) hx hb dX12_wordOf_61 (by decide) ?_
          exact j66_8 0 (Or.inr ⟨0, by omega, rfl⟩) hR1 _ _ _ h (lv_sub hl [0, 1, 2, 3, 4] rfl)
      · skip
        replace hR1 := it_f hR1 c2
        have b43 : i1_5 < p2 := y_nle (a := p2) (b := i1_5) (by omega) (by omega) c2
        refine lv_iload hx hb dX12_wordOf_11 (lv_at hl 0 rfl) ?_
        refine lv_iload_n hx hb dX12_wordOf_13 rfl (lv_at hl 3 rfl) ?_
        refine lv_bipush (v := 6) hx hb dX12_wordOf_14 (by decide) ?_
        refine lv_iadd hx hb dX12_wordOf_16 ?_
        refine x_topI (v2 := nI (p1 + 6)) (nI_add p1 6) ?_
        replace hR1 := bd_to hR1 (nI_add p1 6)
        refine lv_icmp_ge (tgt := 38) hx hb dX12_wordOf_17 (by decide) (fun c44 => ?_) (fun c44 => ?_)
        · skip
          replace hR1 := it_t hR1 c44
          have b45 : (p1 + 6) ≤ i1_5 := y_le (a := (p1 + 6)) (b := i1_5) (by omega) (by omega) c44
          refine lv_bipush (v := (-9)) hx hb dX12_wordOf_38 (by decide) ?_
          refine lv_istore (lv' := [(5, .int (-9)), (3, .long i1_3), (0, .ref (g.2.1 79)), (1, .int (nI p1)), (2, .int (nI p2))]) hx hb dX12_wordOf_40 hl (by decide) rfl (fun ls hl => ?_)
          refine lv_lload_n hx hb dX12_wordOf_42 rfl (lv_at hl 1 rfl) ?_
          refine lv_bipush (v := 112) hx hb dX12_wordOf_43 (by decide) ?_
          refine lv_bipush (v := 114) hx hb dX12_wordOf_45 (by decide) ?_
          refine lv_bipush (v := 105) hx hb dX12_wordOf_47 (by decide) ?_
          refine lv_bipush (v := 99) hx hb dX12_wordOf_49 (by decide) ?_
          refine lv_bipush (v := 101) hx hb dX12_wordOf_51 (by decide) ?_
          refine x_sl E h (na := 5) (As := [.int 112, .int 114, .int 105, .int 99, .int 101]) (aX12_code_0 l g σ hI 112 114 105 99 101) gX12_wordOf_X12_code rfl ⟨rfl, rfl⟩ rfl (by decide +kernel) ⟨Nat.le_of_ble_eq_true rfl, Nat.le_of_ble_eq_true rfl⟩ hl.1 rfl (Nat.le_of_ble_eq_true rfl) dX12_wordOf_53 ⟨Nat.le_of_ble_eq_true rfl, Nat.le_of_ble_eq_true rfl⟩ (fun r46 s46 H locs q46 h => ?_)
          obtain ⟨x46, rfl⟩ := q46
          replace hR1 := bd_to hR1 x46
          refine W.lcmp hx hb dX12_wordOf_56 ?_
          refine lv_topi (fun x47 e47 => ?_)
          replace hR1 := bd_to hR1 e47.symm
          have j66_50 : ∀ (y50_s0 : Int32), Opt (-9) 6 y50_s0 → fX12_wordOf_0b66 (nI p1) (nI p2) i1_3 y50_s0 σ = R → ∀ (H : Heap) (locs : List Loc) (ls : Array Slot), HW g σ s H locs → lv_has ls 6 [(5, .int (-9)), (3, .long i1_3), (0, .ref (g.2.1 79)), (1, .int (nI p1)), (2, .int (nI p2))] → W p l e { frames := 2, cells := 0, slots := 0, locals := 46 } s m args below meth c H locs 0 0 (MQ below PQz args s 0 0 (Aw g)) (F0 m 66 ls [.int y50_s0]) := by
            intro y50_s0 oy50_s0 hR50 H locs ls h hl
            refine lv_istore (lv' := [(5, .int y50_s0), (3, .long i1_3), (0, .ref (g.2.1 79)), (1, .int (nI p1)), (2, .int (nI p2))]) hx hb dX12_wordOf_66 hl (by decide) rfl (fun ls hl => ?_)
            refine lv_lload_n hx hb dX12_wordOf_68 rfl (lv_at hl 1 rfl) ?_
            refine lv_bipush (v := 104) hx hb dX12_wordOf_69 (by decide) ?_
            refine lv_bipush (v := 117) hx hb dX12_wordOf_71 (by decide) ?_
            refine lv_bipush (v := 115) hx hb dX12_wordOf_73 (by decide) ?_
            refine lv_bipush (v := 104) hx hb dX12_wordOf_75 (by decide) ?_
            refine lv_iconst (v := 0) hx hb dX12_wordOf_77 (by decide) ?_
            refine x_sl E h (na := 5) (As := [.int 104, .int 117, .int 115, .int 104, .int 0]) (aX12_code_0 l g σ hI 104 117 115 104 0) gX12_wordOf_X12_code rfl ⟨rfl, rfl⟩ rfl (by decide +kernel) ⟨Nat.le_of_ble_eq_true rfl, Nat.le_of_ble_eq_true rfl⟩ hl.1 rfl (Nat.le_of_ble_eq_true rfl) dX12_wordOf_78 ⟨Nat.le_of_ble_eq_true rfl, Nat.le_of_ble_eq_true rfl⟩ (fun r51 s51 H locs q51 h => ?_)
            obtain ⟨x51, rfl⟩ := q51
            replace hR50 := bd_to hR50 x51
            refine W.lcmp hx hb dX12_wordOf_81 ?_
            refine lv_topi (fun x52 e52 => ?_)
            replace hR50 := bd_to hR50 e52.symm
            have j91_55 : ∀ (y55_s0 : Int32), Opt (-9) 6 y55_s0 → fX12_wordOf_0b91 (nI p1) (nI p2) i1_3 y55_s0 σ = R → ∀ (H : Heap) (locs : List Loc) (ls : Array Slot), HW g σ s H locs → lv_has ls 6 [(5, .int y50_s0), (3, .long i1_3), (0, .ref (g.2.1 79)), (1, .int (nI p1)), (2, .int (nI p2))] → W p l e { frames := 2, cells := 0, slots := 0, locals := 46 } s m args below meth c H locs 0 0 (MQ below PQz args s 0 0 (Aw g)) (F0 m 91 ls [.int y55_s0]) := by
              intro y55_s0 oy55_s0 hR55 H locs ls h hl
              refine lv_istore (lv' := [(5, .int y55_s0), (3, .long i1_3), (0, .ref (g.2.1 79)), (1, .int (nI p1)), (2, .int (nI p2))]) hx hb dX12_wordOf_91 hl (by decide) rfl (fun ls hl => ?_)
              refine lv_lload_n hx hb dX12_wordOf_93 rfl (lv_at hl 1 rfl) ?_
              refine lv_bipush (v := 108) hx hb dX12_wordOf_94 (by decide) ?_
              refine lv_bipush (v := 105) hx hb dX12_wordOf_96 (by decide) ?_
              refine lv_bipush (v := 107) hx hb dX12_wordOf_98 (by decide) ?_
              refine lv_bipush (v := 101) hx hb dX12_wordOf_100 (by decide) ?_
              refine lv_iconst (v := 0) hx hb dX12_wordOf_102 (by decide) ?_
              refine x_sl E h (na := 5) (As := [.int 108, .int 105, .int 107, .int 101, .int 0]) (aX12_code_0 l g σ hI 108 105 107 101 0) gX12_wordOf_X12_code rfl ⟨rfl, rfl⟩ rfl (by decide +kernel) ⟨Nat.le_of_ble_eq_true rfl, Nat.le_of_ble_eq_true rfl⟩ hl.1 rfl (Nat.le_of_ble_eq_true rfl) dX12_wordOf_103 ⟨Nat.le_of_ble_eq_true rfl, Nat.le_of_ble_eq_true rfl⟩ (fun r56 s56 H locs q56 h => ?_)
              obtain ⟨x56, rfl⟩ := q56
              replace hR55 := bd_to hR55 x56
              refine W.lcmp hx hb dX12_wordOf_106 ?_
              refine lv_topi (fun x57 e57 => ?_)
              replace hR55 := bd_to hR55 e57.symm
              have j116_60 : ∀ (y60_s0 : Int32), Opt (-9) 6 y60_s0 → fX12_wordOf_0b116 (nI p1) (nI p2) i1_3 y60_s0 σ = R → ∀ (H : Heap) (locs : List Loc) (ls : Array Slot), HW g σ s H locs → lv_has ls 6 [(5, .int y55_s0), (3, .long i1_3), (0, .ref (g.2.1 79)), (1, .int (nI p1)), (2, .int (nI p2))] → W p l e { frames := 2, cells := 0, slots := 0, locals := 46 } s m args below meth c H locs 0 0 (MQ below PQz args s 0 0 (Aw g)) (F0 m 116 ls [.int y60_s0]) := by
                intro y60_s0 oy60_s0 hR60 H locs ls h hl
                refine lv_istore (lv' := [(5, .int y60_s0), (3, .long i1_3), (0, .ref (g.2.1 79)), (1, .int (nI p1)), (2, .int (nI p2))]) hx hb dX12_wordOf_116 hl (by decide) rfl (fun ls hl => ?_)
                refine lv_lload_n hx hb dX12_wordOf_118 rfl (lv_at hl 1 rfl) ?_
                refine lv_bipush (v := 110) hx hb dX12_wordOf_119 (by decide) ?_
                refine lv_bipush (v := 101) hx hb dX12_wordOf_121 (by decide) ?_
                refine lv_bipush (v := 97) hx hb dX12_wordOf_123 (by decide) ?_
                refine lv_bipush (v := 114) hx hb dX12_wordOf_125 (by decide) ?_
                refine lv_iconst (v := 0) hx hb dX12_wordOf_127 (by decide) ?_
                refine x_sl E h (na := 5) (As := [.int 110, .int 101, .int 97, .int 114, .int 0]) (aX12_code_0 l g σ hI 110 101 97 114 0) gX12_wordOf_X12_code rfl ⟨rfl, rfl⟩ rfl (by decide +kernel) ⟨Nat.le_of_ble_eq_true rfl, Nat.le_of_ble_eq_true rfl⟩ hl.1 rfl (Nat.le_of_ble_eq_true rfl) dX12_wordOf_128 ⟨Nat.le_of_ble_eq_true rfl, Nat.le_of_ble_eq_true rfl⟩ (fun r61 s61 H locs q61 h => ?_)
                obtain ⟨x61, rfl⟩ := q61
                replace hR60 := bd_to hR60 x61
                refine W.lcmp hx hb dX12_wordOf_131 ?_
                refine lv_topi (fun x62 e62 => ?_)
                replace hR60 := bd_to hR60 e62.symm
                have j141_65 : ∀ (y65_s0 : Int32), Opt (-9) 6 y65_s0 → fX12_wordOf_0b141 (nI p1) (nI p2) i1_3 y65_s0 σ = R → ∀ (H : Heap) (locs : List Loc) (ls : Array Slot), HW g σ s H locs → lv_has ls 6 [(5, .int y60_s0), (3, .long i1_3), (0, .ref (g.2.1 79)), (1, .int (nI p1)), (2, .int (nI p2))] → W p l e { frames := 2, cells := 0, slots := 0, locals := 46 } s m args below meth c H locs 0 0 (MQ below PQz args s 0 0 (Aw g)) (F0 m 141 ls [.int y65_s0]) := by
                  intro y65_s0 oy65_s0 hR65 H locs ls h hl
                  refine lv_istore (lv' := [(5, .int y65_s0), (3, .long i1_3), (0, .ref (g.2.1 79)), (1, .int (nI p1)), (2, .int (nI p2))]) hx hb dX12_wordOf_141 hl (by decide) rfl (fun ls hl => ?_)
                  refine lv_lload_n hx hb dX12_wordOf_143 rfl (lv_at hl 1 rfl) ?_
                  refine lv_bipush (v := 116) hx hb dX12_wordOf_144 (by decide) ?_
                  refine lv_bipush (v := 117) hx hb dX12_wordOf_146 (by decide) ?_
                  refine lv_bipush (v := 114) hx hb dX12_wordOf_148 (by decide) ?_
                  refine lv_bipush (v := 110) hx hb dX12_wordOf_150 (by decide) ?_
                  refine lv_iconst (v := 0) hx hb dX12_wordOf_152 (by decide) ?_
                  refine x_sl E h (na := 5) (As := [.int 116, .int 117, .int 114, .int 110, .int 0]) (aX12_code_0 l g σ hI 116 117 114 110 0) gX12_wordOf_X12_code rfl ⟨rfl, rfl⟩ rfl (by decide +kernel) ⟨Nat.le_of_ble_eq_true rfl, Nat.le_of_ble_eq_true rfl⟩ hl.1 rfl (Nat.le_of_ble_eq_true rfl) dX12_wordOf_153 ⟨Nat.le_of_ble_eq_true rfl, Nat.le_of_ble_eq_true rfl⟩ (fun r66 s66 H locs q66 h => ?_)
                  obtain ⟨x66, rfl⟩ := q66
                  replace hR65 := bd_to hR65 x66
                  refine W.lcmp hx hb dX12_wordOf_156 ?_
                  refine lv_topi (fun x67 e67 => ?_)
                  replace hR65 := bd_to hR65 e67.symm
                  have j166_70 : ∀ (y70_s0 : Int32), Opt (-9) 6 y70_s0 → fX12_wordOf_0b166 (nI p1) (nI p2) i1_3 y70_s0 σ = R → ∀ (H : Heap) (locs : List Loc) (ls : Array Slot), HW g σ s H locs → lv_has ls 6 [(5, .int y65_s0), (3, .long i1_3), (0, .ref (g.2.1 79)), (1, .int (nI p1)), (2, .int (nI p2))] → W p l e { frames := 2, cells := 0, slots := 0, locals := 46 } s m args below meth c H locs 0 0 (MQ below PQz args s 0 0 (Aw g)) (F0 m 166 ls [.int y70_s0]) := by
                    intro y70_s0 oy70_s0 hR70 H locs ls h hl
                    refine lv_istore (lv' := [(5, .int y70_s0), (3, .long i1_3), (0, .ref (g.2.1 79)), (1, .int (nI p1)), (2, .int (nI p2))]) hx hb dX12_wordOf_166 hl (by decide) rfl (fun ls hl => ?_)
                    refine lv_lload_n hx hb dX12_wordOf_168 rfl (lv_at hl 1 rfl) ?_
                    refine lv_bipush (v := 116) hx hb dX12_wordOf_169 (by decide) ?_
                    refine lv_bipush (v := 119) hx hb dX12_wordOf_171 (by decide) ?_
                    refine lv_bipush (v := 105) hx hb dX12_wordOf_173 (by decide) ?_
                    refine lv_bipush (v := 99) hx hb dX12_wordOf_175 (by decide) ?_
                    refine lv_bipush (v := 101) hx hb dX12_wordOf_177 (by decide) ?_
                    refine x_sl E h (na := 5) (As := [.int 116, .int 119, .int 105, .int 99, .int 101]) (aX12_code_0 l g σ hI 116 119 105 99 101) gX12_wordOf_X12_code rfl ⟨rfl, rfl⟩ rfl (by decide +kernel) ⟨Nat.le_of_ble_eq_true rfl, Nat.le_of_ble_eq_true rfl⟩ hl.1 rfl (Nat.le_of_ble_eq_true rfl) dX12_wordOf_179 ⟨Nat.le_of_ble_eq_true rfl, Nat.le_of_ble_eq_true rfl⟩ (fun r71 s71 H locs q71 h => ?_)
                    obtain ⟨x71, rfl⟩ := q71
                    replace hR70 := bd_to hR70 x71
                    refine W.lcmp hx hb dX12_wordOf_182 ?_
                    refine lv_topi (fun x72 e72 => ?_)
                    replace hR70 := bd_to hR70 e72.symm
                    have j192_75 : ∀ (y75_s0 : Int32), Opt (-9) 6 y75_s0 → fX12_wordOf_0b192 (nI p1) (nI p2) y75_s0 σ = R → ∀ (H : Heap) (locs : List Loc) (ls : Array Slot), HW g σ s H locs → lv_has ls 6 [(5, .int y70_s0), (3, .long i1_3), (0, .ref (g.2.1 79)), (1, .int (nI p1)), (2, .int (nI p2))] → W p l e { frames := 2, cells := 0, slots := 0, locals := 46 } s m args below meth c H locs 0 0 (MQ below PQz args s 0 0 (Aw g)) (F0 m 192 ls [.int y75_s0]) := by
                      intro y75_s0 oy75_s0 hR75 H locs ls h hl
                      refine lv_istore (lv' := [(5, .int y75_s0), (3, .long i1_3), (0, .ref (g.2.1 79)), (1, .int (nI p1)), (2, .int (nI p2))]) hx hb dX12_wordOf_192 hl (by decide) rfl (fun ls hl => ?_)
                      refine lv_iload_n hx hb dX12_wordOf_194 rfl (lv_at hl 4 rfl) ?_
                      refine lv_iload_n hx hb dX12_wordOf_195 rfl (lv_at hl 3 rfl) ?_
                      refine lv_isub hx hb dX12_wordOf_196 ?_
                      replace hR75 := bd_to hR75 rfl
                      refine lv_iconst (v := 5) hx hb dX12_wordOf_197 (by decide) ?_
                      refine lv_icmp_le (tgt := 206) hx hb dX12_wordOf_198 (by decide) (fun c76 => ?_) (fun c76 => ?_)
                      · skip
                        replace hR75 := it_t hR75 c76
                        refine lv_iload hx hb dX12_wordOf_206 (lv_at hl 0 rfl) ?_
                        replace hR75 : fX12_wordOf_0b208 y75_s0 σ = R := hR75
                        subst hPQ
                        exact x_iret E h ⟨hR0.trans hR75.symm, oy75_s0, rfl⟩ dX12_wordOf_208
                      · skip
                        replace hR75 := it_f hR75 c76
                        refine lv_bipush (v := (-9)) hx hb dX12_wordOf_201 (by decide) ?_
                        refine lv_goto (tgt := 208) hx hb dX12_wordOf_203 (by decide) ?_
                        replace hR75 : fX12_wordOf_0b208 (-9) σ = R := hR75
                        subst hPQ
                        exact x_iret E h ⟨hR0.trans hR75.symm, (Or.inl rfl), rfl⟩ dX12_wordOf_208
                    refine lv_if_ne (tgt := 190) hx hb dX12_wordOf_183 (by decide) (fun c73 => ?_) (fun c73 => ?_)
                    · skip
                      replace hR70 := it_f hR70 c73
                      refine lv_iload hx hb dX12_wordOf_190 (lv_at hl 0 rfl) ?_
                      exact j192_75 y70_s0 oy70_s0 hR70 _ _ _ h (lv_sub hl [0, 1, 2, 3, 4] rfl)
                    · skip
                      replace hR70 := it_t hR70 c73
                      subst c73
                      refine lv_iconst (v := 5) hx hb dX12_wordOf_186 (by decide) ?_
                      refine lv_goto (tgt := 192) hx hb dX12_wordOf_187 (by decide) ?_
                      exact j192_75 5 (Or.inr ⟨5, by omega, rfl⟩) hR70 _ _ _ h (lv_sub hl [0, 1, 2, 3, 4] rfl)
                  refine lv_if_ne (tgt := 164) hx hb dX12_wordOf_157 (by decide) (fun c68 => ?_) (fun c68 => ?_)
                  · skip
                    replace hR65 := it_f hR65 c68
                    refine lv_iload hx hb dX12_wordOf_164 (lv_at hl 0 rfl) ?_
                    exact j166_70 y65_s0 oy65_s0 hR65 _ _ _ h (lv_sub hl [0, 1, 2, 3, 4] rfl)
                  · skip
                    replace hR65 := it_t hR65 c68
                    subst c68
                    refine lv_iconst (v := 4) hx hb dX12_wordOf_160 (by decide) ?_
                    refine lv_goto (tgt := 166) hx hb dX12_wordOf_161 (by decide) ?_
                    exact j166_70 4 (Or.inr ⟨4, by omega, rfl⟩) hR65 _ _ _ h (lv_sub hl [0, 1, 2, 3, 4] rfl)
                refine lv_if_ne (tgt := 139) hx hb dX12_wordOf_132 (by decide) (fun c63 => ?_) (fun c63 => ?_)
                · skip
                  replace hR60 := it_f hR60 c63
                  refine lv_iload hx hb dX12_wordOf_139 (lv_at hl 0 rfl) ?_
                  exact j141_65 y60_s0 oy60_s0 hR60 _ _ _ h (lv_sub hl [0, 1, 2, 3, 4] rfl)
                · skip
                  replace hR60 := it_t hR60 c63
                  subst c63
                  refine lv_iconst (v := 3) hx hb dX12_wordOf_135 (by decide) ?_
                  refine lv_goto (tgt := 141) hx hb dX12_wordOf_136 (by decide) ?_
                  exact j141_65 3 (Or.inr ⟨3, by omega, rfl⟩) hR60 _ _ _ h (lv_sub hl [0, 1, 2, 3, 4] rfl)
              refine lv_if_ne (tgt := 114) hx hb dX12_wordOf_107 (by decide) (fun c58 => ?_) (fun c58 => ?_)
              · skip
                replace hR55 := it_f hR55 c58
                refine lv_iload hx hb dX12_wordOf_114 (lv_at hl 0 rfl) ?_
                exact j116_60 y55_s0 oy55_s0 hR55 _ _ _ h (lv_sub hl [0, 1, 2, 3, 4] rfl)
              · skip
                replace hR55 := it_t hR55 c58
                subst c58
                refine lv_iconst (v := 2) hx hb dX12_wordOf_110 (by decide) ?_
                refine lv_goto (tgt := 116) hx hb dX12_wordOf_111 (by decide) ?_
                exact j116_60 2 (Or.inr ⟨2, by omega, rfl⟩) hR55 _ _ _ h (lv_sub hl [0, 1, 2, 3, 4] rfl)
            refine lv_if_ne (tgt := 89) hx hb dX12_wordOf_82 (by decide) (fun c53 => ?_) (fun c53 => ?_)
            · skip
              replace hR50 := it_f hR50 c53
              refine lv_iload hx hb dX12_wordOf_89 (lv_at hl 0 rfl) ?_
              exact j91_55 y50_s0 oy50_s0 hR50 _ _ _ h (lv_sub hl [0, 1, 2, 3, 4] rfl)
            · skip
              replace hR50 := it_t hR50 c53
              subst c53
              refine lv_iconst (v := 1) hx hb dX12_wordOf_85 (by decide) ?_
              refine lv_goto (tgt := 91) hx hb dX12_wordOf_86 (by decide) ?_
              exact j91_55 1 (Or.inr ⟨1, by omega, rfl⟩) hR50 _ _ _ h (lv_sub hl [0, 1, 2, 3, 4] rfl)
          refine lv_if_ne (tgt := 64) hx hb dX12_wordOf_57 (by decide) (fun c48 => ?_) (fun c48 => ?_)
          · skip
            replace hR1 := it_f hR1 c48
            refine lv_iload hx hb dX12_wordOf_64 (lv_at hl 0 rfl) ?_
            exact j66_50 (-9) (Or.inl rfl) hR1 _ _ _ h (lv_sub hl [0, 1, 2, 3, 4] rfl)
          · skip
            replace hR1 := it_t hR1 c48
            subst c48
            refine lv_iconst (v := 0) hx hb dX12_wordOf_60 (by decide) ?_
            refine lv_goto (tgt := 66) hx hb dX12_wordOf_61 (by decide) ?_
            exact j66_50 0 (Or.inr ⟨0, by omega, rfl⟩) hR1 _ _ _ h (lv_sub hl [0, 1, 2, 3, 4] rfl)
        · skip
          replace hR1 := it_f hR1 c44
          have b85 : i1_5 < (p1 + 6) := y_nle (a := (p1 + 6)) (b := i1_5) (by omega) (by omega) c44
          refine lv_lload_n hx hb dX12_wordOf_20 rfl (lv_at hl 1 rfl) ?_
          refine lv_aload_n hx hb dX12_wordOf_21 rfl (lv_at hl 2 rfl) ?_
          refine x_getR E h (fr_mo_text g) rfl hwX12 (by decide) (by decide +kernel) dX12_wordOf_22 ?_
          refine lv_iload hx hb dX12_wordOf_25 (lv_at hl 0 rfl) ?_
          refine x_ldB E h (ia_mo_text g) (i := nI i1_5) (vp_in_nI (by omega) (by decide)) (v := σ.2.2 67 i1_5) (congrArg (σ.2.2 67) (nI_clamp (n := i1_5) (by omega))) dX12_wordOf_27 ?_
          replace hR1 := bd_to hR1 (congrArg (σ.2.2 67) (nI_clamp (n := i1_5) (by omega)))
          refine x_sl E h (na := 2) (As := [.long i1_3, .int (σ.2.2 67 i1_5)]) (aX12_more_0 l g σ hI i1_3 (σ.2.2 67 i1_5)) gX12_wordOf_X12_more rfl ⟨rfl, rfl⟩ rfl (by decide +kernel) ⟨Nat.le_of_ble_eq_true rfl, Nat.le_of_ble_eq_true rfl⟩ hl.1 rfl (Nat.le_of_ble_eq_true rfl) dX12_wordOf_28 ⟨Nat.le_of_ble_eq_true rfl, Nat.le_of_ble_eq_true rfl⟩ (fun r86 s86 H locs q86 h => ?_)
          obtain ⟨x86, rfl⟩ := q86
          replace hR1 := bd_to hR1 x86
          refine lv_lstore_n (lv' := [(3, .long r86), (5, .int (nI i1_5)), (0, .ref (g.2.1 79)), (1, .int (nI p1)), (2, .int (nI p2))]) hx hb dX12_wordOf_31 rfl hl (by decide) rfl (fun ls hl => ?_)
          replace hR1 := bd_to hR1 (nI_add i1_5 1)
          refine lv_iinc (v := (nI (i1_5 + 1))) (lv' := [(5, .int (nI (i1_5 + 1))), (3, .long r86), (0, .ref (g.2.1 79)), (1, .int (nI p1)), (2, .int (nI p2))]) hx hb dX12_wordOf_32 hl (k := 1) rfl (nI_add i1_5 1) (by decide) rfl (fun ls hl => ?_)
          refine lv_goto (tgt := 5) hx hb dX12_wordOf_35 (by decide) ?_
          exact ih1 (i1_5 + 1) r86 (by omega) hR1 (by omega) _ _ _ h (lv_sub hl [0, 1, 2, 3, 4] rfl)
  exact loop5_1 4096 p1 0 (by omega) hR (by omega) _ _ _ h (lv_sub hl [0, 1, 2, 3, 4] rfl)
set_option maxHeartbeats 4000000 in
set_option maxRecDepth 100000 in
theorem aX12_next_0 (l : Launch) (g : CX) (σ : ST) (hI : INV σ) (F25 : Nat) (eF25 : σ.1 25 = nI F25) (F26 : Nat) (eF26 : σ.1 26 = nI F26) (hh0 : F25 ≤ 200) (hh1 : F26 ≤ 200) : XM l g yX12_next wsX12_next { frames := 3, cells := 0, slots := 0, locals := 71 } [.ref (g.2.1 79)] σ (XQv g (fun σ' => fX12_next_0 σ = σ' ∧ ((∃ a : Nat, σ'.1 26 = nI a ∧ F26 ≤ a ∧ a ≤ 200 ∧ NX σ' ∧ (σ'.1 28 = 3 → F26 < a))) ∧ INV σ' ∧ Fr [(26, 29)] [] σ σ')) := by
  refine x_met (own := RX12) (cc := cX12_next) (maxL := 2) (ret := none) (lv := [(0, .ref (g.2.1 79))]) (by decide) rfl rfl (Nat.le_of_ble_eq_true rfl) rfl ?_
  intro p e s m args below meth c ls E h hl
  have hx := E.1
  have hb := E.2.1
  have hown := E.2.2.2.1
  have hts := E.2.2.2.2.1
  have hF : Fr [(26, 29)] [] σ σ := Fr.refl σ
  obtain ⟨R, hR0⟩ : ∃ R, fX12_next_0 σ = R := ⟨_, rfl⟩
  have hR : fX12_next_0l0 4096 σ = R := hR0
  have hwX12 : ∀ w ∈ wsX120, w ∈ wsX12_next := by decide +kernel
  generalize hPQ : XQv g (fun σ' => fX12_next_0 σ = σ' ∧ ((∃ a : Nat, σ'.1 26 = nI a ∧ F26 ≤ a ∧ a ≤ 200 ∧ NX σ' ∧ (σ'.1 28 = 3 → F26 < a))) ∧ INV σ' ∧ Fr [(26, 29)] [] σ σ') = PQz
  have loop0_1 : ∀ (fu : Nat) (t1 : ST) (f1_26 : Nat), INV t1 → Fr [(26, 29)] [] σ t1 → t1.1 25 = nI F25 → t1.1 26 = nI f1_26 → f1_26 ≤ 200 → F26 ≤ f1_26 → fX12_next_0l0 fu t1 = R → 200 - f1_26 < fu → ∀ (H : Heap) (locs : List Loc) (ls : Array Slot), HW g t1 s H locs → lv_has ls 2 [(0, .ref (g.2.1 79))] → W p l e { frames := 3, cells := 0, slots := 0, locals := 71 } s m args below meth c H locs 0 0 (MQ below PQz args s 0 0 (Aw g)) (F0 m 0 ls []) := by
    intro fu1
    induction fu1 with
    | zero => intro t1 f1_26 hI_1 hF_1 e2 ef1_26 pp1_0 pp1_1 hR1 hm; exact absurd hm (Nat.not_lt_zero _)
    | succ fu1 ih =>
      have ih1 := ih
      clear ih
      intro t1 f1_26 hI_1 hF_1 e2 ef1_26 pp1_0 pp1_1 hR1 hm1 H locs ls h hl
      replace hR1 : fX12_next_0b0 (fX12_next_0l0 fu1) t1 = R := hR1
      refine lv_aload_n hx hb dX12_next_0 rfl (lv_at hl 0 rfl) ?_
      refine x_vi E h (na := 0) (As := []) (aX12_here_0 l g t1 hI_1) (oc_mo g) rfl gX12_next_X12_here rfl ⟨rfl, rfl⟩ rfl (by decide +kernel) ⟨Nat.le_of_ble_eq_true rfl, Nat.le_of_ble_eq_true rfl⟩ hl.1 rfl (Nat.le_of_ble_eq_true rfl) dX12_next_1 ⟨Nat.le_of_ble_eq_true rfl, Nat.le_of_ble_eq_true rfl⟩ (fun r3 s3 H locs q3 h => ?_)
      obtain ⟨x3, d3, rfl⟩ := q3
      replace hR1 := bd_to hR1 x3
      rcases d3 with rfl | ⟨m3_1a, m3_1T, m3_1n, u3_1_0, u3_1_1, u3_1_2, u3_1_3, u3_1_4, rfl⟩
      · skip
        refine lv_bipush (v := 32) hx hb dX12_next_4 (by decide) ?_
        replace hR1 := it_f hR1 (by decide)
        refine lv_icmp_ne (tgt := 22) hx hb dX12_next_6 (by decide) (fun _ => ?_) (fun c => absurd c (by decide))
        refine lv_aload_n hx hb dX12_next_22 rfl (lv_at hl 0 rfl) ?_
        refine lv_aload_n hx hb dX12_next_23 rfl (lv_at hl 0 rfl) ?_
        refine x_getI E h (fi_mo_at g) rfl hwX12 (by decide) (by decide +kernel) (v := nI f1_26) ef1_26 dX12_next_24 ?_
        replace hR1 := bd_to hR1 ef1_26
        refine y_putI E h hI_1 hF_1 (ty := .int) (v := nI f1_26) (fi_mo_start g) rfl hwX12 tyX12_ok nmX12 (by decide) (by decide +kernel) (by decide +kernel) (by decide +kernel) rfl rfl (ba_some rfl (Bd.mk (n := f1_26) (by omega))) rfl dX12_next_27 (fun s4 H locs q4 hI4 hF4 h => ?_)
        replace hR1 := bd_to hR1 q4.symm
        have e5 : s4.1 25 = nI F25 := (congrArg (fun t : ST => t.1 25) q4).trans e2
        have e6 : s4.1 26 = nI f1_26 := (congrArg (fun t : ST => t.1 26) q4).trans ef1_26
        have e7 : s4.1 27 = nI f1_26 := congrArg (fun t : ST => t.1 27) q4
        refine lv_aload_n hx hb dX12_next_30 rfl (lv_at hl 0 rfl) ?_
        refine lv_iconst (v := 0) hx hb dX12_next_31 (by decide) ?_
        refine y_putI E h hI4 hF4 (ty := .int) (v := 0) (fi_mo_value g) rfl hwX12 tyX12_ok nmX12 (by decide) (by decide +kernel) (by decide +kernel) (by decide +kernel) rfl rfl (ba_none rfl) rfl dX12_next_32 (fun s8 H locs q8 hI8 hF8 h => ?_)
        replace hR1 := bd_to hR1 q8.symm
        have e9 : s8.1 25 = nI F25 := (congrArg (fun t : ST => t.1 25) q8).trans e5
        have e10 : s8.1 26 = nI f1_26 := (congrArg (fun t : ST => t.1 26) q8).trans e6
        have e11 : s8.1 27 = nI f1_26 := (congrArg (fun t : ST => t.1 27) q8).trans e7
        have e12 : s8.1 29 = 0 := congrArg (fun t : ST => t.1 29) q8
        refine lv_aload_n hx hb dX12_next_35 rfl (lv_at hl 0 rfl) ?_
        refine x_vi E h (na := 0) (As := []) (aX12_here_0 l g s8 hI8) (oc_mo g) rfl gX12_next_X12_here rfl ⟨rfl, rfl⟩ rfl (by decide +kernel) ⟨Nat.le_of_ble_eq_true rfl, Nat.le_of_ble_eq_true rfl⟩ hl.1 rfl (Nat.le_of_ble_eq_true rfl) dX12_next_36 ⟨Nat.le_of_ble_eq_true rfl, Nat.le_of_ble_eq_true rfl⟩ (fun r13 s13 H locs q13 h => ?_)
        obtain ⟨x13, d13, rfl⟩ := q13
        replace hR1 := bd_to hR1 x13
        rcases d13 with rfl | ⟨m13_1a, m13_1T, m13_1n, u13_1_0, u13_1_1, u13_1_2, u13_1_3, u13_1_4, rfl⟩
        · skip
          refine lv_istore_n (lv' := [(1, .int (-1)), (0, .ref (g.2.1 79))]) hx hb dX12_next_39 rfl hl (by decide) rfl (fun ls hl => ?_)
          refine lv_iload_n hx hb dX12_next_40 rfl (lv_at hl 0 rfl) ?_
          replace hR1 := it_f hR1 (by decide)
          refine lv_if_ge (tgt := 52) hx hb dX12_next_41 (by decide) (fun c => absurd c (by decide)) (fun _ => ?_)
          refine lv_aload_n hx hb dX12_next_44 rfl (lv_at hl 1 rfl) ?_
          refine lv_iconst (v := 0) hx hb dX12_next_45 (by decide) ?_
          refine y_putI E h hI8 hF8 (ty := .int) (v := 0) (fi_mo_sort g) rfl hwX12 tyX12_ok nmX12 (by decide) (by decide +kernel) (by decide +kernel) (by decide +kernel) rfl rfl (ba_none rfl) rfl dX12_next_46 (fun s14 H locs q14 hI14 hF14 h => ?_)
          replace hR1 := bd_to hR1 q14.symm
          have e15 : s14.1 25 = nI F25 := (congrArg (fun t : ST => t.1 25) q14).trans e9
          have e16 : s14.1 26 = nI f1_26 := (congrArg (fun t : ST => t.1 26) q14).trans e10
          have e17 : s14.1 27 = nI f1_26 := (congrArg (fun t : ST => t.1 27) q14).trans e11
          have e18 : s14.1 29 = 0 := (congrArg (fun t : ST => t.1 29) q14).trans e12
          have e19 : s14.1 28 = 0 := congrArg (fun t : ST => t.1 28) q14
          refine lv_goto (tgt := 267) hx hb dX12_next_49 (by decide) ?_
          subst hPQ
          exact x_vret E h ⟨hR0.trans hR1.symm, (⟨f1_26, e16, (by omega), (by omega), (fun h9 => absurd (e19.symm.trans h9) (by decide)), (fun h9 => absurd (e19.symm.trans h9) (by decide))⟩), hI14, hF14⟩ dX12_next_267
        · skip
          obtain rfl : f1_26 = m13_1a := y_eq (by omega) (by omega) ((e10).symm.trans u13_1_0)
          obtain rfl : F25 = m13_1T := y_eq (by omega) (by omega) ((e9).symm.trans u13_1_1)
          refine lv_istore_n (lv' := [(1, .int (nI m13_1n)), (0, .ref (g.2.1 79))]) hx hb dX12_next_39 rfl hl (by decide) rfl (fun ls hl => ?_)
          refine lv_iload_n hx hb dX12_next_40 rfl (lv_at hl 0 rfl) ?_
          replace hR1 := it_t hR1 (nI_pos' (by omega))
          refine lv_if_ge (tgt := 52) hx hb dX12_next_41 (by decide) (fun _ => ?_) (fun c => absurd (nI_pos' (by omega)) c)
          refine lv_iload_n hx hb dX12_next_52 rfl (lv_at hl 0 rfl) ?_
          refine lv_bipush (v := 97) hx hb dX12_next_53 (by decide) ?_
          refine lv_bipush (v := 122) hx hb dX12_next_55 (by decide) ?_
          refine x_si E h (na := 3) (As := [.int (nI m13_1n), .int 97, .int 122]) (aX12_in_0 l g s8 hI8 (nI m13_1n) 97 122) gX12_next_X12_in rfl ⟨rfl, rfl⟩ rfl (by decide +kernel) ⟨Nat.le_of_ble_eq_true rfl, Nat.le_of_ble_eq_true rfl⟩ hl.1 rfl (Nat.le_of_ble_eq_true rfl) dX12_next_57 ⟨Nat.le_of_ble_eq_true rfl, Nat.le_of_ble_eq_true rfl⟩ (fun r20 s20 H locs q20 h => ?_)
          obtain ⟨x20, d20, rfl⟩ := q20
          replace hR1 := bd_to hR1 x20
          rcases d20 with ⟨rfl, u20_0_0, u20_0_1⟩ | ⟨rfl, u20_1_0⟩
          · skip
            have b21 : 97 ≤ m13_1n := y_nlt (a := m13_1n) (b := 97) (by omega) (by omega) u20_0_0
            have b22 : m13_1n ≤ 122 := y_nlt (a := 122) (b := m13_1n) (by omega) (by omega) u20_0_1
            replace hR1 := it_f hR1 (by decide)
            refine lv_if_eq (tgt := 127) hx hb dX12_next_60 (by decide) (fun c => absurd c (by decide)) (fun _ => ?_)
            have loop63_23 : ∀ (fu : Nat) (t23 : ST) (f23_26 : Nat), INV t23 → Fr [(26, 29)] [] σ t23 → t23.1 25 = nI F25 → t23.1 27 = nI f1_26 → t23.1 29 = 0 → t23.1 26 = nI f23_26 → f23_26 ≤ 200 → f1_26 ≤ f23_26 → fX12_next_0l63 fu t23 = R → 200 - f23_26 < fu → ∀ (H : Heap) (locs : List Loc) (ls : Array Slot), HW g t23 s H locs → lv_has ls 2 [(1, .int (nI m13_1n)), (0, .ref (g.2.1 79))] → W p l e { frames := 3, cells := 0, slots := 0, locals := 71 } s m args below meth c H locs 0 0 (MQ below PQz args s 0 0 (Aw g)) (F0 m 63 ls []) := by
              intro fu23
              induction fu23 with
              | zero => intro t23 f23_26 hI_23 hF_23 e24 e25 e26 ef23_26 pp23_0 pp23_1 hR23 hm; exact absurd hm (Nat.not_lt_zero _)
              | succ fu23 ih =>
                have ih23 := ih
                clear ih
                intro t23 f23_26 hI_23 hF_23 e24 e25 e26 ef23_26 pp23_0 pp23_1 hR23 hm23 H locs ls h hl
                replace hR23 : fX12_next_0b63 (fX12_next_0l63 fu23) t23 = R := hR23
                refine lv_aload_n hx hb dX12_next_63 rfl (lv_at hl 1 rfl) ?_
                refine x_vi E h (na := 0) (As := []) (aX12_here_0 l g t23 hI_23) (oc_mo g) rfl gX12_next_X12_here rfl ⟨rfl, rfl⟩ rfl (by decide +kernel) ⟨Nat.le_of_ble_eq_true rfl, Nat.le_of_ble_eq_true rfl⟩ hl.1 rfl (Nat.le_of_ble_eq_true rfl) dX12_next_64 ⟨Nat.le_of_ble_eq_true rfl, Nat.le_of_ble_eq_true rfl⟩ (fun r27 s27 H locs q27 h => ?_)
                obtain ⟨x27, d27, rfl⟩ := q27
                replace hR23 := bd_to hR23 x27
                rcases d27 with rfl | ⟨m27_1a, m27_1T, m27_1n, u27_1_0, u27_1_1, u27_1_2, u27_1_3, u27_1_4, rfl⟩
                · skip
                  refine lv_bipush (v := 97) hx hb dX12_next_67 (by decide) ?_
                  refine lv_bipush (v := 122) hx hb dX12_next_69 (by decide) ?_
                  refine x_si E h (na := 3) (As := [.int (-1), .int 97, .int 122]) (aX12_in_0 l g t23 hI_23 (-1) 97 122) gX12_next_X12_in rfl ⟨rfl, rfl⟩ rfl (by decide +kernel) ⟨Nat.le_of_ble_eq_true rfl, Nat.le_of_ble_eq_true rfl⟩ hl.1 rfl (Nat.le_of_ble_eq_true rfl) dX12_next_71 ⟨Nat.le_of_ble_eq_true rfl, Nat.le_of_ble_eq_true rfl⟩ (fun r28 s28 H locs q28 h => ?_)
                  obtain ⟨x28, d28, rfl⟩ := q28
                  replace hR23 := bd_to hR23 x28
                  rcases d28 with ⟨rfl, u28_0_0, u28_0_1⟩ | ⟨rfl, u28_1_0⟩
                  · skip
                    exact absurd (by decide) u28_0_0
                  · skip
                    replace hR23 := it_t hR23 (by decide)
                    refine lv_if_eq (tgt := 90) hx hb dX12_next_74 (by decide) (fun _ => ?_) (fun c => absurd (by decide) c)
                    refine lv_aload_n hx hb dX12_next_90 rfl (lv_at hl 1 rfl) ?_
                    refine lv_aload_n hx hb dX12_next_91 rfl (lv_at hl 1 rfl) ?_
                    refine lv_aload_n hx hb dX12_next_92 rfl (lv_at hl 1 rfl) ?_
                    refine x_getI E h (fi_mo_start g) rfl hwX12 (by decide) (by decide +kernel) (v := nI f1_26) e25 dX12_next_93 ?_
                    replace hR23 := bd_to hR23 e25
                    refine lv_aload_n hx hb dX12_next_96 rfl (lv_at hl 1 rfl) ?_
                    refine x_getI E h (fi_mo_at g) rfl hwX12 (by decide) (by decide +kernel) (v := nI f23_26) ef23_26 dX12_next_97 ?_
                    replace hR23 := bd_to hR23 ef23_26
                    refine x_vi E h (na := 2) (As := [.int (nI f1_26), .int (nI f23_26)]) (aX12_wordOf_0 l g t23 hI_23 f1_26 f23_26 (by omega) (by omega)) (oc_mo g) rfl gX12_next_X12_wordOf rfl ⟨rfl, rfl⟩ rfl (by decide +kernel) ⟨Nat.le_of_ble_eq_true rfl, Nat.le_of_ble_eq_true rfl⟩ hl.1 rfl (Nat.le_of_ble_eq_true rfl) dX12_next_100 ⟨Nat.le_of_ble_eq_true rfl, Nat.le_of_ble_eq_true rfl⟩ (fun r29 s29 H locs q29 h => ?_)
                    obtain ⟨x29, d29, rfl⟩ := q29
                    replace hR23 := bd_to hR23 x29
                    refine y_putI E h hI_23 hF_23 (ty := .int) (v := r29) (fi_mo_value g) rfl hwX12 tyX12_ok nmX12 (by decide) (by decide +kernel) (by decide +kernel) (by decide +kernel) rfl rfl (ba_none rfl) rfl dX12_next_103 (fun s30 H locs q30 hI30 hF30 h => ?_)
                    replace hR23 := bd_to hR23 q30.symm
                    have e31 : s30.1 25 = nI F25 := (congrArg (fun t : ST => t.1 25) q30).trans e24
                    have e32 : s30.1 27 = nI f1_26 := (congrArg (fun t : ST => t.1 27) q30).trans e25
                    have e33 : s30.1 26 = nI f23_26 := (congrArg (fun t : ST => t.1 26) q30).trans ef23_26
                    have e34 : s30.1 29 = r29 := congrArg (fun t : ST => t.1 29) q30
                    refine lv_aload_n hx hb dX12_next_106 rfl (lv_at hl 1 rfl) ?_
                    refine lv_aload_n hx hb dX12_next_107 rfl (lv_at hl 1 rfl) ?_
                    refine x_getI E h (fi_mo_value g) rfl hwX12 (by decide) (by decide +kernel) (v := r29) e34 dX12_next_108 ?_
                    replace hR23 := bd_to hR23 e34
                    refine lv_bipush (v := (-9)) hx hb dX12_next_111 (by decide) ?_
                    refine lv_icmp_ne (tgt := 120) hx hb dX12_next_113 (by decide) (fun c35 => ?_) (fun c35 => ?_)
                    · skip
                      replace hR23 := it_f hR23 c35
                      rcases d29 with rfl | ⟨n37, b37, rfl⟩
                      · exact absurd c35 (by decide)
                      refine lv_iconst (v := 1) hx hb dX12_next_120 (by decide) ?_
                      replace hR23 : fX12_next_0b121 1 s30 = R := hR23
                      refine y_putI E h hI30 hF30 (ty := .int) (v := 1) (fi_mo_sort g) rfl hwX12 tyX12_ok nmX12 (by decide) (by decide +kernel) (by decide +kernel) (by decide +kernel) rfl rfl (ba_none rfl) rfl dX12_next_121 (fun s38 H locs q38 hI38 hF38 h => ?_)
                      replace hR23 := bd_to hR23 q38.symm
                      have e39 : s38.1 25 = nI F25 := (congrArg (fun t : ST => t.1 25) q38).trans e31
                      have e40 : s38.1 27 = nI f1_26 := (congrArg (fun t : ST => t.1 27) q38).trans e32
                      have e41 : s38.1 26 = nI f23_26 := (congrArg (fun t : ST => t.1 26) q38).trans e33
                      have e42 : s38.1 29 = nI n37 := (congrArg (fun t : ST => t.1 29) q38).trans e34
                      have e43 : s38.1 28 = 1 := congrArg (fun t : ST => t.1 28) q38
                      refine lv_goto (tgt := 267) hx hb dX12_next_124 (by decide) ?_
                      subst hPQ
                      exact x_vret E h ⟨hR0.trans hR23.symm, (⟨f23_26, e41, (by omega), (by omega), (fun _ => ⟨n37, by omega, e42⟩), (fun h9 => absurd (e43.symm.trans h9) (by decide))⟩), hI38, hF38⟩ dX12_next_267
                    · skip
                      replace hR23 := it_t hR23 c35
                      subst c35
                      refine lv_iconst (v := 4) hx hb dX12_next_116 (by decide) ?_
                      refine lv_goto (tgt := 121) hx hb dX12_next_117 (by decide) ?_
                      replace hR23 : fX12_next_0b121 4 s30 = R := hR23
                      refine y_putI E h hI30 hF30 (ty := .int) (v := 4) (fi_mo_sort g) rfl hwX12 tyX12_ok nmX12 (by decide) (by decide +kernel) (by decide +kernel) (by decide +kernel) rfl rfl (ba_none rfl) rfl dX12_next_121 (fun s45 H locs q45 hI45 hF45 h => ?_)
                      replace hR23 := bd_to hR23 q45.symm
                      have e46 : s45.1 25 = nI F25 := (congrArg (fun t : ST => t.1 25) q45).trans e31
                      have e47 : s45.1 27 = nI f1_26 := (congrArg (fun t : ST => t.1 27) q45).trans e32
                      have e48 : s45.1 26 = nI f23_26 := (congrArg (fun t : ST => t.1 26) q45).trans e33
                      have e49 : s45.1 29 = (-9) := (congrArg (fun t : ST => t.1 29) q45).trans e34
                      have e50 : s45.1 28 = 4 := congrArg (fun t : ST => t.1 28) q45
                      refine lv_goto (tgt := 267) hx hb dX12_next_124 (by decide) ?_
                      subst hPQ
                      exact x_vret E h ⟨hR0.trans hR23.symm, (⟨f23_26, e48, (by omega), (by omega), (fun h9 => absurd (e50.symm.trans h9) (by decide)), (fun h9 => absurd (e50.symm.trans h9) (by decide))⟩), hI45, hF45⟩ dX12_next_267
                · skip
                  obtain rfl : f23_26 = m27_1a := y_eq (by omega) (by omega) ((ef23_26).symm.trans u27_1_0)
                  obtain rfl : F25 = m27_1T := y_eq (by omega) (by omega) ((e24).symm.trans u27_1_1)
                  refine lv_bipush (v := 97) hx hb dX12_next_67 (by decide) ?_
                  refine lv_bipush (v := 122) hx hb dX12_next_69 (by decide) ?_
                  refine x_si E h (na := 3) (As := [.int (nI m27_1n), .int 97, .int 122]) (aX12_in_0 l g t23 hI_23 (nI m27_1n) 97 122) gX12_next_X12_in rfl ⟨rfl, rfl⟩ rfl (by decide +kernel) ⟨Nat.le_of_ble_eq_true rfl, Nat.le_of_ble_eq_true rfl⟩ hl.1 rfl (Nat.le_of_ble_eq_true rfl) dX12_next_71 ⟨Nat.le_of_ble_eq_true rfl, Nat.le_of_ble_eq_true rfl⟩ (fun r51 s51 H locs q51 h => ?_)
                  obtain ⟨x51, d51, rfl⟩ := q51
                  replace hR23 := bd_to hR23 x51
                  rcases d51 with ⟨rfl, u51_0_0, u51_0_1⟩ | ⟨rfl, u51_1_0⟩
                  · skip
                    have b52 : 97 ≤ m27_1n := y_nlt (a := m27_1n) (b := 97) (by omega) (by omega) u51_0_0
                    have b53 : m27_1n ≤ 122 := y_nlt (a := 122) (b := m27_1n) (by omega) (by omega) u51_0_1
                    replace hR23 := it_f hR23 (by decide)
                    refine lv_if_eq (tgt := 90) hx hb dX12_next_74 (by decide) (fun c => absurd c (by decide)) (fun _ => ?_)
                    refine lv_aload_n hx hb dX12_next_77 rfl (lv_at hl 1 rfl) ?_
                    refine lv_dup hx hb dX12_next_78 rfl ?_
                    refine x_getI E h (fi_mo_at g) rfl hwX12 (by decide) (by decide +kernel) (v := nI f23_26) ef23_26 dX12_next_79 ?_
                    replace hR23 := bd_to hR23 ef23_26
                    refine lv_iconst (v := 1) hx hb dX12_next_82 (by decide) ?_
                    refine lv_iadd hx hb dX12_next_83 ?_
                    refine x_topI (v2 := nI (f23_26 + 1)) (nI_add f23_26 1) ?_
                    replace hR23 := bd_to hR23 (nI_add f23_26 1)
                    refine y_putI E h hI_23 hF_23 (ty := .int) (v := nI (f23_26 + 1)) (fi_mo_at g) rfl hwX12 tyX12_ok nmX12 (by decide) (by decide +kernel) (by decide +kernel) (by decide +kernel) rfl rfl (ba_some rfl (Bd.mk (n := (f23_26 + 1)) (by omega))) rfl dX12_next_84 (fun s54 H locs q54 hI54 hF54 h => ?_)
                    replace hR23 := bd_to hR23 q54.symm
                    have e55 : s54.1 25 = nI F25 := (congrArg (fun t : ST => t.1 25) q54).trans e24
                    have e56 : s54.1 27 = nI f1_26 := (congrArg (fun t : ST => t.1 27) q54).trans e25
                    have e57 : s54.1 29 = 0 := (congrArg (fun t : ST => t.1 29) q54).trans e26
                    have e58 : s54.1 26 = nI (f23_26 + 1) := congrArg (fun t : ST => t.1 26) q54
                    refine lv_goto (tgt := 63) hx hb dX12_next_87 (by decide) ?_
                    exact ih23 s54 (f23_26 + 1) hI54 hF54 e55 e56 e57 e58 (by omega) (by omega) hR23 (by omega) _ _ _ h (lv_sub hl [0, 1] rfl)
                  · skip
                    replace hR23 := it_t hR23 (by decide)
                    refine lv_if_eq (tgt := 90) hx hb dX12_next_74 (by decide) (fun _ => ?_) (fun c => absurd (by decide) c)
                    refine lv_aload_n hx hb dX12_next_90 rfl (lv_at hl 1 rfl) ?_
                    refine lv_aload_n hx hb dX12_next_91 rfl (lv_at hl 1 rfl) ?_
                    refine lv_aload_n hx hb dX12_next_92 rfl (lv_at hl 1 rfl) ?_
                    refine x_getI E h (fi_mo_start g) rfl hwX12 (by decide) (by decide +kernel) (v := nI f1_26) e25 dX12_next_93 ?_
                    replace hR23 := bd_to hR23 e25
                    refine lv_aload_n hx hb dX12_next_96 rfl (lv_at hl 1 rfl) ?_
                    refine x_getI E h (fi_mo_at g) rfl hwX12 (by decide) (by decide +kernel) (v := nI f23_26) ef23_26 dX12_next_97 ?_
                    replace hR23 := bd_to hR23 ef23_26
                    refine x_vi E h (na := 2) (As := [.int (nI f1_26), .int (nI f23_26)]) (aX12_wordOf_0 l g t23 hI_23 f1_26 f23_26 (by omega) (by omega)) (oc_mo g) rfl gX12_next_X12_wordOf rfl ⟨rfl, rfl⟩ rfl (by decide +kernel) ⟨Nat.le_of_ble_eq_true rfl, Nat.le_of_ble_eq_true rfl⟩ hl.1 rfl (Nat.le_of_ble_eq_true rfl) dX12_next_100 ⟨Nat.le_of_ble_eq_true rfl, Nat.le_of_ble_eq_true rfl⟩ (fun r59 s59 H locs q59 h => ?_)
                    obtain ⟨x59, d59, rfl⟩ := q59
                    replace hR23 := bd_to hR23 x59
                    refine y_putI E h hI_23 hF_23 (ty := .int) (v := r59) (fi_mo_value g) rfl hwX12 tyX12_ok nmX12 (by decide) (by decide +kernel) (by decide +kernel) (by decide +kernel) rfl rfl (ba_none rfl) rfl dX12_next_103 (fun s60 H locs q60 hI60 hF60 h => ?_)
                    replace hR23 := bd_to hR23 q60.symm
                    have e61 : s60.1 25 = nI F25 := (congrArg (fun t : ST => t.1 25) q60).trans e24
                    have e62 : s60.1 27 = nI f1_26 := (congrArg (fun t : ST => t.1 27) q60).trans e25
                    have e63 : s60.1 26 = nI f23_26 := (congrArg (fun t : ST => t.1 26) q60).trans ef23_26
                    have e64 : s60.1 29 = r59 := congrArg (fun t : ST => t.1 29) q60
                    refine lv_aload_n hx hb dX12_next_106 rfl (lv_at hl 1 rfl) ?_
                    refine lv_aload_n hx hb dX12_next_107 rfl (lv_at hl 1 rfl) ?_
                    refine x_getI E h (fi_mo_value g) rfl hwX12 (by decide) (by decide +kernel) (v := r59) e64 dX12_next_108 ?_
                    replace hR23 := bd_to hR23 e64
                    refine lv_bipush (v := (-9)) hx hb dX12_next_111 (by decide) ?_
                    refine lv_icmp_ne (tgt := 120) hx hb dX12_next_113 (by decide) (fun c65 => ?_) (fun c65 => ?_)
                    · skip
                      replace hR23 := it_f hR23 c65
                      rcases d59 with rfl | ⟨n67, b67, rfl⟩
                      · exact absurd c65 (by decide)
                      refine lv_iconst (v := 1) hx hb dX12_next_120 (by decide) ?_
                      replace hR23 : fX12_next_0b121 1 s60 = R := hR23
                      refine y_putI E h hI60 hF60 (ty := .int) (v := 1) (fi_mo_sort g) rfl hwX12 tyX12_ok nmX12 (by decide) (by decide +kernel) (by decide +kernel) (by decide +kernel) rfl rfl (ba_none rfl) rfl dX12_next_121 (fun s68 H locs q68 hI68 hF68 h => ?_)
                      replace hR23 := bd_to hR23 q68.symm
                      have e69 : s68.1 25 = nI F25 := (congrArg (fun t : ST => t.1 25) q68).trans e61
                      have e70 : s68.1 27 = nI f1_26 := (congrArg (fun t : ST => t.1 27) q68).trans e62
                      have e71 : s68.1 26 = nI f23_26 := (congrArg (fun t : ST => t.1 26) q68).trans e63
                      have e72 : s68.1 29 = nI n67 := (congrArg (fun t : ST => t.1 29) q68).trans e64
                      have e73 : s68.1 28 = 1 := congrArg (fun t : ST => t.1 28) q68
                      refine lv_goto (tgt := 267) hx hb dX12_next_124 (by decide) ?_
                      subst hPQ
                      exact x_vret E h ⟨hR0.trans hR23.symm, (⟨f23_26, e71, (by omega), (by omega), (fun _ => ⟨n67, by omega, e72⟩), (fun h9 => absurd (e73.symm.trans h9) (by decide))⟩), hI68, hF68⟩ dX12_next_267
                    · skip
                      replace hR23 := it_t hR23 c65
                      subst c65
                      refine lv_iconst (v := 4) hx hb dX12_next_116 (by decide) ?_
                      refine lv_goto (tgt := 121) hx hb dX12_next_117 (by decide) ?_
                      replace hR23 : fX12_next_0b121 4 s60 = R := hR23
                      refine y_putI E h hI60 hF60 (ty := .int) (v := 4) (fi_mo_sort g) rfl hwX12 tyX12_ok nmX12 (by decide) (by decide +kernel) (by decide +kernel) (by decide +kernel) rfl rfl (ba_none rfl) rfl dX12_next_121 (fun s75 H locs q75 hI75 hF75 h => ?_)
                      replace hR23 := bd_to hR23 q75.symm
                      have e76 : s75.1 25 = nI F25 := (congrArg (fun t : ST => t.1 25) q75).trans e61
                      have e77 : s75.1 27 = nI f1_26 := (congrArg (fun t : ST => t.1 27) q75).trans e62
                      have e78 : s75.1 26 = nI f23_26 := (congrArg (fun t : ST => t.1 26) q75).trans e63
                      have e79 : s75.1 29 = (-9) := (congrArg (fun t : ST => t.1 29) q75).trans e64
                      have e80 : s75.1 28 = 4 := congrArg (fun t : ST => t.1 28) q75
                      refine lv_goto (tgt := 267) hx hb dX12_next_124 (by decide) ?_
                      subst hPQ
                      exact x_vret E h ⟨hR0.trans hR23.symm, (⟨f23_26, e78, (by omega), (by omega), (fun h9 => absurd (e80.symm.trans h9) (by decide)), (fun h9 => absurd (e80.symm.trans h9) (by decide))⟩), hI75, hF75⟩ dX12_next_267
            exact loop63_23 4096 s8 f1_26 hI8 hF8 e9 e11 e12 e10 (by omega) (by omega) hR1 (by omega) _ _ _ h (lv_sub hl [0, 1] rfl)
          · skip
            replace hR1 := it_t hR1 (by decide)
            refine lv_if_eq (tgt := 127) hx hb dX12_next_60 (by decide) (fun _ => ?_) (fun c => absurd (by decide) c)
            refine lv_iload_n hx hb dX12_next_127 rfl (lv_at hl 0 rfl) ?_
            refine lv_bipush (v := 48) hx hb dX12_next_128 (by decide) ?_
            refine lv_bipush (v := 57) hx hb dX12_next_130 (by decide) ?_
            refine x_si E h (na := 3) (As := [.int (nI m13_1n), .int 48, .int 57]) (aX12_in_0 l g s8 hI8 (nI m13_1n) 48 57) gX12_next_X12_in rfl ⟨rfl, rfl⟩ rfl (by decide +kernel) ⟨Nat.le_of_ble_eq_true rfl, Nat.le_of_ble_eq_true rfl⟩ hl.1 rfl (Nat.le_of_ble_eq_true rfl) dX12_next_132 ⟨Nat.le_of_ble_eq_true rfl, Nat.le_of_ble_eq_true rfl⟩ (fun r81 s81 H locs q81 h => ?_)
            obtain ⟨x81, d81, rfl⟩ := q81
            replace hR1 := bd_to hR1 x81
            rcases d81 with ⟨rfl, u81_0_0, u81_0_1⟩ | ⟨rfl, u81_1_0⟩
            · skip
              have b82 : 48 ≤ m13_1n := y_nlt (a := m13_1n) (b := 48) (by omega) (by omega) u81_0_0
              have b83 : m13_1n ≤ 57 := y_nlt (a := 57) (b := m13_1n) (by omega) (by omega) u81_0_1
              replace hR1 := it_f hR1 (by decide)
              refine lv_if_eq (tgt := 242) hx hb dX12_next_135 (by decide) (fun c => absurd c (by decide)) (fun _ => ?_)
              have loop138_84 : ∀ (fu : Nat) (t84 : ST) (f84_26 : Nat), INV t84 → Fr [(26, 29)] [] σ t84 → t84.1 25 = nI F25 → t84.1 27 = nI f1_26 → t84.1 26 = nI f84_26 → f84_26 ≤ 200 → f1_26 ≤ f84_26 → fX12_next_0l138 fu (nI m13_1n) t84 = R → 200 - f84_26 < fu → ∀ (H : Heap) (locs : List Loc) (ls : Array Slot), HW g t84 s H locs → lv_has ls 2 [(1, .int (nI m13_1n)), (0, .ref (g.2.1 79))] → W p l e { frames := 3, cells := 0, slots := 0, locals := 71 } s m args below meth c H locs 0 0 (MQ below PQz args s 0 0 (Aw g)) (F0 m 138 ls []) := by
                intro fu84
                induction fu84 with
                | zero => intro t84 f84_26 hI_84 hF_84 e85 e86 ef84_26 pp84_0 pp84_1 hR84 hm; exact absurd hm (Nat.not_lt_zero _)
                | succ fu84 ih =>
                  have ih84 := ih
                  clear ih
                  intro t84 f84_26 hI_84 hF_84 e85 e86 ef84_26 pp84_0 pp84_1 hR84 hm84 H locs ls h hl
                  replace hR84 : fX12_next_0b138 (fX12_next_0l138 fu84) (nI m13_1n) t84 = R := hR84
                  refine lv_aload_n hx hb dX12_next_138 rfl (lv_at hl 1 rfl) ?_
                  refine x_vi E h (na := 0) (As := []) (aX12_here_0 l g t84 hI_84) (oc_mo g) rfl gX12_next_X12_here rfl ⟨rfl, rfl⟩ rfl (by decide +kernel) ⟨Nat.le_of_ble_eq_true rfl, Nat.le_of_ble_eq_true rfl⟩ hl.1 rfl (Nat.le_of_ble_eq_true rfl) dX12_next_139 ⟨Nat.le_of_ble_eq_true rfl, Nat.le_of_ble_eq_true rfl⟩ (fun r87 s87 H locs q87 h => ?_)
                  obtain ⟨x87, d87, rfl⟩ := q87
                  replace hR84 := bd_to hR84 x87
                  rcases d87 with rfl | ⟨m87_1a, m87_1T, m87_1n, u87_1_0, u87_1_1, u87_1_2, u87_1_3, u87_1_4, rfl⟩
                  · skip
                    refine lv_bipush (v := 48) hx hb dX12_next_142 (by decide) ?_
                    refine lv_bipush (v := 57) hx hb dX12_next_144 (by decide) ?_
                    refine x_si E h (na := 3) (As := [.int (-1), .int 48, .int 57]) (aX12_in_0 l g t84 hI_84 (-1) 48 57) gX12_next_X12_in rfl ⟨rfl, rfl⟩ rfl (by decide +kernel) ⟨Nat.le_of_ble_eq_true rfl, Nat.le_of_ble_eq_true rfl⟩ hl.1 rfl (Nat.le_of_ble_eq_true rfl) dX12_next_146 ⟨Nat.le_of_ble_eq_true rfl, Nat.le_of_ble_eq_true rfl⟩ (fun r88 s88 H locs q88 h => ?_)
                    obtain ⟨x88, d88, rfl⟩ := q88
                    replace hR84 := bd_to hR84 x88
                    rcases d88 with ⟨rfl, u88_0_0, u88_0_1⟩ | ⟨rfl, u88_1_0⟩
                    · skip
                      exact absurd (by decide) u88_0_0
                    · skip
                      replace hR84 := it_t hR84 (by decide)
                      refine lv_if_eq (tgt := 201) hx hb dX12_next_149 (by decide) (fun _ => ?_) (fun c => absurd (by decide) c)
                      refine lv_aload_n hx hb dX12_next_201 rfl (lv_at hl 1 rfl) ?_
                      refine lv_aload_n hx hb dX12_next_202 rfl (lv_at hl 1 rfl) ?_
                      obtain ⟨x89, e89⟩ : ∃ x, t84.1 29 = x := ⟨_, rfl⟩
                      refine x_getI E h (fi_mo_value g) rfl hwX12 (by decide) (by decide +kernel) (v := x89) e89 dX12_next_203 ?_
                      replace hR84 := bd_to hR84 e89
                      refine lv_sipush (v := 9999) hx hb dX12_next_206 (by decide) ?_
                      refine lv_icmp_gt (tgt := 231) hx hb dX12_next_209 (by decide) (fun c90 => ?_) (fun c90 => ?_)
                      · skip
                        replace hR84 := it_t hR84 c90
                        refine lv_iconst (v := 4) hx hb dX12_next_231 (by decide) ?_
                        refine lv_goto (tgt := 236) hx hb dX12_next_232 (by decide) ?_
                        replace hR84 : fX12_next_0b236 4 t84 = R := hR84
                        refine y_putI E h hI_84 hF_84 (ty := .int) (v := 4) (fi_mo_sort g) rfl hwX12 tyX12_ok nmX12 (by decide) (by decide +kernel) (by decide +kernel) (by decide +kernel) rfl rfl (ba_none rfl) rfl dX12_next_236 (fun s92 H locs q92 hI92 hF92 h => ?_)
                        replace hR84 := bd_to hR84 q92.symm
                        have e93 : s92.1 25 = nI F25 := (congrArg (fun t : ST => t.1 25) q92).trans e85
                        have e94 : s92.1 27 = nI f1_26 := (congrArg (fun t : ST => t.1 27) q92).trans e86
                        have e95 : s92.1 26 = nI f84_26 := (congrArg (fun t : ST => t.1 26) q92).trans ef84_26
                        have e96 : s92.1 29 = x89 := (congrArg (fun t : ST => t.1 29) q92).trans e89
                        have e97 : s92.1 28 = 4 := congrArg (fun t : ST => t.1 28) q92
                        refine lv_goto (tgt := 267) hx hb dX12_next_239 (by decide) ?_
                        subst hPQ
                        exact x_vret E h ⟨hR0.trans hR84.symm, (⟨f84_26, e95, (by omega), (by omega), (fun h9 => absurd (e97.symm.trans h9) (by decide)), (fun h9 => absurd (e97.symm.trans h9) (by decide))⟩), hI92, hF92⟩ dX12_next_267
                      · skip
                        replace hR84 := it_f hR84 c90
                        refine lv_iload_n hx hb dX12_next_212 rfl (lv_at hl 0 rfl) ?_
                        refine lv_bipush (v := 48) hx hb dX12_next_213 (by decide) ?_
                        refine lv_icmp_ne (tgt := 235) hx hb dX12_next_215 (by decide) (fun c99 => ?_) (fun c99 => ?_)
                        · skip
                          replace hR84 := it_f hR84 c99
                          have b100 : ¬ m13_1n = 48 := y_ne (a := m13_1n) (b := 48) (by omega) (by omega) c99
                          refine lv_iconst (v := 2) hx hb dX12_next_235 (by decide) ?_
                          replace hR84 : fX12_next_0b236 2 t84 = R := hR84
                          refine y_putI E h hI_84 hF_84 (ty := .int) (v := 2) (fi_mo_sort g) rfl hwX12 tyX12_ok nmX12 (by decide) (by decide +kernel) (by decide +kernel) (by decide +kernel) rfl rfl (ba_none rfl) rfl dX12_next_236 (fun s101 H locs q101 hI101 hF101 h => ?_)
                          replace hR84 := bd_to hR84 q101.symm
                          have e102 : s101.1 25 = nI F25 := (congrArg (fun t : ST => t.1 25) q101).trans e85
                          have e103 : s101.1 27 = nI f1_26 := (congrArg (fun t : ST => t.1 27) q101).trans e86
                          have e104 : s101.1 26 = nI f84_26 := (congrArg (fun t : ST => t.1 26) q101).trans ef84_26
                          have e105 : s101.1 29 = x89 := (congrArg (fun t : ST => t.1 29) q101).trans e89
                          have e106 : s101.1 28 = 2 := congrArg (fun t : ST => t.1 28) q101
                          refine lv_goto (tgt := 267) hx hb dX12_next_239 (by decide) ?_
                          subst hPQ
                          exact x_vret E h ⟨hR0.trans hR84.symm, (⟨f84_26, e104, (by omega), (by omega), (fun h9 => absurd (e106.symm.trans h9) (by decide)), (fun h9 => absurd (e106.symm.trans h9) (by decide))⟩), hI101, hF101⟩ dX12_next_267
                        · skip
                          replace hR84 := it_t hR84 c99
                          have b107 : m13_1n = 48 := y_eq (a := m13_1n) (b := 48) (by omega) (by omega) c99
                          refine lv_aload_n hx hb dX12_next_218 rfl (lv_at hl 1 rfl) ?_
                          refine x_getI E h (fi_mo_at g) rfl hwX12 (by decide) (by decide +kernel) (v := nI f84_26) ef84_26 dX12_next_219 ?_
                          replace hR84 := bd_to hR84 ef84_26
                          refine lv_aload_n hx hb dX12_next_222 rfl (lv_at hl 1 rfl) ?_
                          refine x_getI E h (fi_mo_start g) rfl hwX12 (by decide) (by decide +kernel) (v := nI f1_26) e86 dX12_next_223 ?_
                          replace hR84 := bd_to hR84 e86
                          refine lv_isub hx hb dX12_next_226 ?_
                          replace hR84 := bd_to hR84 rfl
                          refine lv_iconst (v := 1) hx hb dX12_next_227 (by decide) ?_
                          refine lv_icmp_le (tgt := 235) hx hb dX12_next_228 (by decide) (fun c108 => ?_) (fun c108 => ?_)
                          · skip
                            replace hR84 := it_t hR84 c108
                            refine lv_iconst (v := 2) hx hb dX12_next_235 (by decide) ?_
                            replace hR84 : fX12_next_0b236 2 t84 = R := hR84
                            refine y_putI E h hI_84 hF_84 (ty := .int) (v := 2) (fi_mo_sort g) rfl hwX12 tyX12_ok nmX12 (by decide) (by decide +kernel) (by decide +kernel) (by decide +kernel) rfl rfl (ba_none rfl) rfl dX12_next_236 (fun s110 H locs q110 hI110 hF110 h => ?_)
                            replace hR84 := bd_to hR84 q110.symm
                            have e111 : s110.1 25 = nI F25 := (congrArg (fun t : ST => t.1 25) q110).trans e85
                            have e112 : s110.1 27 = nI f1_26 := (congrArg (fun t : ST => t.1 27) q110).trans e86
                            have e113 : s110.1 26 = nI f84_26 := (congrArg (fun t : ST => t.1 26) q110).trans ef84_26
                            have e114 : s110.1 29 = x89 := (congrArg (fun t : ST => t.1 29) q110).trans e89
                            have e115 : s110.1 28 = 2 := congrArg (fun t : ST => t.1 28) q110
                            refine lv_goto (tgt := 267) hx hb dX12_next_239 (by decide) ?_
                            subst hPQ
                            exact x_vret E h ⟨hR0.trans hR84.symm, (⟨f84_26, e113, (by omega), (by omega), (fun h9 => absurd (e115.symm.trans h9) (by decide)), (fun h9 => absurd (e115.symm.trans h9) (by decide))⟩), hI110, hF110⟩ dX12_next_267
                          · skip
                            replace hR84 := it_f hR84 c108
                            refine lv_iconst (v := 4) hx hb dX12_next_231 (by decide) ?_
                            refine lv_goto (tgt := 236) hx hb dX12_next_232 (by decide) ?_
                            replace hR84 : fX12_next_0b236 4 t84 = R := hR84
                            refine y_putI E h hI_84 hF_84 (ty := .int) (v := 4) (fi_mo_sort g) rfl hwX12 tyX12_ok nmX12 (by decide) (by decide +kernel) (by decide +kernel) (by decide +kernel) rfl rfl (ba_none rfl) rfl dX12_next_236 (fun s117 H locs q117 hI117 hF117 h => ?_)
                            replace hR84 := bd_to hR84 q117.symm
                            have e118 : s117.1 25 = nI F25 := (congrArg (fun t : ST => t.1 25) q117).trans e85
                            have e119 : s117.1 27 = nI f1_26 := (congrArg (fun t : ST => t.1 27) q117).trans e86
                            have e120 : s117.1 26 = nI f84_26 := (congrArg (fun t : ST => t.1 26) q117).trans ef84_26
                            have e121 : s117.1 29 = x89 := (congrArg (fun t : ST => t.1 29) q117).trans e89
                            have e122 : s117.1 28 = 4 := congrArg (fun t : ST => t.1 28) q117
                            refine lv_goto (tgt := 267) hx hb dX12_next_239 (by decide) ?_
                            subst hPQ
                            exact x_vret E h ⟨hR0.trans hR84.symm, (⟨f84_26, e120, (by omega), (by omega), (fun h9 => absurd (e122.symm.trans h9) (by decide)), (fun h9 => absurd (e122.symm.trans h9) (by decide))⟩), hI117, hF117⟩ dX12_next_267
                  · skip
                    obtain rfl : f84_26 = m87_1a := y_eq (by omega) (by omega) ((ef84_26).symm.trans u87_1_0)
                    obtain rfl : F25 = m87_1T := y_eq (by omega) (by omega) ((e85).symm.trans u87_1_1)
                    refine lv_bipush (v := 48) hx hb dX12_next_142 (by decide) ?_
                    refine lv_bipush (v := 57) hx hb dX12_next_144 (by decide) ?_
                    refine x_si E h (na := 3) (As := [.int (nI m87_1n), .int 48, .int 57]) (aX12_in_0 l g t84 hI_84 (nI m87_1n) 48 57) gX12_next_X12_in rfl ⟨rfl, rfl⟩ rfl (by decide +kernel) ⟨Nat.le_of_ble_eq_true rfl, Nat.le_of_ble_eq_true rfl⟩ hl.1 rfl (Nat.le_of_ble_eq_true rfl) dX12_next_146 ⟨Nat.le_of_ble_eq_true rfl, Nat.le_of_ble_eq_true rfl⟩ (fun r123 s123 H locs q123 h => ?_)
                    obtain ⟨x123, d123, rfl⟩ := q123
                    replace hR84 := bd_to hR84 x123
                    rcases d123 with ⟨rfl, u123_0_0, u123_0_1⟩ | ⟨rfl, u123_1_0⟩
                    · skip
                      have b124 : 48 ≤ m87_1n := y_nlt (a := m87_1n) (b := 48) (by omega) (by omega) u123_0_0
                      have b125 : m87_1n ≤ 57 := y_nlt (a := 57) (b := m87_1n) (by omega) (by omega) u123_0_1
                      replace hR84 := it_f hR84 (by decide)
                      refine lv_if_eq (tgt := 201) hx hb dX12_next_149 (by decide) (fun c => absurd c (by decide)) (fun _ => ?_)
                      refine lv_aload_n hx hb dX12_next_152 rfl (lv_at hl 1 rfl) ?_
                      refine lv_aload_n hx hb dX12_next_153 rfl (lv_at hl 1 rfl) ?_
                      obtain ⟨x126, e126⟩ : ∃ x, t84.1 29 = x := ⟨_, rfl⟩
                      refine x_getI E h (fi_mo_value g) rfl hwX12 (by decide) (by decide +kernel) (v := x126) e126 dX12_next_154 ?_
                      replace hR84 := bd_to hR84 e126
                      refine lv_sipush (v := 9999) hx hb dX12_next_157 (by decide) ?_
                      have j185_133 : ∀ (y133_s0 : Int32), fX12_next_0b185 (fX12_next_0l138 fu84) (nI m13_1n) y133_s0 t84 = R → ∀ (H : Heap) (locs : List Loc) (ls : Array Slot), HW g t84 s H locs → lv_has ls 2 [(1, .int (nI m13_1n)), (0, .ref (g.2.1 79))] → W p l e { frames := 3, cells := 0, slots := 0, locals := 71 } s m args below meth c H locs 0 0 (MQ below PQz args s 0 0 (Aw g)) (F0 m 185 ls [.int y133_s0, .ref (g.2.1 79)]) := by
                        intro y133_s0 hR133 H locs ls h hl
                        refine y_putI E h hI_84 hF_84 (ty := .int) (v := y133_s0) (fi_mo_value g) rfl hwX12 tyX12_ok nmX12 (by decide) (by decide +kernel) (by decide +kernel) (by decide +kernel) rfl rfl (ba_none rfl) rfl dX12_next_185 (fun s134 H locs q134 hI134 hF134 h => ?_)
                        replace hR133 := bd_to hR133 q134.symm
                        have e135 : s134.1 25 = nI F25 := (congrArg (fun t : ST => t.1 25) q134).trans e85
                        have e136 : s134.1 27 = nI f1_26 := (congrArg (fun t : ST => t.1 27) q134).trans e86
                        have e137 : s134.1 26 = nI f84_26 := (congrArg (fun t : ST => t.1 26) q134).trans ef84_26
                        have e138 : s134.1 29 = y133_s0 := congrArg (fun t : ST => t.1 29) q134
                        refine lv_aload_n hx hb dX12_next_188 rfl (lv_at hl 1 rfl) ?_
                        refine lv_dup hx hb dX12_next_189 rfl ?_
                        refine x_getI E h (fi_mo_at g) rfl hwX12 (by decide) (by decide +kernel) (v := nI f84_26) e137 dX12_next_190 ?_
                        replace hR133 := bd_to hR133 e137
                        refine lv_iconst (v := 1) hx hb dX12_next_193 (by decide) ?_
                        refine lv_iadd hx hb dX12_next_194 ?_
                        refine x_topI (v2 := nI (f84_26 + 1)) (nI_add f84_26 1) ?_
                        replace hR133 := bd_to hR133 (nI_add f84_26 1)
                        refine y_putI E h hI134 hF134 (ty := .int) (v := nI (f84_26 + 1)) (fi_mo_at g) rfl hwX12 tyX12_ok nmX12 (by decide) (by decide +kernel) (by decide +kernel) (by decide +kernel) rfl rfl (ba_some rfl (Bd.mk (n := (f84_26 + 1)) (by omega))) rfl dX12_next_195 (fun s139 H locs q139 hI139 hF139 h => ?_)
                        replace hR133 := bd_to hR133 q139.symm
                        have e140 : s139.1 25 = nI F25 := (congrArg (fun t : ST => t.1 25) q139).trans e135
                        have e141 : s139.1 27 = nI f1_26 := (congrArg (fun t : ST => t.1 27) q139).trans e136
                        have e142 : s139.1 29 = y133_s0 := (congrArg (fun t : ST => t.1 29) q139).trans e138
                        have e143 : s139.1 26 = nI (f84_26 + 1) := congrArg (fun t : ST => t.1 26) q139
                        refine lv_goto (tgt := 138) hx hb dX12_next_198 (by decide) ?_
                        exact ih84 s139 (f84_26 + 1) hI139 hF139 e140 e141 e143 (by omega) (by omega) hR133 (by omega) _ _ _ h (lv_sub hl [0, 1] rfl)
                      refine lv_icmp_le (tgt := 170) hx hb dX12_next_160 (by decide) (fun c127 => ?_) (fun c127 => ?_)
                      · skip
                        replace hR84 := it_t hR84 c127
                        refine lv_bipush (v := 10) hx hb dX12_next_170 (by decide) ?_
                        refine lv_aload_n hx hb dX12_next_172 rfl (lv_at hl 1 rfl) ?_
                        refine x_getI E h (fi_mo_value g) rfl hwX12 (by decide) (by decide +kernel) (v := x126) e126 dX12_next_173 ?_
                        replace hR84 := bd_to hR84 e126
                        refine lv_imul hx hb dX12_next_176 ?_
                        refine lv_topi (fun x129 e129 => ?_)
                        replace hR84 := bd_to hR84 e129.symm
                        refine lv_aload_n hx hb dX12_next_177 rfl (lv_at hl 1 rfl) ?_
                        refine x_vi E h (na := 0) (As := []) (aX12_here_0 l g t84 hI_84) (oc_mo g) rfl gX12_next_X12_here rfl ⟨rfl, rfl⟩ rfl (by decide +kernel) ⟨Nat.le_of_ble_eq_true rfl, Nat.le_of_ble_eq_true rfl⟩ hl.1 rfl (Nat.le_of_ble_eq_true rfl) dX12_next_178 ⟨Nat.le_of_ble_eq_true rfl, Nat.le_of_ble_eq_true rfl⟩ (fun r130 s130 H locs q130 h => ?_)
                        obtain ⟨x130, d130, rfl⟩ := q130
                        replace hR84 := bd_to hR84 x130
                        rcases d130 with rfl | ⟨m130_1a, m130_1T, m130_1n, u130_1_0, u130_1_1, u130_1_2, u130_1_3, u130_1_4, rfl⟩
                        · skip
                          refine lv_iadd hx hb dX12_next_181 ?_
                          refine lv_topi (fun x131 e131 => ?_)
                          replace hR84 := bd_to hR84 e131.symm
                          refine lv_bipush (v := 48) hx hb dX12_next_182 (by decide) ?_
                          refine lv_isub hx hb dX12_next_184 ?_
                          refine lv_topi (fun x132 e132 => ?_)
                          replace hR84 := bd_to hR84 e132.symm
                          exact j185_133 x132 hR84 _ _ _ h (lv_sub hl [0, 1] rfl)
                        · skip
                          obtain rfl : f84_26 = m130_1a := y_eq (by omega) (by omega) ((ef84_26).symm.trans u130_1_0)
                          obtain rfl : F25 = m130_1T := y_eq (by omega) (by omega) ((e85).symm.trans u130_1_1)
                          refine lv_iadd hx hb dX12_next_181 ?_
                          refine lv_topi (fun x144 e144 => ?_)
                          replace hR84 := bd_to hR84 e144.symm
                          refine lv_bipush (v := 48) hx hb dX12_next_182 (by decide) ?_
                          refine lv_isub hx hb dX12_next_184 ?_
                          refine lv_topi (fun x145 e145 => ?_)
                          replace hR84 := bd_to hR84 e145.symm
                          exact j185_133 x145 hR84 _ _ _ h (lv_sub hl [0, 1] rfl)
                      · skip
                        replace hR84 := it_f hR84 c127
                        refine lv_aload_n hx hb dX12_next_163 rfl (lv_at hl 1 rfl) ?_
                        refine x_getI E h (fi_mo_value g) rfl hwX12 (by decide) (by decide +kernel) (v := x126) e126 dX12_next_164 ?_
                        replace hR84 := bd_to hR84 e126
                        refine lv_goto (tgt := 185) hx hb dX12_next_167 (by decide) ?_
                        exact j185_133 x126 hR84 _ _ _ h (lv_sub hl [0, 1] rfl)
                    · skip
                      replace hR84 := it_t hR84 (by decide)
                      refine lv_if_eq (tgt := 201) hx hb dX12_next_149 (by decide) (fun _ => ?_) (fun c => absurd (by decide) c)
                      refine lv_aload_n hx hb dX12_next_201 rfl (lv_at hl 1 rfl) ?_
                      refine lv_aload_n hx hb dX12_next_202 rfl (lv_at hl 1 rfl) ?_
                      obtain ⟨x147, e147⟩ : ∃ x, t84.1 29 = x := ⟨_, rfl⟩
                      refine x_getI E h (fi_mo_value g) rfl hwX12 (by decide) (by decide +kernel) (v := x147) e147 dX12_next_203 ?_
                      replace hR84 := bd_to hR84 e147
                      refine lv_sipush (v := 9999) hx hb dX12_next_206 (by decide) ?_
                      refine lv_icmp_gt (tgt := 231) hx hb dX12_next_209 (by decide) (fun c148 => ?_) (fun c148 => ?_)
                      · skip
                        replace hR84 := it_t hR84 c148
                        refine lv_iconst (v := 4) hx hb dX12_next_231 (by decide) ?_
                        refine lv_goto (tgt := 236) hx hb dX12_next_232 (by decide) ?_
                        replace hR84 : fX12_next_0b236 4 t84 = R := hR84
                        refine y_putI E h hI_84 hF_84 (ty := .int) (v := 4) (fi_mo_sort g) rfl hwX12 tyX12_ok nmX12 (by decide) (by decide +kernel) (by decide +kernel) (by decide +kernel) rfl rfl (ba_none rfl) rfl dX12_next_236 (fun s150 H locs q150 hI150 hF150 h => ?_)
                        replace hR84 := bd_to hR84 q150.symm
                        have e151 : s150.1 25 = nI F25 := (congrArg (fun t : ST => t.1 25) q150).trans e85
                        have e152 : s150.1 27 = nI f1_26 := (congrArg (fun t : ST => t.1 27) q150).trans e86
                        have e153 : s150.1 26 = nI f84_26 := (congrArg (fun t : ST => t.1 26) q150).trans ef84_26
                        have e154 : s150.1 29 = x147 := (congrArg (fun t : ST => t.1 29) q150).trans e147
                        have e155 : s150.1 28 = 4 := congrArg (fun t : ST => t.1 28) q150
                        refine lv_goto (tgt := 267) hx hb dX12_next_239 (by decide) ?_
                        subst hPQ
                        exact x_vret E h ⟨hR0.trans hR84.symm, (⟨f84_26, e153, (by omega), (by omega), (fun h9 => absurd (e155.symm.trans h9) (by decide)), (fun h9 => absurd (e155.symm.trans h9) (by decide))⟩), hI150, hF150⟩ dX12_next_267
                      · skip
                        replace hR84 := it_f hR84 c148
                        refine lv_iload_n hx hb dX12_next_212 rfl (lv_at hl 0 rfl) ?_
                        refine lv_bipush (v := 48) hx hb dX12_next_213 (by decide) ?_
                        refine lv_icmp_ne (tgt := 235) hx hb dX12_next_215 (by decide) (fun c157 => ?_) (fun c157 => ?_)
                        · skip
                          replace hR84 := it_f hR84 c157
                          have b158 : ¬ m13_1n = 48 := y_ne (a := m13_1n) (b := 48) (by omega) (by omega) c157
                          refine lv_iconst (v := 2) hx hb dX12_next_235 (by decide) ?_
                          replace hR84 : fX12_next_0b236 2 t84 = R := hR84
                          refine y_putI E h hI_84 hF_84 (ty := .int) (v := 2) (fi_mo_sort g) rfl hwX12 tyX12_ok nmX12 (by decide) (by decide +kernel) (by decide +kernel) (by decide +kernel) rfl rfl (ba_none rfl) rfl dX12_next_236 (fun s159 H locs q159 hI159 hF159 h => ?_)
                          replace hR84 := bd_to hR84 q159.symm
                          have e160 : s159.1 25 = nI F25 := (congrArg (fun t : ST => t.1 25) q159).trans e85
                          have e161 : s159.1 27 = nI f1_26 := (congrArg (fun t : ST => t.1 27) q159).trans e86
                          have e162 : s159.1 26 = nI f84_26 := (congrArg (fun t : ST => t.1 26) q159).trans ef84_26
                          have e163 : s159.1 29 = x147 := (congrArg (fun t : ST => t.1 29) q159).trans e147
                          have e164 : s159.1 28 = 2 := congrArg (fun t : ST => t.1 28) q159
                          refine lv_goto (tgt := 267) hx hb dX12_next_239 (by decide) ?_
                          subst hPQ
                          exact x_vret E h ⟨hR0.trans hR84.symm, (⟨f84_26, e162, (by omega), (by omega), (fun h9 => absurd (e164.symm.trans h9) (by decide)), (fun h9 => absurd (e164.symm.trans h9) (by decide))⟩), hI159, hF159⟩ dX12_next_267
                        · skip
                          replace hR84 := it_t hR84 c157
                          have b165 : m13_1n = 48 := y_eq (a := m13_1n) (b := 48) (by omega) (by omega) c157
                          refine lv_aload_n hx hb dX12_next_218 rfl (lv_at hl 1 rfl) ?_
                          refine x_getI E h (fi_mo_at g) rfl hwX12 (by decide) (by decide +kernel) (v := nI f84_26) ef84_26 dX12_next_219 ?_
                          replace hR84 := bd_to hR84 ef84_26
                          refine lv_aload_n hx hb dX12_next_222 rfl (lv_at hl 1 rfl) ?_
                          refine x_getI E h (fi_mo_start g) rfl hwX12 (by decide) (by decide +kernel) (v := nI f1_26) e86 dX12_next_223 ?_
                          replace hR84 := bd_to hR84 e86
                          refine lv_isub hx hb dX12_next_226 ?_
                          replace hR84 := bd_to hR84 rfl
                          refine lv_iconst (v := 1) hx hb dX12_next_227 (by decide) ?_
                          refine lv_icmp_le (tgt := 235) hx hb dX12_next_228 (by decide) (fun c166 => ?_) (fun c166 => ?_)
                          · skip
                            replace hR84 := it_t hR84 c166
                            refine lv_iconst (v := 2) hx hb dX12_next_235 (by decide) ?_
                            replace hR84 : fX12_next_0b236 2 t84 = R := hR84
                            refine y_putI E h hI_84 hF_84 (ty := .int) (v := 2) (fi_mo_sort g) rfl hwX12 tyX12_ok nmX12 (by decide) (by decide +kernel) (by decide +kernel) (by decide +kernel) rfl rfl (ba_none rfl) rfl dX12_next_236 (fun s168 H locs q168 hI168 hF168 h => ?_)
                            replace hR84 := bd_to hR84 q168.symm
                            have e169 : s168.1 25 = nI F25 := (congrArg (fun t : ST => t.1 25) q168).trans e85
                            have e170 : s168.1 27 = nI f1_26 := (congrArg (fun t : ST => t.1 27) q168).trans e86
                            have e171 : s168.1 26 = nI f84_26 := (congrArg (fun t : ST => t.1 26) q168).trans ef84_26
                            have e172 : s168.1 29 = x147 := (congrArg (fun t : ST => t.1 29) q168).trans e147
                            have e173 : s168.1 28 = 2 := congrArg (fun t : ST => t.1 28) q168
                            refine lv_goto (tgt := 267) hx hb dX12_next_239 (by decide) ?_
                            subst hPQ
                            exact x_vret E h ⟨hR0.trans hR84.symm, (⟨f84_26, e171, (by omega), (by omega), (fun h9 => absurd (e173.symm.trans h9) (by decide)), (fun h9 => absurd (e173.symm.trans h9) (by decide))⟩), hI168, hF168⟩ dX12_next_267
                          · skip
                            replace hR84 := it_f hR84 c166
                            refine lv_iconst (v := 4) hx hb dX12_next_231 (by decide) ?_
                            refine lv_goto (tgt := 236) hx hb dX12_next_232 (by decide) ?_
                            replace hR84 : fX12_next_0b236 4 t84 = R := hR84
                            refine y_putI E h hI_84 hF_84 (ty := .int) (v := 4) (fi_mo_sort g) rfl hwX12 tyX12_ok nmX12 (by decide) (by decide +kernel) (by decide +kernel) (by decide +kernel) rfl rfl (ba_none rfl) rfl dX12_next_236 (fun s175 H locs q175 hI175 hF175 h => ?_)
                            replace hR84 := bd_to hR84 q175.symm
                            have e176 : s175.1 25 = nI F25 := (congrArg (fun t : ST => t.1 25) q175).trans e85
                            have e177 : s175.1 27 = nI f1_26 := (congrArg (fun t : ST => t.1 27) q175).trans e86
                            have e178 : s175.1 26 = nI f84_26 := (congrArg (fun t : ST => t.1 26) q175).trans ef84_26
                            have e179 : s175.1 29 = x147 := (congrArg (fun t : ST => t.1 29) q175).trans e147
                            have e180 : s175.1 28 = 4 := congrArg (fun t : ST => t.1 28) q175
                            refine lv_goto (tgt := 267) hx hb dX12_next_239 (by decide) ?_
                            subst hPQ
                            exact x_vret E h ⟨hR0.trans hR84.symm, (⟨f84_26, e178, (by omega), (by omega), (fun h9 => absurd (e180.symm.trans h9) (by decide)), (fun h9 => absurd (e180.symm.trans h9) (by decide))⟩), hI175, hF175⟩ dX12_next_267
              exact loop138_84 4096 s8 f1_26 hI8 hF8 e9 e11 e10 (by omega) (by omega) hR1 (by omega) _ _ _ h (lv_sub hl [0, 1] rfl)
            · skip
              replace hR1 := it_t hR1 (by decide)
              refine lv_if_eq (tgt := 242) hx hb dX12_next_135 (by decide) (fun _ => ?_) (fun c => absurd (by decide) c)
              refine lv_aload_n hx hb dX12_next_242 rfl (lv_at hl 1 rfl) ?_
              refine lv_dup hx hb dX12_next_243 rfl ?_
              refine x_getI E h (fi_mo_at g) rfl hwX12 (by decide) (by decide +kernel) (v := nI f1_26) e10 dX12_next_244 ?_
              replace hR1 := bd_to hR1 e10
              refine lv_iconst (v := 1) hx hb dX12_next_247 (by decide) ?_
              refine lv_iadd hx hb dX12_next_248 ?_
              refine x_topI (v2 := nI (f1_26 + 1)) (nI_add f1_26 1) ?_
              replace hR1 := bd_to hR1 (nI_add f1_26 1)
              refine y_putI E h hI8 hF8 (ty := .int) (v := nI (f1_26 + 1)) (fi_mo_at g) rfl hwX12 tyX12_ok nmX12 (by decide) (by decide +kernel) (by decide +kernel) (by decide +kernel) rfl rfl (ba_some rfl (Bd.mk (n := (f1_26 + 1)) (by omega))) rfl dX12_next_249 (fun s181 H locs q181 hI181 hF181 h => ?_)
              replace hR1 := bd_to hR1 q181.symm
              have e182 : s181.1 25 = nI F25 := (congrArg (fun t : ST => t.1 25) q181).trans e9
              have e183 : s181.1 27 = nI f1_26 := (congrArg (fun t : ST => t.1 27) q181).trans e11
              have e184 : s181.1 29 = 0 := (congrArg (fun t : ST => t.1 29) q181).trans e12
              have e185 : s181.1 26 = nI (f1_26 + 1) := congrArg (fun t : ST => t.1 26) q181
              refine lv_aload_n hx hb dX12_next_252 rfl (lv_at hl 1 rfl) ?_
              refine lv_iload_n hx hb dX12_next_253 rfl (lv_at hl 0 rfl) ?_
              refine lv_bipush (v := 59) hx hb dX12_next_254 (by decide) ?_
              refine lv_icmp_ne (tgt := 263) hx hb dX12_next_256 (by decide) (fun c186 => ?_) (fun c186 => ?_)
              · skip
                replace hR1 := it_f hR1 c186
                have b187 : ¬ m13_1n = 59 := y_ne (a := m13_1n) (b := 59) (by omega) (by omega) c186
                refine lv_iconst (v := 4) hx hb dX12_next_263 (by decide) ?_
                replace hR1 : fX12_next_0b264 4 s181 = R := hR1
                refine y_putI E h hI181 hF181 (ty := .int) (v := 4) (fi_mo_sort g) rfl hwX12 tyX12_ok nmX12 (by decide) (by decide +kernel) (by decide +kernel) (by decide +kernel) rfl rfl (ba_none rfl) rfl dX12_next_264 (fun s188 H locs q188 hI188 hF188 h => ?_)
                replace hR1 := bd_to hR1 q188.symm
                have e189 : s188.1 25 = nI F25 := (congrArg (fun t : ST => t.1 25) q188).trans e182
                have e190 : s188.1 27 = nI f1_26 := (congrArg (fun t : ST => t.1 27) q188).trans e183
                have e191 : s188.1 29 = 0 := (congrArg (fun t : ST => t.1 29) q188).trans e184
                have e192 : s188.1 26 = nI (f1_26 + 1) := (congrArg (fun t : ST => t.1 26) q188).trans e185
                have e193 : s188.1 28 = 4 := congrArg (fun t : ST => t.1 28) q188
                subst hPQ
                exact x_vret E h ⟨hR0.trans hR1.symm, (⟨(f1_26 + 1), e192, (by omega), (by omega), (fun h9 => absurd (e193.symm.trans h9) (by decide)), (fun h9 => absurd (e193.symm.trans h9) (by decide))⟩), hI188, hF188⟩ dX12_next_267
              · skip
                replace hR1 := it_t hR1 c186
                have b194 : m13_1n = 59 := y_eq (a := m13_1n) (b := 59) (by omega) (by omega) c186
                refine lv_iconst (v := 3) hx hb dX12_next_259 (by decide) ?_
                refine lv_goto (tgt := 264) hx hb dX12_next_260 (by decide) ?_
                replace hR1 : fX12_next_0b264 3 s181 = R := hR1
                refine y_putI E h hI181 hF181 (ty := .int) (v := 3) (fi_mo_sort g) rfl hwX12 tyX12_ok nmX12 (by decide) (by decide +kernel) (by decide +kernel) (by decide +kernel) rfl rfl (ba_none rfl) rfl dX12_next_264 (fun s195 H locs q195 hI195 hF195 h => ?_)
                replace hR1 := bd_to hR1 q195.symm
                have e196 : s195.1 25 = nI F25 := (congrArg (fun t : ST => t.1 25) q195).trans e182
                have e197 : s195.1 27 = nI f1_26 := (congrArg (fun t : ST => t.1 27) q195).trans e183
                have e198 : s195.1 29 = 0 := (congrArg (fun t : ST => t.1 29) q195).trans e184
                have e199 : s195.1 26 = nI (f1_26 + 1) := (congrArg (fun t : ST => t.1 26) q195).trans e185
                have e200 : s195.1 28 = 3 := congrArg (fun t : ST => t.1 28) q195
                subst hPQ
                exact x_vret E h ⟨hR0.trans hR1.symm, (⟨(f1_26 + 1), e199, (by omega), (by omega), (fun h9 => absurd (e200.symm.trans h9) (by decide)), (fun _ => by omega)⟩), hI195, hF195⟩ dX12_next_267
      · skip
        obtain rfl : f1_26 = m3_1a := y_eq (by omega) (by omega) ((ef1_26).symm.trans u3_1_0)
        obtain rfl : F25 = m3_1T := y_eq (by omega) (by omega) ((e2).symm.trans u3_1_1)
        refine lv_bipush (v := 32) hx hb dX12_next_4 (by decide) ?_
        refine lv_icmp_ne (tgt := 22) hx hb dX12_next_6 (by decide) (fun c201 => ?_) (fun c201 => ?_)
        · skip
          replace hR1 := it_f hR1 c201
          have b202 : ¬ m3_1n = 32 := y_ne (a := m3_1n) (b := 32) (by omega) (by omega) c201
          refine lv_aload_n hx hb dX12_next_22 rfl (lv_at hl 0 rfl) ?_
          refine lv_aload_n hx hb dX12_next_23 rfl (lv_at hl 0 rfl) ?_
          refine x_getI E h (fi_mo_at g) rfl hwX12 (by decide) (by decide +kernel) (v := nI f1_26) ef1_26 dX12_next_24 ?_
          replace hR1 := bd_to hR1 ef1_26
          refine y_putI E h hI_1 hF_1 (ty := .int) (v := nI f1_26) (fi_mo_start g) rfl hwX12 tyX12_ok nmX12 (by decide) (by decide +kernel) (by decide +kernel) (by decide +kernel) rfl rfl (ba_some rfl (Bd.mk (n := f1_26) (by omega))) rfl dX12_next_27 (fun s203 H locs q203 hI203 hF203 h => ?_)
          replace hR1 := bd_to hR1 q203.symm
          have e204 : s203.1 25 = nI F25 := (congrArg (fun t : ST => t.1 25) q203).trans e2
          have e205 : s203.1 26 = nI f1_26 := (congrArg (fun t : ST => t.1 26) q203).trans ef1_26
          have e206 : s203.1 27 = nI f1_26 := congrArg (fun t : ST => t.1 27) q203
          refine lv_aload_n hx hb dX12_next_30 rfl (lv_at hl 0 rfl) ?_
          refine lv_iconst (v := 0) hx hb dX12_next_31 (by decide) ?_
          refine y_putI E h hI203 hF203 (ty := .int) (v := 0) (fi_mo_value g) rfl hwX12 tyX12_ok nmX12 (by decide) (by decide +kernel) (by decide +kernel) (by decide +kernel) rfl rfl (ba_none rfl) rfl dX12_next_32 (fun s207 H locs q207 hI207 hF207 h => ?_)
          replace hR1 := bd_to hR1 q207.symm
          have e208 : s207.1 25 = nI F25 := (congrArg (fun t : ST => t.1 25) q207).trans e204
          have e209 : s207.1 26 = nI f1_26 := (congrArg (fun t : ST => t.1 26) q207).trans e205
          have e210 : s207.1 27 = nI f1_26 := (congrArg (fun t : ST => t.1 27) q207).trans e206
          have e211 : s207.1 29 = 0 := congrArg (fun t : ST => t.1 29) q207
          refine lv_aload_n hx hb dX12_next_35 rfl (lv_at hl 0 rfl) ?_
          refine x_vi E h (na := 0) (As := []) (aX12_here_0 l g s207 hI207) (oc_mo g) rfl gX12_next_X12_here rfl ⟨rfl, rfl⟩ rfl (by decide +kernel) ⟨Nat.le_of_ble_eq_true rfl, Nat.le_of_ble_eq_true rfl⟩ hl.1 rfl (Nat.le_of_ble_eq_true rfl) dX12_next_36 ⟨Nat.le_of_ble_eq_true rfl, Nat.le_of_ble_eq_true rfl⟩ (fun r212 s212 H locs q212 h => ?_)
          obtain ⟨x212, d212, rfl⟩ := q212
          replace hR1 := bd_to hR1 x212
          rcases d212 with rfl | ⟨m212_1a, m212_1T, m212_1n, u212_1_0, u212_1_1, u212_1_2, u212_1_3, u212_1_4, rfl⟩
          · skip
            refine lv_istore_n (lv' := [(1, .int (-1)), (0, .ref (g.2.1 79))]) hx hb dX12_next_39 rfl hl (by decide) rfl (fun ls hl => ?_)
            refine lv_iload_n hx hb dX12_next_40 rfl (lv_at hl 0 rfl) ?_
            replace hR1 := it_f hR1 (by decide)
            refine lv_if_ge (tgt := 52) hx hb dX12_next_41 (by decide) (fun c => absurd c (by decide)) (fun _ => ?_)
            refine lv_aload_n hx hb dX12_next_44 rfl (lv_at hl 1 rfl) ?_
            refine lv_iconst (v := 0) hx hb dX12_next_45 (by decide) ?_
            refine y_putI E h hI207 hF207 (ty := .int) (v := 0) (fi_mo_sort g) rfl hwX12 tyX12_ok nmX12 (by decide) (by decide +kernel) (by decide +kernel) (by decide +kernel) rfl rfl (ba_none rfl) rfl dX12_next_46 (fun s213 H locs q213 hI213 hF213 h => ?_)
            replace hR1 := bd_to hR1 q213.symm
            have e214 : s213.1 25 = nI F25 := (congrArg (fun t : ST => t.1 25) q213).trans e208
            have e215 : s213.1 26 = nI f1_26 := (congrArg (fun t : ST => t.1 26) q213).trans e209
            have e216 : s213.1 27 = nI f1_26 := (congrArg (fun t : ST => t.1 27) q213).trans e210
            have e217 : s213.1 29 = 0 := (congrArg (fun t : ST => t.1 29) q213).trans e211
            have e218 : s213.1 28 = 0 := congrArg (fun t : ST => t.1 28) q213
            refine lv_goto (tgt := 267) hx hb dX12_next_49 (by decide) ?_
            subst hPQ
            exact x_vret E h ⟨hR0.trans hR1.symm, (⟨f1_26, e215, (by omega), (by omega), (fun h9 => absurd (e218.symm.trans h9) (by decide)), (fun h9 => absurd (e218.symm.trans h9) (by decide))⟩), hI213, hF213⟩ dX12_next_267
          · skip
            obtain rfl : f1_26 = m212_1a := y_eq (by omega) (by omega) ((e209).symm.trans u212_1_0)
            obtain rfl : F25 = m212_1T := y_eq (by omega) (by omega) ((e208).symm.trans u212_1_1)
            refine lv_istore_n (lv' := [(1, .int (nI m212_1n)), (0, .ref (g.2.1 79))]) hx hb dX12_next_39 rfl hl (by decide) rfl (fun ls hl => ?_)
            refine lv_iload_n hx hb dX12_next_40 rfl (lv_at hl 0 rfl) ?_
            replace hR1 := it_t hR1 (nI_pos' (by omega))
            refine lv_if_ge (tgt := 52) hx hb dX12_next_41 (by decide) (fun _ => ?_) (fun c => absurd (nI_pos' (by omega)) c)
            refine lv_iload_n hx hb dX12_next_52 rfl (lv_at hl 0 rfl) ?_
            refine lv_bipush (v := 97) hx hb dX12_next_53 (by decide) ?_
            refine lv_bipush (v := 122) hx hb dX12_next_55 (by decide) ?_
            refine x_si E h (na := 3) (As := [.int (nI m212_1n), .int 97, .int 122]) (aX12_in_0 l g s207 hI207 (nI m212_1n) 97 122) gX12_next_X12_in rfl ⟨rfl, rfl⟩ rfl (by decide +kernel) ⟨Nat.le_of_ble_eq_true rfl, Nat.le_of_ble_eq_true rfl⟩ hl.1 rfl (Nat.le_of_ble_eq_true rfl) dX12_next_57 ⟨Nat.le_of_ble_eq_true rfl, Nat.le_of_ble_eq_true rfl⟩ (fun r219 s219 H locs q219 h => ?_)
            obtain ⟨x219, d219, rfl⟩ := q219
            replace hR1 := bd_to hR1 x219
            rcases d219 with ⟨rfl, u219_0_0, u219_0_1⟩ | ⟨rfl, u219_1_0⟩
            · skip
              have b220 : 97 ≤ m212_1n := y_nlt (a := m212_1n) (b := 97) (by omega) (by omega) u219_0_0
              have b221 : m212_1n ≤ 122 := y_nlt (a := 122) (b := m212_1n) (by omega) (by omega) u219_0_1
              replace hR1 := it_f hR1 (by decide)
              refine lv_if_eq (tgt := 127) hx hb dX12_next_60 (by decide) (fun c => absurd c (by decide)) (fun _ => ?_)
              have loop63_222 : ∀ (fu : Nat) (t222 : ST) (f222_26 : Nat), INV t222 → Fr [(26, 29)] [] σ t222 → t222.1 25 = nI F25 → t222.1 27 = nI f1_26 → t222.1 29 = 0 → t222.1 26 = nI f222_26 → f222_26 ≤ 200 → f1_26 ≤ f222_26 → fX12_next_0l63 fu t222 = R → 200 - f222_26 < fu → ∀ (H : Heap) (locs : List Loc) (ls : Array Slot), HW g t222 s H locs → lv_has ls 2 [(1, .int (nI m212_1n)), (0, .ref (g.2.1 79))] → W p l e { frames := 3, cells := 0, slots := 0, locals := 71 } s m args below meth c H locs 0 0 (MQ below PQz args s 0 0 (Aw g)) (F0 m 63 ls []) := by
                intro fu222
                induction fu222 with
                | zero => intro t222 f222_26 hI_222 hF_222 e223 e224 e225 ef222_26 pp222_0 pp222_1 hR222 hm; exact absurd hm (Nat.not_lt_zero _)
                | succ fu222 ih =>
                  have ih222 := ih
                  clear ih
                  intro t222 f222_26 hI_222 hF_222 e223 e224 e225 ef222_26 pp222_0 pp222_1 hR222 hm222 H locs ls h hl
                  replace hR222 : fX12_next_0b63 (fX12_next_0l63 fu222) t222 = R := hR222
                  refine lv_aload_n hx hb dX12_next_63 rfl (lv_at hl 1 rfl) ?_
                  refine x_vi E h (na := 0) (As := []) (aX12_here_0 l g t222 hI_222) (oc_mo g) rfl gX12_next_X12_here rfl ⟨rfl, rfl⟩ rfl (by decide +kernel) ⟨Nat.le_of_ble_eq_true rfl, Nat.le_of_ble_eq_true rfl⟩ hl.1 rfl (Nat.le_of_ble_eq_true rfl) dX12_next_64 ⟨Nat.le_of_ble_eq_true rfl, Nat.le_of_ble_eq_true rfl⟩ (fun r226 s226 H locs q226 h => ?_)
                  obtain ⟨x226, d226, rfl⟩ := q226
                  replace hR222 := bd_to hR222 x226
                  rcases d226 with rfl | ⟨m226_1a, m226_1T, m226_1n, u226_1_0, u226_1_1, u226_1_2, u226_1_3, u226_1_4, rfl⟩
                  · skip
                    refine lv_bipush (v := 97) hx hb dX12_next_67 (by decide) ?_
                    refine lv_bipush (v := 122) hx hb dX12_next_69 (by decide) ?_
                    refine x_si E h (na := 3) (As := [.int (-1), .int 97, .int 122]) (aX12_in_0 l g t222 hI_222 (-1) 97 122) gX12_next_X12_in rfl ⟨rfl, rfl⟩ rfl (by decide +kernel) ⟨Nat.le_of_ble_eq_true rfl, Nat.le_of_ble_eq_true rfl⟩ hl.1 rfl (Nat.le_of_ble_eq_true rfl) dX12_next_71 ⟨Nat.le_of_ble_eq_true rfl, Nat.le_of_ble_eq_true rfl⟩ (fun r227 s227 H locs q227 h => ?_)
                    obtain ⟨x227, d227, rfl⟩ := q227
                    replace hR222 := bd_to hR222 x227
                    rcases d227 with ⟨rfl, u227_0_0, u227_0_1⟩ | ⟨rfl, u227_1_0⟩
                    · skip
                      exact absurd (by decide) u227_0_0
                    · skip
                      replace hR222 := it_t hR222 (by decide)
                      refine lv_if_eq (tgt := 90) hx hb dX12_next_74 (by decide) (fun _ => ?_) (fun c => absurd (by decide) c)
                      refine lv_aload_n hx hb dX12_next_90 rfl (lv_at hl 1 rfl) ?_
                      refine lv_aload_n hx hb dX12_next_91 rfl (lv_at hl 1 rfl) ?_
                      refine lv_aload_n hx hb dX12_next_92 rfl (lv_at hl 1 rfl) ?_
                      refine x_getI E h (fi_mo_start g) rfl hwX12 (by decide) (by decide +kernel) (v := nI f1_26) e224 dX12_next_93 ?_
                      replace hR222 := bd_to hR222 e224
                      refine lv_aload_n hx hb dX12_next_96 rfl (lv_at hl 1 rfl) ?_
                      refine x_getI E h (fi_mo_at g) rfl hwX12 (by decide) (by decide +kernel) (v := nI f222_26) ef222_26 dX12_next_97 ?_
                      replace hR222 := bd_to hR222 ef222_26
                      refine x_vi E h (na := 2) (As := [.int (nI f1_26), .int (nI f222_26)]) (aX12_wordOf_0 l g t222 hI_222 f1_26 f222_26 (by omega) (by omega)) (oc_mo g) rfl gX12_next_X12_wordOf rfl ⟨rfl, rfl⟩ rfl (by decide +kernel) ⟨Nat.le_of_ble_eq_true rfl, Nat.le_of_ble_eq_true rfl⟩ hl.1 rfl (Nat.le_of_ble_eq_true rfl) dX12_next_100 ⟨Nat.le_of_ble_eq_true rfl, Nat.le_of_ble_eq_true rfl⟩ (fun r228 s228 H locs q228 h => ?_)
                      obtain ⟨x228, d228, rfl⟩ := q228
                      replace hR222 := bd_to hR222 x228
                      refine y_putI E h hI_222 hF_222 (ty := .int) (v := r228) (fi_mo_value g) rfl hwX12 tyX12_ok nmX12 (by decide) (by decide +kernel) (by decide +kernel) (by decide +kernel) rfl rfl (ba_none rfl) rfl dX12_next_103 (fun s229 H locs q229 hI229 hF229 h => ?_)
                      replace hR222 := bd_to hR222 q229.symm
                      have e230 : s229.1 25 = nI F25 := (congrArg (fun t : ST => t.1 25) q229).trans e223
                      have e231 : s229.1 27 = nI f1_26 := (congrArg (fun t : ST => t.1 27) q229).trans e224
                      have e232 : s229.1 26 = nI f222_26 := (congrArg (fun t : ST => t.1 26) q229).trans ef222_26
                      have e233 : s229.1 29 = r228 := congrArg (fun t : ST => t.1 29) q229
                      refine lv_aload_n hx hb dX12_next_106 rfl (lv_at hl 1 rfl) ?_
                      refine lv_aload_n hx hb dX12_next_107 rfl (lv_at hl 1 rfl) ?_
                      refine x_getI E h (fi_mo_value g) rfl hwX12 (by decide) (by decide +kernel) (v := r228) e233 dX12_next_108 ?_
                      replace hR222 := bd_to hR222 e233
                      refine lv_bipush (v := (-9)) hx hb dX12_next_111 (by decide) ?_
                      refine lv_icmp_ne (tgt := 120) hx hb dX12_next_113 (by decide) (fun c234 => ?_) (fun c234 => ?_)
                      · skip
                        replace hR222 := it_f hR222 c234
                        rcases d228 with rfl | ⟨n236, b236, rfl⟩
                        · exact absurd c234 (by decide)
                        refine lv_iconst (v := 1) hx hb dX12_next_120 (by decide) ?_
                        replace hR222 : fX12_next_0b121 1 s229 = R := hR222
                        refine y_putI E h hI229 hF229 (ty := .int) (v := 1) (fi_mo_sort g) rfl hwX12 tyX12_ok nmX12 (by decide) (by decide +kernel) (by decide +kernel) (by decide +kernel) rfl rfl (ba_none rfl) rfl dX12_next_121 (fun s237 H locs q237 hI237 hF237 h => ?_)
                        replace hR222 := bd_to hR222 q237.symm
                        have e238 : s237.1 25 = nI F25 := (congrArg (fun t : ST => t.1 25) q237).trans e230
                        have e239 : s237.1 27 = nI f1_26 := (congrArg (fun t : ST => t.1 27) q237).trans e231
                        have e240 : s237.1 26 = nI f222_26 := (congrArg (fun t : ST => t.1 26) q237).trans e232
                        have e241 : s237.1 29 = nI n236 := (congrArg (fun t : ST => t.1 29) q237).trans e233
                        have e242 : s237.1 28 = 1 := congrArg (fun t : ST => t.1 28) q237
                        refine lv_goto (tgt := 267) hx hb dX12_next_124 (by decide) ?_
                        subst hPQ
                        exact x_vret E h ⟨hR0.trans hR222.symm, (⟨f222_26, e240, (by omega), (by omega), (fun _ => ⟨n236, by omega, e241⟩), (fun h9 => absurd (e242.symm.trans h9) (by decide))⟩), hI237, hF237⟩ dX12_next_267
                      · skip
                        replace hR222 := it_t hR222 c234
                        subst c234
                        refine lv_iconst (v := 4) hx hb dX12_next_116 (by decide) ?_
                        refine lv_goto (tgt := 121) hx hb dX12_next_117 (by decide) ?_
                        replace hR222 : fX12_next_0b121 4 s229 = R := hR222
                        refine y_putI E h hI229 hF229 (ty := .int) (v := 4) (fi_mo_sort g) rfl hwX12 tyX12_ok nmX12 (by decide) (by decide +kernel) (by decide +kernel) (by decide +kernel) rfl rfl (ba_none rfl) rfl dX12_next_121 (fun s244 H locs q244 hI244 hF244 h => ?_)
                        replace hR222 := bd_to hR222 q244.symm
                        have e245 : s244.1 25 = nI F25 := (congrArg (fun t : ST => t.1 25) q244).trans e230
                        have e246 : s244.1 27 = nI f1_26 := (congrArg (fun t : ST => t.1 27) q244).trans e231
                        have e247 : s244.1 26 = nI f222_26 := (congrArg (fun t : ST => t.1 26) q244).trans e232
                        have e248 : s244.1 29 = (-9) := (congrArg (fun t : ST => t.1 29) q244).trans e233
                        have e249 : s244.1 28 = 4 := congrArg (fun t : ST => t.1 28) q244
                        refine lv_goto (tgt := 267) hx hb dX12_next_124 (by decide) ?_
                        subst hPQ
                        exact x_vret E h ⟨hR0.trans hR222.symm, (⟨f222_26, e247, (by omega), (by omega), (fun h9 => absurd (e249.symm.trans h9) (by decide)), (fun h9 => absurd (e249.symm.trans h9) (by decide))⟩), hI244, hF244⟩ dX12_next_267
                  · skip
                    obtain rfl : f222_26 = m226_1a := y_eq (by omega) (by omega) ((ef222_26).symm.trans u226_1_0)
                    obtain rfl : F25 = m226_1T := y_eq (by omega) (by omega) ((e223).symm.trans u226_1_1)
                    refine lv_bipush (v := 97) hx hb dX12_next_67 (by decide) ?_
                    refine lv_bipush (v := 122) hx hb dX12_next_69 (by decide) ?_
                    refine x_si E h (na := 3) (As := [.int (nI m226_1n), .int 97, .int 122]) (aX12_in_0 l g t222 hI_222 (nI m226_1n) 97 122) gX12_next_X12_in rfl ⟨rfl, rfl⟩ rfl (by decide +kernel) ⟨Nat.le_of_ble_eq_true rfl, Nat.le_of_ble_eq_true rfl⟩ hl.1 rfl (Nat.le_of_ble_eq_true rfl) dX12_next_71 ⟨Nat.le_of_ble_eq_true rfl, Nat.le_of_ble_eq_true rfl⟩ (fun r250 s250 H locs q250 h => ?_)
                    obtain ⟨x250, d250, rfl⟩ := q250
                    replace hR222 := bd_to hR222 x250
                    rcases d250 with ⟨rfl, u250_0_0, u250_0_1⟩ | ⟨rfl, u250_1_0⟩
                    · skip
                      have b251 : 97 ≤ m226_1n := y_nlt (a := m226_1n) (b := 97) (by omega) (by omega) u250_0_0
                      have b252 : m226_1n ≤ 122 := y_nlt (a := 122) (b := m226_1n) (by omega) (by omega) u250_0_1
                      replace hR222 := it_f hR222 (by decide)
                      refine lv_if_eq (tgt := 90) hx hb dX12_next_74 (by decide) (fun c => absurd c (by decide)) (fun _ => ?_)
                      refine lv_aload_n hx hb dX12_next_77 rfl (lv_at hl 1 rfl) ?_
                      refine lv_dup hx hb dX12_next_78 rfl ?_
                      refine x_getI E h (fi_mo_at g) rfl hwX12 (by decide) (by decide +kernel) (v := nI f222_26) ef222_26 dX12_next_79 ?_
                      replace hR222 := bd_to hR222 ef222_26
                      refine lv_iconst (v := 1) hx hb dX12_next_82 (by decide) ?_
                      refine lv_iadd hx hb dX12_next_83 ?_
                      refine x_topI (v2 := nI (f222_26 + 1)) (nI_add f222_26 1) ?_
                      replace hR222 := bd_to hR222 (nI_add f222_26 1)
                      refine y_putI E h hI_222 hF_222 (ty := .int) (v := nI (f222_26 + 1)) (fi_mo_at g) rfl hwX12 tyX12_ok nmX12 (by decide) (by decide +kernel) (by decide +kernel) (by decide +kernel) rfl rfl (ba_some rfl (Bd.mk (n := (f222_26 + 1)) (by omega))) rfl dX12_next_84 (fun s253 H locs q253 hI253 hF253 h => ?_)
                      replace hR222 := bd_to hR222 q253.symm
                      have e254 : s253.1 25 = nI F25 := (congrArg (fun t : ST => t.1 25) q253).trans e223
                      have e255 : s253.1 27 = nI f1_26 := (congrArg (fun t : ST => t.1 27) q253).trans e224
                      have e256 : s253.1 29 = 0 := (congrArg (fun t : ST => t.1 29) q253).trans e225
                      have e257 : s253.1 26 = nI (f222_26 + 1) := congrArg (fun t : ST => t.1 26) q253
                      refine lv_goto (tgt := 63) hx hb dX12_next_87 (by decide) ?_
                      exact ih222 s253 (f222_26 + 1) hI253 hF253 e254 e255 e256 e257 (by omega) (by omega) hR222 (by omega) _ _ _ h (lv_sub hl [0, 1] rfl)
                    · skip
                      replace hR222 := it_t hR222 (by decide)
                      refine lv_if_eq (tgt := 90) hx hb dX12_next_74 (by decide) (fun _ => ?_) (fun c => absurd (by decide) c)
                      refine lv_aload_n hx hb dX12_next_90 rfl (lv_at hl 1 rfl) ?_
                      refine lv_aload_n hx hb dX12_next_91 rfl (lv_at hl 1 rfl) ?_
                      refine lv_aload_n hx hb dX12_next_92 rfl (lv_at hl 1 rfl) ?_
                      refine x_getI E h (fi_mo_start g) rfl hwX12 (by decide) (by decide +kernel) (v := nI f1_26) e224 dX12_next_93 ?_
                      replace hR222 := bd_to hR222 e224
                      refine lv_aload_n hx hb dX12_next_96 rfl (lv_at hl 1 rfl) ?_
                      refine x_getI E h (fi_mo_at g) rfl hwX12 (by decide) (by decide +kernel) (v := nI f222_26) ef222_26 dX12_next_97 ?_
                      replace hR222 := bd_to hR222 ef222_26
                      refine x_vi E h (na := 2) (As := [.int (nI f1_26), .int (nI f222_26)]) (aX12_wordOf_0 l g t222 hI_222 f1_26 f222_26 (by omega) (by omega)) (oc_mo g) rfl gX12_next_X12_wordOf rfl ⟨rfl, rfl⟩ rfl (by decide +kernel) ⟨Nat.le_of_ble_eq_true rfl, Nat.le_of_ble_eq_true rfl⟩ hl.1 rfl (Nat.le_of_ble_eq_true rfl) dX12_next_100 ⟨Nat.le_of_ble_eq_true rfl, Nat.le_of_ble_eq_true rfl⟩ (fun r258 s258 H locs q258 h => ?_)
                      obtain ⟨x258, d258, rfl⟩ := q258
                      replace hR222 := bd_to hR222 x258
                      refine y_putI E h hI_222 hF_222 (ty := .int) (v := r258) (fi_mo_value g) rfl hwX12 tyX12_ok nmX12 (by decide) (by decide +kernel) (by decide +kernel) (by decide +kernel) rfl rfl (ba_none rfl) rfl dX12_next_103 (fun s259 H locs q259 hI259 hF259 h => ?_)
                      replace hR222 := bd_to hR222 q259.symm
                      have e260 : s259.1 25 = nI F25 := (congrArg (fun t : ST => t.1 25) q259).trans e223
                      have e261 : s259.1 27 = nI f1_26 := (congrArg (fun t : ST => t.1 27) q259).trans e224
                      have e262 : s259.1 26 = nI f222_26 := (congrArg (fun t : ST => t.1 26) q259).trans ef222_26
                      have e263 : s259.1 29 = r258 := congrArg (fun t : ST => t.1 29) q259
                      refine lv_aload_n hx hb dX12_next_106 rfl (lv_at hl 1 rfl) ?_
                      refine lv_aload_n hx hb dX12_next_107 rfl (lv_at hl 1 rfl) ?_
                      refine x_getI E h (fi_mo_value g) rfl hwX12 (by decide) (by decide +kernel) (v := r258) e263 dX12_next_108 ?_
                      replace hR222 := bd_to hR222 e263
                      refine lv_bipush (v := (-9)) hx hb dX12_next_111 (by decide) ?_
                      refine lv_icmp_ne (tgt := 120) hx hb dX12_next_113 (by decide) (fun c264 => ?_) (fun c264 => ?_)
                      · skip
                        replace hR222 := it_f hR222 c264
                        rcases d258 with rfl | ⟨n266, b266, rfl⟩
                        · exact absurd c264 (by decide)
                        refine lv_iconst (v := 1) hx hb dX12_next_120 (by decide) ?_
                        replace hR222 : fX12_next_0b121 1 s259 = R := hR222
                        refine y_putI E h hI259 hF259 (ty := .int) (v := 1) (fi_mo_sort g) rfl hwX12 tyX12_ok nmX12 (by decide) (by decide +kernel) (by decide +kernel) (by decide +kernel) rfl rfl (ba_none rfl) rfl dX12_next_121 (fun s267 H locs q267 hI267 hF267 h => ?_)
                        replace hR222 := bd_to hR222 q267.symm
                        have e268 : s267.1 25 = nI F25 := (congrArg (fun t : ST => t.1 25) q267).trans e260
                        have e269 : s267.1 27 = nI f1_26 := (congrArg (fun t : ST => t.1 27) q267).trans e261
                        have e270 : s267.1 26 = nI f222_26 := (congrArg (fun t : ST => t.1 26) q267).trans e262
                        have e271 : s267.1 29 = nI n266 := (congrArg (fun t : ST => t.1 29) q267).trans e263
                        have e272 : s267.1 28 = 1 := congrArg (fun t : ST => t.1 28) q267
                        refine lv_goto (tgt := 267) hx hb dX12_next_124 (by decide) ?_
                        subst hPQ
                        exact x_vret E h ⟨hR0.trans hR222.symm, (⟨f222_26, e270, (by omega), (by omega), (fun _ => ⟨n266, by omega, e271⟩), (fun h9 => absurd (e272.symm.trans h9) (by decide))⟩), hI267, hF267⟩ dX12_next_267
                      · skip
                        replace hR222 := it_t hR222 c264
                        subst c264
                        refine lv_iconst (v := 4) hx hb dX12_next_116 (by decide) ?_
                        refine lv_goto (tgt := 121) hx hb dX12_next_117 (by decide) ?_
                        replace hR222 : fX12_next_0b121 4 s259 = R := hR222
                        refine y_putI E h hI259 hF259 (ty := .int) (v := 4) (fi_mo_sort g) rfl hwX12 tyX12_ok nmX12 (by decide) (by decide +kernel) (by decide +kernel) (by decide +kernel) rfl rfl (ba_none rfl) rfl dX12_next_121 (fun s274 H locs q274 hI274 hF274 h => ?_)
                        replace hR222 := bd_to hR222 q274.symm
                        have e275 : s274.1 25 = nI F25 := (congrArg (fun t : ST => t.1 25) q274).trans e260
                        have e276 : s274.1 27 = nI f1_26 := (congrArg (fun t : ST => t.1 27) q274).trans e261
                        have e277 : s274.1 26 = nI f222_26 := (congrArg (fun t : ST => t.1 26) q274).trans e262
                        have e278 : s274.1 29 = (-9) := (congrArg (fun t : ST => t.1 29) q274).trans e263
                        have e279 : s274.1 28 = 4 := congrArg (fun t : ST => t.1 28) q274
                        refine lv_goto (tgt := 267) hx hb dX12_next_124 (by decide) ?_
                        subst hPQ
                        exact x_vret E h ⟨hR0.trans hR222.symm, (⟨f222_26, e277, (by omega), (by omega), (fun h9 => absurd (e279.symm.trans h9) (by decide)), (fun h9 => absurd (e279.symm.trans h9) (by decide))⟩), hI274, hF274⟩ dX12_next_267
              exact loop63_222 4096 s207 f1_26 hI207 hF207 e208 e210 e211 e209 (by omega) (by omega) hR1 (by omega) _ _ _ h (lv_sub hl [0, 1] rfl)
            · skip
              replace hR1 := it_t hR1 (by decide)
              refine lv_if_eq (tgt := 127) hx hb dX12_next_60 (by decide) (fun _ => ?_) (fun c => absurd (by decide) c)
              refine lv_iload_n hx hb dX12_next_127 rfl (lv_at hl 0 rfl) ?_
              refine lv_bipush (v := 48) hx hb dX12_next_128 (by decide) ?_
              refine lv_bipush (v := 57) hx hb dX12_next_130 (by decide) ?_
              refine x_si E h (na := 3) (As := [.int (nI m212_1n), .int 48, .int 57]) (aX12_in_0 l g s207 hI207 (nI m212_1n) 48 57) gX12_next_X12_in rfl ⟨rfl, rfl⟩ rfl (by decide +kernel) ⟨Nat.le_of_ble_eq_true rfl, Nat.le_of_ble_eq_true rfl⟩ hl.1 rfl (Nat.le_of_ble_eq_true rfl) dX12_next_132 ⟨Nat.le_of_ble_eq_true rfl, Nat.le_of_ble_eq_true rfl⟩ (fun r280 s280 H locs q280 h => ?_)
              obtain ⟨x280, d280, rfl⟩ := q280
              replace hR1 := bd_to hR1 x280
              rcases d280 with ⟨rfl, u280_0_0, u280_0_1⟩ | ⟨rfl, u280_1_0⟩
              · skip
                have b281 : 48 ≤ m212_1n := y_nlt (a := m212_1n) (b := 48) (by omega) (by omega) u280_0_0
                have b282 : m212_1n ≤ 57 := y_nlt (a := 57) (b := m212_1n) (by omega) (by omega) u280_0_1
                replace hR1 := it_f hR1 (by decide)
                refine lv_if_eq (tgt := 242) hx hb dX12_next_135 (by decide) (fun c => absurd c (by decide)) (fun _ => ?_)
                have loop138_283 : ∀ (fu : Nat) (t283 : ST) (f283_26 : Nat), INV t283 → Fr [(26, 29)] [] σ t283 → t283.1 25 = nI F25 → t283.1 27 = nI f1_26 → t283.1 26 = nI f283_26 → f283_26 ≤ 200 → f1_26 ≤ f283_26 → fX12_next_0l138 fu (nI m212_1n) t283 = R → 200 - f283_26 < fu → ∀ (H : Heap) (locs : List Loc) (ls : Array Slot), HW g t283 s H locs → lv_has ls 2 [(1, .int (nI m212_1n)), (0, .ref (g.2.1 79))] → W p l e { frames := 3, cells := 0, slots := 0, locals := 71 } s m args below meth c H locs 0 0 (MQ below PQz args s 0 0 (Aw g)) (F0 m 138 ls []) := by
                  intro fu283
                  induction fu283 with
                  | zero => intro t283 f283_26 hI_283 hF_283 e284 e285 ef283_26 pp283_0 pp283_1 hR283 hm; exact absurd hm (Nat.not_lt_zero _)
                  | succ fu283 ih =>
                    have ih283 := ih
                    clear ih
                    intro t283 f283_26 hI_283 hF_283 e284 e285 ef283_26 pp283_0 pp283_1 hR283 hm283 H locs ls h hl
                    replace hR283 : fX12_next_0b138 (fX12_next_0l138 fu283) (nI m212_1n) t283 = R := hR283
                    refine lv_aload_n hx hb dX12_next_138 rfl (lv_at hl 1 rfl) ?_
                    refine x_vi E h (na := 0) (As := []) (aX12_here_0 l g t283 hI_283) (oc_mo g) rfl gX12_next_X12_here rfl ⟨rfl, rfl⟩ rfl (by decide +kernel) ⟨Nat.le_of_ble_eq_true rfl, Nat.le_of_ble_eq_true rfl⟩ hl.1 rfl (Nat.le_of_ble_eq_true rfl) dX12_next_139 ⟨Nat.le_of_ble_eq_true rfl, Nat.le_of_ble_eq_true rfl⟩ (fun r286 s286 H locs q286 h => ?_)
                    obtain ⟨x286, d286, rfl⟩ := q286
                    replace hR283 := bd_to hR283 x286
                    rcases d286 with rfl | ⟨m286_1a, m286_1T, m286_1n, u286_1_0, u286_1_1, u286_1_2, u286_1_3, u286_1_4, rfl⟩
                    · skip
                      refine lv_bipush (v := 48) hx hb dX12_next_142 (by decide) ?_
                      refine lv_bipush (v := 57) hx hb dX12_next_144 (by decide) ?_
                      refine x_si E h (na := 3) (As := [.int (-1), .int 48, .int 57]) (aX12_in_0 l g t283 hI_283 (-1) 48 57) gX12_next_X12_in rfl ⟨rfl, rfl⟩ rfl (by decide +kernel) ⟨Nat.le_of_ble_eq_true rfl, Nat.le_of_ble_eq_true rfl⟩ hl.1 rfl (Nat.le_of_ble_eq_true rfl) dX12_next_146 ⟨Nat.le_of_ble_eq_true rfl, Nat.le_of_ble_eq_true rfl⟩ (fun r287 s287 H locs q287 h => ?_)
                      obtain ⟨x287, d287, rfl⟩ := q287
                      replace hR283 := bd_to hR283 x287
                      rcases d287 with ⟨rfl, u287_0_0, u287_0_1⟩ | ⟨rfl, u287_1_0⟩
                      · skip
                        exact absurd (by decide) u287_0_0
                      · skip
                        replace hR283 := it_t hR283 (by decide)
                        refine lv_if_eq (tgt := 201) hx hb dX12_next_149 (by decide) (fun _ => ?_) (fun c => absurd (by decide) c)
                        refine lv_aload_n hx hb dX12_next_201 rfl (lv_at hl 1 rfl) ?_
                        refine lv_aload_n hx hb dX12_next_202 rfl (lv_at hl 1 rfl) ?_
                        obtain ⟨x288, e288⟩ : ∃ x, t283.1 29 = x := ⟨_, rfl⟩
                        refine x_getI E h (fi_mo_value g) rfl hwX12 (by decide) (by decide +kernel) (v := x288) e288 dX12_next_203 ?_
                        replace hR283 := bd_to hR283 e288
                        refine lv_sipush (v := 9999) hx hb dX12_next_206 (by decide) ?_
                        refine lv_icmp_gt (tgt := 231) hx hb dX12_next_209 (by decide) (fun c289 => ?_) (fun c289 => ?_)
                        · skip
                          replace hR283 := it_t hR283 c289
                          refine lv_iconst (v := 4) hx hb dX12_next_231 (by decide) ?_
                          refine lv_goto (tgt := 236) hx hb dX12_next_232 (by decide) ?_
                          replace hR283 : fX12_next_0b236 4 t283 = R := hR283
                          refine y_putI E h hI_283 hF_283 (ty := .int) (v := 4) (fi_mo_sort g) rfl hwX12 tyX12_ok nmX12 (by decide) (by decide +kernel) (by decide +kernel) (by decide +kernel) rfl rfl (ba_none rfl) rfl dX12_next_236 (fun s291 H locs q291 hI291 hF291 h => ?_)
                          replace hR283 := bd_to hR283 q291.symm
                          have e292 : s291.1 25 = nI F25 := (congrArg (fun t : ST => t.1 25) q291).trans e284
                          have e293 : s291.1 27 = nI f1_26 := (congrArg (fun t : ST => t.1 27) q291).trans e285
                          have e294 : s291.1 26 = nI f283_26 := (congrArg (fun t : ST => t.1 26) q291).trans ef283_26
                          have e295 : s291.1 29 = x288 := (congrArg (fun t : ST => t.1 29) q291).trans e288
                          have e296 : s291.1 28 = 4 := congrArg (fun t : ST => t.1 28) q291
                          refine lv_goto (tgt := 267) hx hb dX12_next_239 (by decide) ?_
                          subst hPQ
                          exact x_vret E h ⟨hR0.trans hR283.symm, (⟨f283_26, e294, (by omega), (by omega), (fun h9 => absurd (e296.symm.trans h9) (by decide)), (fun h9 => absurd (e296.symm.trans h9) (by decide))⟩), hI291, hF291⟩ dX12_next_267
                        · skip
                          replace hR283 := it_f hR283 c289
                          refine lv_iload_n hx hb dX12_next_212 rfl (lv_at hl 0 rfl) ?_
                          refine lv_bipush (v := 48) hx hb dX12_next_213 (by decide) ?_
                          refine lv_icmp_ne (tgt := 235) hx hb dX12_next_215 (by decide) (fun c298 => ?_) (fun c298 => ?_)
                          · skip
                            replace hR283 := it_f hR283 c298
                            have b299 : ¬ m212_1n = 48 := y_ne (a := m212_1n) (b := 48) (by omega) (by omega) c298
                            refine lv_iconst (v := 2) hx hb dX12_next_235 (by decide) ?_
                            replace hR283 : fX12_next_0b236 2 t283 = R := hR283
                            refine y_putI E h hI_283 hF_283 (ty := .int) (v := 2) (fi_mo_sort g) rfl hwX12 tyX12_ok nmX12 (by decide) (by decide +kernel) (by decide +kernel) (by decide +kernel) rfl rfl (ba_none rfl) rfl dX12_next_236 (fun s300 H locs q300 hI300 hF300 h => ?_)
                            replace hR283 := bd_to hR283 q300.symm
                            have e301 : s300.1 25 = nI F25 := (congrArg (fun t : ST => t.1 25) q300).trans e284
                            have e302 : s300.1 27 = nI f1_26 := (congrArg (fun t : ST => t.1 27) q300).trans e285
                            have e303 : s300.1 26 = nI f283_26 := (congrArg (fun t : ST => t.1 26) q300).trans ef283_26
                            have e304 : s300.1 29 = x288 := (congrArg (fun t : ST => t.1 29) q300).trans e288
                            have e305 : s300.1 28 = 2 := congrArg (fun t : ST => t.1 28) q300
                            refine lv_goto (tgt := 267) hx hb dX12_next_239 (by decide) ?_
                            subst hPQ
                            exact x_vret E h ⟨hR0.trans hR283.symm, (⟨f283_26, e303, (by omega), (by omega), (fun h9 => absurd (e305.symm.trans h9) (by decide)), (fun h9 => absurd (e305.symm.trans h9) (by decide))⟩), hI300, hF300⟩ dX12_next_267
                          · skip
                            replace hR283 := it_t hR283 c298
                            have b306 : m212_1n = 48 := y_eq (a := m212_1n) (b := 48) (by omega) (by omega) c298
                            refine lv_aload_n hx hb dX12_next_218 rfl (lv_at hl 1 rfl) ?_
                            refine x_getI E h (fi_mo_at g) rfl hwX12 (by decide) (by decide +kernel) (v := nI f283_26) ef283_26 dX12_next_219 ?_
                            replace hR283 := bd_to hR283 ef283_26
                            refine lv_aload_n hx hb dX12_next_222 rfl (lv_at hl 1 rfl) ?_
                            refine x_getI E h (fi_mo_start g) rfl hwX12 (by decide) (by decide +kernel) (v := nI f1_26) e285 dX12_next_223 ?_
                            replace hR283 := bd_to hR283 e285
                            refine lv_isub hx hb dX12_next_226 ?_
                            replace hR283 := bd_to hR283 rfl
                            refine lv_iconst (v := 1) hx hb dX12_next_227 (by decide) ?_
                            refine lv_icmp_le (tgt := 235) hx hb dX12_next_228 (by decide) (fun c307 => ?_) (fun c307 => ?_)
                            · skip
                              replace hR283 := it_t hR283 c307
                              refine lv_iconst (v := 2) hx hb dX12_next_235 (by decide) ?_
                              replace hR283 : fX12_next_0b236 2 t283 = R := hR283
                              refine y_putI E h hI_283 hF_283 (ty := .int) (v := 2) (fi_mo_sort g) rfl hwX12 tyX12_ok nmX12 (by decide) (by decide +kernel) (by decide +kernel) (by decide +kernel) rfl rfl (ba_none rfl) rfl dX12_next_236 (fun s309 H locs q309 hI309 hF309 h => ?_)
                              replace hR283 := bd_to hR283 q309.symm
                              have e310 : s309.1 25 = nI F25 := (congrArg (fun t : ST => t.1 25) q309).trans e284
                              have e311 : s309.1 27 = nI f1_26 := (congrArg (fun t : ST => t.1 27) q309).trans e285
                              have e312 : s309.1 26 = nI f283_26 := (congrArg (fun t : ST => t.1 26) q309).trans ef283_26
                              have e313 : s309.1 29 = x288 := (congrArg (fun t : ST => t.1 29) q309).trans e288
                              have e314 : s309.1 28 = 2 := congrArg (fun t : ST => t.1 28) q309
                              refine lv_goto (tgt := 267) hx hb dX12_next_239 (by decide) ?_
                              subst hPQ
                              exact x_vret E h ⟨hR0.trans hR283.symm, (⟨f283_26, e312, (by omega), (by omega), (fun h9 => absurd (e314.symm.trans h9) (by decide)), (fun h9 => absurd (e314.symm.trans h9) (by decide))⟩), hI309, hF309⟩ dX12_next_267
                            · skip
                              replace hR283 := it_f hR283 c307
                              refine lv_iconst (v := 4) hx hb dX12_next_231 (by decide) ?_
                              refine lv_goto (tgt := 236) hx hb dX12_next_232 (by decide) ?_
                              replace hR283 : fX12_next_0b236 4 t283 = R := hR283
                              refine y_putI E h hI_283 hF_283 (ty := .int) (v := 4) (fi_mo_sort g) rfl hwX12 tyX12_ok nmX12 (by decide) (by decide +kernel) (by decide +kernel) (by decide +kernel) rfl rfl (ba_none rfl) rfl dX12_next_236 (fun s316 H locs q316 hI316 hF316 h => ?_)
                              replace hR283 := bd_to hR283 q316.symm
                              have e317 : s316.1 25 = nI F25 := (congrArg (fun t : ST => t.1 25) q316).trans e284
                              have e318 : s316.1 27 = nI f1_26 := (congrArg (fun t : ST => t.1 27) q316).trans e285
                              have e319 : s316.1 26 = nI f283_26 := (congrArg (fun t : ST => t.1 26) q316).trans ef283_26
                              have e320 : s316.1 29 = x288 := (congrArg (fun t : ST => t.1 29) q316).trans e288
                              have e321 : s316.1 28 = 4 := congrArg (fun t : ST => t.1 28) q316
                              refine lv_goto (tgt := 267) hx hb dX12_next_239 (by decide) ?_
                              subst hPQ
                              exact x_vret E h ⟨hR0.trans hR283.symm, (⟨f283_26, e319, (by omega), (by omega), (fun h9 => absurd (e321.symm.trans h9) (by decide)), (fun h9 => absurd (e321.symm.trans h9) (by decide))⟩), hI316, hF316⟩ dX12_next_267
                    · skip
                      obtain rfl : f283_26 = m286_1a := y_eq (by omega) (by omega) ((ef283_26).symm.trans u286_1_0)
                      obtain rfl : F25 = m286_1T := y_eq (by omega) (by omega) ((e284).symm.trans u286_1_1)
                      refine lv_bipush (v := 48) hx hb dX12_next_142 (by decide) ?_
                      refine lv_bipush (v := 57) hx hb dX12_next_144 (by decide) ?_
                      refine x_si E h (na := 3) (As := [.int (nI m286_1n), .int 48, .int 57]) (aX12_in_0 l g t283 hI_283 (nI m286_1n) 48 57) gX12_next_X12_in rfl ⟨rfl, rfl⟩ rfl (by decide +kernel) ⟨Nat.le_of_ble_eq_true rfl, Nat.le_of_ble_eq_true rfl⟩ hl.1 rfl (Nat.le_of_ble_eq_true rfl) dX12_next_146 ⟨Nat.le_of_ble_eq_true rfl, Nat.le_of_ble_eq_true rfl⟩ (fun r322 s322 H locs q322 h => ?_)
                      obtain ⟨x322, d322, rfl⟩ := q322
                      replace hR283 := bd_to hR283 x322
                      rcases d322 with ⟨rfl, u322_0_0, u322_0_1⟩ | ⟨rfl, u322_1_0⟩
                      · skip
                        have b323 : 48 ≤ m286_1n := y_nlt (a := m286_1n) (b := 48) (by omega) (by omega) u322_0_0
                        have b324 : m286_1n ≤ 57 := y_nlt (a := 57) (b := m286_1n) (by omega) (by omega) u322_0_1
                        replace hR283 := it_f hR283 (by decide)
                        refine lv_if_eq (tgt := 201) hx hb dX12_next_149 (by decide) (fun c => absurd c (by decide)) (fun _ => ?_)
                        refine lv_aload_n hx hb dX12_next_152 rfl (lv_at hl 1 rfl) ?_
                        refine lv_aload_n hx hb dX12_next_153 rfl (lv_at hl 1 rfl) ?_
                        obtain ⟨x325, e325⟩ : ∃ x, t283.1 29 = x := ⟨_, rfl⟩
                        refine x_getI E h (fi_mo_value g) rfl hwX12 (by decide) (by decide +kernel) (v := x325) e325 dX12_next_154 ?_
                        replace hR283 := bd_to hR283 e325
                        refine lv_sipush (v := 9999) hx hb dX12_next_157 (by decide) ?_
                        have j185_332 : ∀ (y332_s0 : Int32), fX12_next_0b185 (fX12_next_0l138 fu283) (nI m212_1n) y332_s0 t283 = R → ∀ (H : Heap) (locs : List Loc) (ls : Array Slot), HW g t283 s H locs → lv_has ls 2 [(1, .int (nI m212_1n)), (0, .ref (g.2.1 79))] → W p l e { frames := 3, cells := 0, slots := 0, locals := 71 } s m args below meth c H locs 0 0 (MQ below PQz args s 0 0 (Aw g)) (F0 m 185 ls [.int y332_s0, .ref (g.2.1 79)]) := by
                          intro y332_s0 hR332 H locs ls h hl
                          refine y_putI E h hI_283 hF_283 (ty := .int) (v := y332_s0) (fi_mo_value g) rfl hwX12 tyX12_ok nmX12 (by decide) (by decide +kernel) (by decide +kernel) (by decide +kernel) rfl rfl (ba_none rfl) rfl dX12_next_185 (fun s333 H locs q333 hI333 hF333 h => ?_)
                          replace hR332 := bd_to hR332 q333.symm
                          have e334 : s333.1 25 = nI F25 := (congrArg (fun t : ST => t.1 25) q333).trans e284
                          have e335 : s333.1 27 = nI f1_26 := (congrArg (fun t : ST => t.1 27) q333).trans e285
                          have e336 : s333.1 26 = nI f283_26 := (congrArg (fun t : ST => t.1 26) q333).trans ef283_26
                          have e337 : s333.1 29 = y332_s0 := congrArg (fun t : ST => t.1 29) q333
                          refine lv_aload_n hx hb dX12_next_188 rfl (lv_at hl 1 rfl) ?_
                          refine lv_dup hx hb dX12_next_189 rfl ?_
                          refine x_getI E h (fi_mo_at g) rfl hwX12 (by decide) (by decide +kernel) (v := nI f283_26) e336 dX12_next_190 ?_
                          replace hR332 := bd_to hR332 e336
                          refine lv_iconst (v := 1) hx hb dX12_next_193 (by decide) ?_
                          refine lv_iadd hx hb dX12_next_194 ?_
                          refine x_topI (v2 := nI (f283_26 + 1)) (nI_add f283_26 1) ?_
                          replace hR332 := bd_to hR332 (nI_add f283_26 1)
                          refine y_putI E h hI333 hF333 (ty := .int) (v := nI (f283_26 + 1)) (fi_mo_at g) rfl hwX12 tyX12_ok nmX12 (by decide) (by decide +kernel) (by decide +kernel) (by decide +kernel) rfl rfl (ba_some rfl (Bd.mk (n := (f283_26 + 1)) (by omega))) rfl dX12_next_195 (fun s338 H locs q338 hI338 hF338 h => ?_)
                          replace hR332 := bd_to hR332 q338.symm
                          have e339 : s338.1 25 = nI F25 := (congrArg (fun t : ST => t.1 25) q338).trans e334
                          have e340 : s338.1 27 = nI f1_26 := (congrArg (fun t : ST => t.1 27) q338).trans e335
                          have e341 : s338.1 29 = y332_s0 := (congrArg (fun t : ST => t.1 29) q338).trans e337
                          have e342 : s338.1 26 = nI (f283_26 + 1) := congrArg (fun t : ST => t.1 26) q338
                          refine lv_goto (tgt := 138) hx hb dX12_next_198 (by decide) ?_
                          exact ih283 s338 (f283_26 + 1) hI338 hF338 e339 e340 e342 (by omega) (by omega) hR332 (by omega) _ _ _ h (lv_sub hl [0, 1] rfl)
                        refine lv_icmp_le (tgt := 170) hx hb dX12_next_160 (by decide) (fun c326 => ?_) (fun c326 => ?_)
                        · skip
                          replace hR283 := it_t hR283 c326
                          refine lv_bipush (v := 10) hx hb dX12_next_170 (by decide) ?_
                          refine lv_aload_n hx hb dX12_next_172 rfl (lv_at hl 1 rfl) ?_
                          refine x_getI E h (fi_mo_value g) rfl hwX12 (by decide) (by decide +kernel) (v := x325) e325 dX12_next_173 ?_
                          replace hR283 := bd_to hR283 e325
                          refine lv_imul hx hb dX12_next_176 ?_
                          refine lv_topi (fun x328 e328 => ?_)
                          replace hR283 := bd_to hR283 e328.symm
                          refine lv_aload_n hx hb dX12_next_177 rfl (lv_at hl 1 rfl) ?_
                          refine x_vi E h (na := 0) (As := []) (aX12_here_0 l g t283 hI_283) (oc_mo g) rfl gX12_next_X12_here rfl ⟨rfl, rfl⟩ rfl (by decide +kernel) ⟨Nat.le_of_ble_eq_true rfl, Nat.le_of_ble_eq_true rfl⟩ hl.1 rfl (Nat.le_of_ble_eq_true rfl) dX12_next_178 ⟨Nat.le_of_ble_eq_true rfl, Nat.le_of_ble_eq_true rfl⟩ (fun r329 s329 H locs q329 h => ?_)
                          obtain ⟨x329, d329, rfl⟩ := q329
                          replace hR283 := bd_to hR283 x329
                          rcases d329 with rfl | ⟨m329_1a, m329_1T, m329_1n, u329_1_0, u329_1_1, u329_1_2, u329_1_3, u329_1_4, rfl⟩
                          · skip
                            refine lv_iadd hx hb dX12_next_181 ?_
                            refine lv_topi (fun x330 e330 => ?_)
                            replace hR283 := bd_to hR283 e330.symm
                            refine lv_bipush (v := 48) hx hb dX12_next_182 (by decide) ?_
                            refine lv_isub hx hb dX12_next_184 ?_
                            refine lv_topi (fun x331 e331 => ?_)
                            replace hR283 := bd_to hR283 e331.symm
                            exact j185_332 x331 hR283 _ _ _ h (lv_sub hl [0, 1] rfl)
                          · skip
                            obtain rfl : f283_26 = m329_1a := y_eq (by omega) (by omega) ((ef283_26).symm.trans u329_1_0)
                            obtain rfl : F25 = m329_1T := y_eq (by omega) (by omega) ((e284).symm.trans u329_1_1)
                            refine lv_iadd hx hb dX12_next_181 ?_
                            refine lv_topi (fun x343 e343 => ?_)
                            replace hR283 := bd_to hR283 e343.symm
                            refine lv_bipush (v := 48) hx hb dX12_next_182 (by decide) ?_
                            refine lv_isub hx hb dX12_next_184 ?_
                            refine lv_topi (fun x344 e344 => ?_)
                            replace hR283 := bd_to hR283 e344.symm
                            exact j185_332 x344 hR283 _ _ _ h (lv_sub hl [0, 1] rfl)
                        · skip
                          replace hR283 := it_f hR283 c326
                          refine lv_aload_n hx hb dX12_next_163 rfl (lv_at hl 1 rfl) ?_
                          refine x_getI E h (fi_mo_value g) rfl hwX12 (by decide) (by decide +kernel) (v := x325) e325 dX12_next_164 ?_
                          replace hR283 := bd_to hR283 e325
                          refine lv_goto (tgt := 185) hx hb dX12_next_167 (by decide) ?_
                          exact j185_332 x325 hR283 _ _ _ h (lv_sub hl [0, 1] rfl)
                      · skip
                        replace hR283 := it_t hR283 (by decide)
                        refine lv_if_eq (tgt := 201) hx hb dX12_next_149 (by decide) (fun _ => ?_) (fun c => absurd (by decide) c)
                        refine lv_aload_n hx hb dX12_next_201 rfl (lv_at hl 1 rfl) ?_
                        refine lv_aload_n hx hb dX12_next_202 rfl (lv_at hl 1 rfl) ?_
                        obtain ⟨x346, e346⟩ : ∃ x, t283.1 29 = x := ⟨_, rfl⟩
                        refine x_getI E h (fi_mo_value g) rfl hwX12 (by decide) (by decide +kernel) (v := x346) e346 dX12_next_203 ?_
                        replace hR283 := bd_to hR283 e346
                        refine lv_sipush (v := 9999) hx hb dX12_next_206 (by decide) ?_
                        refine lv_icmp_gt (tgt := 231) hx hb dX12_next_209 (by decide) (fun c347 => ?_) (fun c347 => ?_)
                        · skip
                          replace hR283 := it_t hR283 c347
                          refine lv_iconst (v := 4) hx hb dX12_next_231 (by decide) ?_
                          refine lv_goto (tgt := 236) hx hb dX12_next_232 (by decide) ?_
                          replace hR283 : fX12_next_0b236 4 t283 = R := hR283
                          refine y_putI E h hI_283 hF_283 (ty := .int) (v := 4) (fi_mo_sort g) rfl hwX12 tyX12_ok nmX12 (by decide) (by decide +kernel) (by decide +kernel) (by decide +kernel) rfl rfl (ba_none rfl) rfl dX12_next_236 (fun s349 H locs q349 hI349 hF349 h => ?_)
                          replace hR283 := bd_to hR283 q349.symm
                          have e350 : s349.1 25 = nI F25 := (congrArg (fun t : ST => t.1 25) q349).trans e284
                          have e351 : s349.1 27 = nI f1_26 := (congrArg (fun t : ST => t.1 27) q349).trans e285
                          have e352 : s349.1 26 = nI f283_26 := (congrArg (fun t : ST => t.1 26) q349).trans ef283_26
                          have e353 : s349.1 29 = x346 := (congrArg (fun t : ST => t.1 29) q349).trans e346
                          have e354 : s349.1 28 = 4 := congrArg (fun t : ST => t.1 28) q349
                          refine lv_goto (tgt := 267) hx hb dX12_next_239 (by decide) ?_
                          subst hPQ
                          exact x_vret E h ⟨hR0.trans hR283.symm, (⟨f283_26, e352, (by omega), (by omega), (fun h9 => absurd (e354.symm.trans h9) (by decide)), (fun h9 => absurd (e354.symm.trans h9) (by decide))⟩), hI349, hF349⟩ dX12_next_267
                        · skip
                          replace hR283 := it_f hR283 c347
                          refine lv_iload_n hx hb dX12_next_212 rfl (lv_at hl 0 rfl) ?_
                          refine lv_bipush (v := 48) hx hb dX12_next_213 (by decide) ?_
                          refine lv_icmp_ne (tgt := 235) hx hb dX12_next_215 (by decide) (fun c356 => ?_) (fun c356 => ?_)
                          · skip
                            replace hR283 := it_f hR283 c356
                            have b357 : ¬ m212_1n = 48 := y_ne (a := m212_1n) (b := 48) (by omega) (by omega) c356
                            refine lv_iconst (v := 2) hx hb dX12_next_235 (by decide) ?_
                            replace hR283 : fX12_next_0b236 2 t283 = R := hR283
                            refine y_putI E h hI_283 hF_283 (ty := .int) (v := 2) (fi_mo_sort g) rfl hwX12 tyX12_ok nmX12 (by decide) (by decide +kernel) (by decide +kernel) (by decide +kernel) rfl rfl (ba_none rfl) rfl dX12_next_236 (fun s358 H locs q358 hI358 hF358 h => ?_)
                            replace hR283 := bd_to hR283 q358.symm
                            have e359 : s358.1 25 = nI F25 := (congrArg (fun t : ST => t.1 25) q358).trans e284
                            have e360 : s358.1 27 = nI f1_26 := (congrArg (fun t : ST => t.1 27) q358).trans e285
                            have e361 : s358.1 26 = nI f283_26 := (congrArg (fun t : ST => t.1 26) q358).trans ef283_26
                            have e362 : s358.1 29 = x346 := (congrArg (fun t : ST => t.1 29) q358).trans e346
                            have e363 : s358.1 28 = 2 := congrArg (fun t : ST => t.1 28) q358
                            refine lv_goto (tgt := 267) hx hb dX12_next_239 (by decide) ?_
                            subst hPQ
                            exact x_vret E h ⟨hR0.trans hR283.symm, (⟨f283_26, e361, (by omega), (by omega), (fun h9 => absurd (e363.symm.trans h9) (by decide)), (fun h9 => absurd (e363.symm.trans h9) (by decide))⟩), hI358, hF358⟩ dX12_next_267
                          · skip
                            replace hR283 := it_t hR283 c356
                            have b364 : m212_1n = 48 := y_eq (a := m212_1n) (b := 48) (by omega) (by omega) c356
                            refine lv_aload_n hx hb dX12_next_218 rfl (lv_at hl 1 rfl) ?_
                            refine x_getI E h (fi_mo_at g) rfl hwX12 (by decide) (by decide +kernel) (v := nI f283_26) ef283_26 dX12_next_219 ?_
                            replace hR283 := bd_to hR283 ef283_26
                            refine lv_aload_n hx hb dX12_next_222 rfl (lv_at hl 1 rfl) ?_
                            refine x_getI E h (fi_mo_start g) rfl hwX12 (by decide) (by decide +kernel) (v := nI f1_26) e285 dX12_next_223 ?_
                            replace hR283 := bd_to hR283 e285
                            refine lv_isub hx hb dX12_next_226 ?_
                            replace hR283 := bd_to hR283 rfl
                            refine lv_iconst (v := 1) hx hb dX12_next_227 (by decide) ?_
                            refine lv_icmp_le (tgt := 235) hx hb dX12_next_228 (by decide) (fun c365 => ?_) (fun c365 => ?_)
                            · skip
                              replace hR283 := it_t hR283 c365
                              refine lv_iconst (v := 2) hx hb dX12_next_235 (by decide) ?_
                              replace hR283 : fX12_next_0b236 2 t283 = R := hR283
                              refine y_putI E h hI_283 hF_283 (ty := .int) (v := 2) (fi_mo_sort g) rfl hwX12 tyX12_ok nmX12 (by decide) (by decide +kernel) (by decide +kernel) (by decide +kernel) rfl rfl (ba_none rfl) rfl dX12_next_236 (fun s367 H locs q367 hI367 hF367 h => ?_)
                              replace hR283 := bd_to hR283 q367.symm
                              have e368 : s367.1 25 = nI F25 := (congrArg (fun t : ST => t.1 25) q367).trans e284
                              have e369 : s367.1 27 = nI f1_26 := (congrArg (fun t : ST => t.1 27) q367).trans e285
                              have e370 : s367.1 26 = nI f283_26 := (congrArg (fun t : ST => t.1 26) q367).trans ef283_26
                              have e371 : s367.1 29 = x346 := (congrArg (fun t : ST => t.1 29) q367).trans e346
                              have e372 : s367.1 28 = 2 := congrArg (fun t : ST => t.1 28) q367
                              refine lv_goto (tgt := 267) hx hb dX12_next_239 (by decide) ?_
                              subst hPQ
                              exact x_vret E h ⟨hR0.trans hR283.symm, (⟨f283_26, e370, (by omega), (by omega), (fun h9 => absurd (e372.symm.trans h9) (by decide)), (fun h9 => absurd (e372.symm.trans h9) (by decide))⟩), hI367, hF367⟩ dX12_next_267
                            · skip
                              replace hR283 := it_f hR283 c365
                              refine lv_iconst (v := 4) hx hb dX12_next_231 (by decide) ?_
                              refine lv_goto (tgt := 236) hx hb dX12_next_232 (by decide) ?_
                              replace hR283 : fX12_next_0b236 4 t283 = R := hR283
                              refine y_putI E h hI_283 hF_283 (ty := .int) (v := 4) (fi_mo_sort g) rfl hwX12 tyX12_ok nmX12 (by decide) (by decide +kernel) (by decide +kernel) (by decide +kernel) rfl rfl (ba_none rfl) rfl dX12_next_236 (fun s374 H locs q374 hI374 hF374 h => ?_)
                              replace hR283 := bd_to hR283 q374.symm
                              have e375 : s374.1 25 = nI F25 := (congrArg (fun t : ST => t.1 25) q374).trans e284
                              have e376 : s374.1 27 = nI f1_26 := (congrArg (fun t : ST => t.1 27) q374).trans e285
                              have e377 : s374.1 26 = nI f283_26 := (congrArg (fun t : ST => t.1 26) q374).trans ef283_26
                              have e378 : s374.1 29 = x346 := (congrArg (fun t : ST => t.1 29) q374).trans e346
                              have e379 : s374.1 28 = 4 := congrArg (fun t : ST => t.1 28) q374
                              refine lv_goto (tgt := 267) hx hb dX12_next_239 (by decide) ?_
                              subst hPQ
                              exact x_vret E h ⟨hR0.trans hR283.symm, (⟨f283_26, e377, (by omega), (by omega), (fun h9 => absurd (e379.symm.trans h9) (by decide)), (fun h9 => absurd (e379.symm.trans h9) (by decide))⟩), hI374, hF374⟩ dX12_next_267
                exact loop138_283 4096 s207 f1_26 hI207 hF207 e208 e210 e209 (by omega) (by omega) hR1 (by omega) _ _ _ h (lv_sub hl [0, 1] rfl)
              · skip
                replace hR1 := it_t hR1 (by decide)
                refine lv_if_eq (tgt := 242) hx hb dX12_next_135 (by decide) (fun _ => ?_) (fun c => absurd (by decide) c)
                refine lv_aload_n hx hb dX12_next_242 rfl (lv_at hl 1 rfl) ?_
                refine lv_dup hx hb dX12_next_243 rfl ?_
                refine x_getI E h (fi_mo_at g) rfl hwX12 (by decide) (by decide +kernel) (v := nI f1_26) e209 dX12_next_244 ?_
                replace hR1 := bd_to hR1 e209
                refine lv_iconst (v := 1) hx hb dX12_next_247 (by decide) ?_
                refine lv_iadd hx hb dX12_next_248 ?_
                refine x_topI (v2 := nI (f1_26 + 1)) (nI_add f1_26 1) ?_
                replace hR1 := bd_to hR1 (nI_add f1_26 1)
                refine y_putI E h hI207 hF207 (ty := .int) (v := nI (f1_26 + 1)) (fi_mo_at g) rfl hwX12 tyX12_ok nmX12 (by decide) (by decide +kernel) (by decide +kernel) (by decide +kernel) rfl rfl (ba_some rfl (Bd.mk (n := (f1_26 + 1)) (by omega))) rfl dX12_next_249 (fun s380 H locs q380 hI380 hF380 h => ?_)
                replace hR1 := bd_to hR1 q380.symm
                have e381 : s380.1 25 = nI F25 := (congrArg (fun t : ST => t.1 25) q380).trans e208
                have e382 : s380.1 27 = nI f1_26 := (congrArg (fun t : ST => t.1 27) q380).trans e210
                have e383 : s380.1 29 = 0 := (congrArg (fun t : ST => t.1 29) q380).trans e211
                have e384 : s380.1 26 = nI (f1_26 + 1) := congrArg (fun t : ST => t.1 26) q380
                refine lv_aload_n hx hb dX12_next_252 rfl (lv_at hl 1 rfl) ?_
                refine lv_iload_n hx hb dX12_next_253 rfl (lv_at hl 0 rfl) ?_
                refine lv_bipush (v := 59) hx hb dX12_next_254 (by decide) ?_
                refine lv_icmp_ne (tgt := 263) hx hb dX12_next_256 (by decide) (fun c385 => ?_) (fun c385 => ?_)
                · skip
                  replace hR1 := it_f hR1 c385
                  have b386 : ¬ m212_1n = 59 := y_ne (a := m212_1n) (b := 59) (by omega) (by omega) c385
                  refine lv_iconst (v := 4) hx hb dX12_next_263 (by decide) ?_
                  replace hR1 : fX12_next_0b264 4 s380 = R := hR1
                  refine y_putI E h hI380 hF380 (ty := .int) (v := 4) (fi_mo_sort g) rfl hwX12 tyX12_ok nmX12 (by decide) (by decide +kernel) (by decide +kernel) (by decide +kernel) rfl rfl (ba_none rfl) rfl dX12_next_264 (fun s387 H locs q387 hI387 hF387 h => ?_)
                  replace hR1 := bd_to hR1 q387.symm
                  have e388 : s387.1 25 = nI F25 := (congrArg (fun t : ST => t.1 25) q387).trans e381
                  have e389 : s387.1 27 = nI f1_26 := (congrArg (fun t : ST => t.1 27) q387).trans e382
                  have e390 : s387.1 29 = 0 := (congrArg (fun t : ST => t.1 29) q387).trans e383
                  have e391 : s387.1 26 = nI (f1_26 + 1) := (congrArg (fun t : ST => t.1 26) q387).trans e384
                  have e392 : s387.1 28 = 4 := congrArg (fun t : ST => t.1 28) q387
                  subst hPQ
                  exact x_vret E h ⟨hR0.trans hR1.symm, (⟨(f1_26 + 1), e391, (by omega), (by omega), (fun h9 => absurd (e392.symm.trans h9) (by decide)), (fun h9 => absurd (e392.symm.trans h9) (by decide))⟩), hI387, hF387⟩ dX12_next_267
                · skip
                  replace hR1 := it_t hR1 c385
                  have b393 : m212_1n = 59 := y_eq (a := m212_1n) (b := 59) (by omega) (by omega) c385
                  refine lv_iconst (v := 3) hx hb dX12_next_259 (by decide) ?_
                  refine lv_goto (tgt := 264) hx hb dX12_next_260 (by decide) ?_
                  replace hR1 : fX12_next_0b264 3 s380 = R := hR1
                  refine y_putI E h hI380 hF380 (ty := .int) (v := 3) (fi_mo_sort g) rfl hwX12 tyX12_ok nmX12 (by decide) (by decide +kernel) (by decide +kernel) (by decide +kernel) rfl rfl (ba_none rfl) rfl dX12_next_264 (fun s394 H locs q394 hI394 hF394 h => ?_)
                  replace hR1 := bd_to hR1 q394.symm
                  have e395 : s394.1 25 = nI F25 := (congrArg (fun t : ST => t.1 25) q394).trans e381
                  have e396 : s394.1 27 = nI f1_26 := (congrArg (fun t : ST => t.1 27) q394).trans e382
                  have e397 : s394.1 29 = 0 := (congrArg (fun t : ST => t.1 29) q394).trans e383
                  have e398 : s394.1 26 = nI (f1_26 + 1) := (congrArg (fun t : ST => t.1 26) q394).trans e384
                  have e399 : s394.1 28 = 3 := congrArg (fun t : ST => t.1 28) q394
                  subst hPQ
                  exact x_vret E h ⟨hR0.trans hR1.symm, (⟨(f1_26 + 1), e398, (by omega), (by omega), (fun h9 => absurd (e399.symm.trans h9) (by decide)), (fun _ => by omega)⟩), hI394, hF394⟩ dX12_next_267
        · skip
          replace hR1 := it_t hR1 c201
          have b400 : m3_1n = 32 := y_eq (a := m3_1n) (b := 32) (by omega) (by omega) c201
          refine lv_aload_n hx hb dX12_next_9 rfl (lv_at hl 0 rfl) ?_
          refine lv_dup hx hb dX12_next_10 rfl ?_
          refine x_getI E h (fi_mo_at g) rfl hwX12 (by decide) (by decide +kernel) (v := nI f1_26) ef1_26 dX12_next_11 ?_
          replace hR1 := bd_to hR1 ef1_26
          refine lv_iconst (v := 1) hx hb dX12_next_14 (by decide) ?_
          refine lv_iadd hx hb dX12_next_15 ?_
          refine x_topI (v2 := nI (f1_26 + 1)) (nI_add f1_26 1) ?_
          replace hR1 := bd_to hR1 (nI_add f1_26 1)
          refine y_putI E h hI_1 hF_1 (ty := .int) (v := nI (f1_26 + 1)) (fi_mo_at g) rfl hwX12 tyX12_ok nmX12 (by decide) (by decide +kernel) (by decide +kernel) (by decide +kernel) rfl rfl (ba_some rfl (Bd.mk (n := (f1_26 + 1)) (by omega))) rfl dX12_next_16 (fun s401 H locs q401 hI401 hF401 h => ?_)
          replace hR1 := bd_to hR1 q401.symm
          have e402 : s401.1 25 = nI F25 := (congrArg (fun t : ST => t.1 25) q401).trans e2
          have e403 : s401.1 26 = nI (f1_26 + 1) := congrArg (fun t : ST => t.1 26) q401
          refine lv_goto (tgt := 0) hx hb dX12_next_19 (by decide) ?_
          exact ih1 s401 (f1_26 + 1) hI401 hF401 e402 e403 (by omega) (by omega) hR1 (by omega) _ _ _ h (lv_sub hl [0] rfl)
  exact loop0_1 4096 σ F26 hI hF eF25 eF26 (by omega) (by omega) hR (by omega) _ _ _ h (lv_sub hl [0] rfl)
