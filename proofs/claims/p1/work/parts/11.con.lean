set_option maxHeartbeats 4000000 in
set_option maxRecDepth 100000 in
theorem kX8_read_0 (l : Launch) (g : CX) (σ : ST) (fI_0 : σ.1 0 = 0) : XM l g yX8_read wsX8_read { frames := 1, cells := 0, slots := 0, locals := 23 } [.ref (g.2.1 1)] σ (XQi g (fun r σ' => (0 = r ∧ (sI (sA (sA (sA (sA (sA (sA (sI (sA σ 2 (fun j => if j < 6 then (-1) else σ.2.2 2 j)) 1 0) 1 (upd ((sI (sA σ 2 (fun j => if j < 6 then (-1) else σ.2.2 2 j)) 1 0).2.2 1) 0 20)) 1 (upd (upd ((sI (sA σ 2 (fun j => if j < 6 then (-1) else σ.2.2 2 j)) 1 0).2.2 1) 0 20) 1 10)) 1 (upd (upd (upd ((sI (sA σ 2 (fun j => if j < 6 then (-1) else σ.2.2 2 j)) 1 0).2.2 1) 0 20) 1 10) 2 40)) 1 (upd (upd (upd (upd ((sI (sA σ 2 (fun j => if j < 6 then (-1) else σ.2.2 2 j)) 1 0).2.2 1) 0 20) 1 10) 2 40) 3 0)) 1 (upd (upd (upd (upd (upd ((sI (sA σ 2 (fun j => if j < 6 then (-1) else σ.2.2 2 j)) 1 0).2.2 1) 0 20) 1 10) 2 40) 3 0) 4 0)) 1 (upd (upd (upd (upd (upd (upd ((sI (sA σ 2 (fun j => if j < 6 then (-1) else σ.2.2 2 j)) 1 0).2.2 1) 0 20) 1 10) 2 40) 3 0) 4 0) 5 10)) 0 0) = σ'))) := by
  refine x_met (own := RX8) (cc := cX8_read) (maxL := 3) (ret := (some .int)) (lv := [(0, .ref (g.2.1 1))]) (by decide) rfl rfl (Nat.le_of_ble_eq_true rfl) rfl ?_
  intro p e s m args below meth c ls E h hl
  have hx := E.1
  have hb := E.2.1
  have hown := E.2.2.2.1
  have hts := E.2.2.2.2.1
  have hwX8 : ∀ w ∈ wsX80, w ∈ wsX8_read := by decide +kernel
  refine lv_aload_n hx hb dX8_read_0 rfl (lv_at hl 0 rfl) ?_
  refine x_getR E h (fr_rt_told g) rfl hwX8 (by decide) (by decide +kernel) dX8_read_1 ?_
  refine lv_iconst (v := (-1)) hx hb dX8_read_4 (by decide) ?_
  refine x_sv E h (na := 2) (As := [.ref (g.2.1 4), .int (-1)]) (k_fill l g _ 4 6 2 (ia_rt_told g) (by decide) (-1)) gX8_read_J7_fill_53178 rfl ⟨rfl, rfl⟩ rfl (by decide +kernel) ⟨Nat.le_of_ble_eq_true rfl, Nat.le_of_ble_eq_true rfl⟩ hl.1 rfl (Nat.le_of_ble_eq_true rfl) dX8_read_5 ⟨Nat.le_of_ble_eq_true rfl, Nat.le_of_ble_eq_true rfl⟩ (fun s1 H locs q1 h => ?_)
  rcases q1 with rfl
  refine lv_aload_n hx hb dX8_read_8 rfl (lv_at hl 0 rfl) ?_
  refine lv_iconst (v := 0) hx hb dX8_read_9 (by decide) ?_
  refine x_putI E h (ty := .int) (v := 0) (fi_rt_at g) rfl hwX8 tyX8_ok nmX8 (by decide) (by decide +kernel) (by decide +kernel) (by decide +kernel) rfl rfl dX8_read_10 (fun H locs h => ?_)
  refine lv_iconst (v := 0) hx hb dX8_read_13 (by decide) ?_
  refine lv_istore_n (lv' := [(1, .int 0), (0, .ref (g.2.1 1))]) hx hb dX8_read_14 rfl hl (by decide) rfl (fun ls hl => ?_)
  refine lv_iload_n hx hb dX8_read_15 rfl (lv_at hl 0 rfl) ?_
  refine lv_bipush (v := 6) hx hb dX8_read_16 (by decide) ?_
  refine lv_icmp_gt (tgt := 54) hx hb dX8_read_18 (by decide) (fun c => absurd c (by decide)) (fun _ => ?_)
  refine lv_aload_n hx hb dX8_read_21 rfl (lv_at hl 1 rfl) ?_
  refine x_vi E h (na := 0) (As := []) (kX8_endsBehindBlanks_0 l g _  fI_0 rfl) (oc_rt g) rfl gX8_read_X8_endsBehindBlanks rfl ⟨rfl, rfl⟩ rfl (by decide +kernel) ⟨Nat.le_of_ble_eq_true rfl, Nat.le_of_ble_eq_true rfl⟩ hl.1 rfl (Nat.le_of_ble_eq_true rfl) dX8_read_22 ⟨Nat.le_of_ble_eq_true rfl, Nat.le_of_ble_eq_true rfl⟩ (fun r2 s2 H locs q2 h => ?_)
  rcases q2 with ⟨rfl, rfl⟩
  refine lv_if_eq (tgt := 34) hx hb dX8_read_25 (by decide) (fun c => absurd c (by decide)) (fun _ => ?_)
  refine lv_aload_n hx hb dX8_read_28 rfl (lv_at hl 1 rfl) ?_
  refine x_vv E h (na := 0) (As := []) (kX8_adopt_0 l g _  rfl rfl rfl rfl rfl rfl) (oc_rt g) rfl gX8_read_X8_adopt rfl ⟨rfl, rfl⟩ rfl (by decide +kernel) ⟨Nat.le_of_ble_eq_true rfl, Nat.le_of_ble_eq_true rfl⟩ hl.1 rfl (Nat.le_of_ble_eq_true rfl) dX8_read_29 ⟨Nat.le_of_ble_eq_true rfl, Nat.le_of_ble_eq_true rfl⟩ (fun s3 H locs q3 h => ?_)
  rcases q3 with rfl
  refine lv_iload_n hx hb dX8_read_32 rfl (lv_at hl 0 rfl) ?_
  exact x_iret E h ⟨rfl, rfl⟩ dX8_read_33
set_option maxHeartbeats 4000000 in
set_option maxRecDepth 100000 in
theorem kX11_nothingIsFound_0 (l : Launch) (g : CX) (σ : ST) : XM l g yX11_nothingIsFound wsX11_nothingIsFound { frames := 0, cells := 0, slots := 0, locals := 0 } [.ref (g.2.1 0)] σ (XQv g (fun σ' => ((sI (sI (sI σ 22 1) 23 1) 24 1) = σ'))) := by
  refine x_met (own := RX11) (cc := cX11_nothingIsFound) (maxL := 1) (ret := none) (lv := [(0, .ref (g.2.1 0))]) (by decide) rfl rfl (Nat.le_of_ble_eq_true rfl) rfl ?_
  intro p e s m args below meth c ls E h hl
  have hx := E.1
  have hb := E.2.1
  have hown := E.2.2.2.1
  have hts := E.2.2.2.2.1
  have hwX11 : ∀ w ∈ wsX110, w ∈ wsX11_nothingIsFound := by decide +kernel
  refine lv_aload_n hx hb dX11_nothingIsFound_0 rfl (lv_at hl 0 rfl) ?_
  refine lv_iconst (v := 1) hx hb dX11_nothingIsFound_1 (by decide) ?_
  refine x_putI E h (ty := .boolean) (v := 1) (fi_vh_cutIsOld g) rfl hwX11 tyX11_ok nmX11 (by decide) (by decide +kernel) (by decide +kernel) (by decide +kernel) rfl rfl dX11_nothingIsFound_2 (fun H locs h => ?_)
  refine lv_aload_n hx hb dX11_nothingIsFound_5 rfl (lv_at hl 0 rfl) ?_
  refine lv_iconst (v := 1) hx hb dX11_nothingIsFound_6 (by decide) ?_
  refine x_putI E h (ty := .boolean) (v := 1) (fi_vh_heapsAreOld g) rfl hwX11 tyX11_ok nmX11 (by decide) (by decide +kernel) (by decide +kernel) (by decide +kernel) rfl rfl dX11_nothingIsFound_7 (fun H locs h => ?_)
  refine lv_aload_n hx hb dX11_nothingIsFound_10 rfl (lv_at hl 0 rfl) ?_
  refine lv_iconst (v := 1) hx hb dX11_nothingIsFound_11 (by decide) ?_
  refine x_putI E h (ty := .boolean) (v := 1) (fi_vh_nearIsOld g) rfl hwX11 tyX11_ok nmX11 (by decide) (by decide +kernel) (by decide +kernel) (by decide +kernel) rfl rfl dX11_nothingIsFound_12 (fun H locs h => ?_)
  exact x_vret E h rfl dX11_nothingIsFound_15
set_option maxHeartbeats 4000000 in
set_option maxRecDepth 100000 in
theorem kX11_rules_0 (l : Launch) (g : CX) (σ : ST) (fI_0 : σ.1 0 = 0) : XM l g yX11_rules wsX11_rules { frames := 2, cells := 0, slots := 0, locals := 45 } [.ref (g.2.1 0)] σ (XQi g (fun r σ' => (0 = r ∧ MO σ' σ))) := by
  refine x_met (own := RX11) (cc := cX11_rules) (maxL := 2) (ret := (some .int)) (lv := [(0, .ref (g.2.1 0))]) (by decide) rfl rfl (Nat.le_of_ble_eq_true rfl) rfl ?_
  intro p e s m args below meth c ls E h hl
  have hx := E.1
  have hb := E.2.1
  have hown := E.2.2.2.1
  have hts := E.2.2.2.2.1
  have hwX11 : ∀ w ∈ wsX110, w ∈ wsX11_rules := by decide +kernel
  refine lv_aload_n hx hb dX11_rules_0 rfl (lv_at hl 0 rfl) ?_
  refine x_getR E h (fr_vh_ruleText g) rfl hwX11 (by decide) (by decide +kernel) dX11_rules_1 ?_
  refine x_vi E h (na := 0) (As := []) (kX8_read_0 l g _  fI_0) (oc_rt g) rfl gX11_rules_X8_read rfl ⟨rfl, rfl⟩ rfl (by decide +kernel) ⟨Nat.le_of_ble_eq_true rfl, Nat.le_of_ble_eq_true rfl⟩ hl.1 rfl (Nat.le_of_ble_eq_true rfl) dX11_rules_4 ⟨Nat.le_of_ble_eq_true rfl, Nat.le_of_ble_eq_true rfl⟩ (fun r1 s1 H locs q1 h => ?_)
  rcases q1 with ⟨rfl, rfl⟩
  refine lv_istore_n (lv' := [(1, .int 0), (0, .ref (g.2.1 0))]) hx hb dX11_rules_7 rfl hl (by decide) rfl (fun ls hl => ?_)
  refine lv_iload_n hx hb dX11_rules_8 rfl (lv_at hl 0 rfl) ?_
  refine lv_if_lt (tgt := 16) hx hb dX11_rules_9 (by decide) (fun c => absurd c (by decide)) (fun _ => ?_)
  refine lv_aload_n hx hb dX11_rules_12 rfl (lv_at hl 1 rfl) ?_
  refine x_vv E h (na := 0) (As := []) (kX11_nothingIsFound_0 l g _  ) (oc_vh g) rfl gX11_rules_X11_nothingIsFound rfl ⟨rfl, rfl⟩ rfl (by decide +kernel) ⟨Nat.le_of_ble_eq_true rfl, Nat.le_of_ble_eq_true rfl⟩ hl.1 rfl (Nat.le_of_ble_eq_true rfl) dX11_rules_13 ⟨Nat.le_of_ble_eq_true rfl, Nat.le_of_ble_eq_true rfl⟩ (fun s2 H locs q2 h => ?_)
  rcases q2 with rfl
  refine lv_iload_n hx hb dX11_rules_16 rfl (lv_at hl 0 rfl) ?_
  exact x_iret E h ⟨rfl, (MO.refl σ)⟩ dX11_rules_17
set_option maxHeartbeats 4000000 in
set_option maxRecDepth 100000 in
theorem kX8_ruleNow_0 (l : Launch) (g : CX) (σ : ST) (fA_1_0 : σ.2.2 1 0 = 20) : XM l g yX8_ruleNow wsX8_ruleNow { frames := 0, cells := 0, slots := 0, locals := 0 } [.ref (g.2.1 1), .int 0] σ (XQi g (fun r σ' => (20 = r ∧ σ = σ'))) := by
  refine x_met (own := RX8) (cc := cX8_ruleNow) (maxL := 2) (ret := (some .int)) (lv := [(0, .ref (g.2.1 1)), (1, .int 0)]) (by decide) rfl rfl (Nat.le_of_ble_eq_true rfl) rfl ?_
  intro p e s m args below meth c ls E h hl
  have hx := E.1
  have hb := E.2.1
  have hown := E.2.2.2.1
  have hts := E.2.2.2.2.1
  have hwX8 : ∀ w ∈ wsX80, w ∈ wsX8_ruleNow := by decide +kernel
  refine lv_iload_n hx hb dX8_ruleNow_0 rfl (lv_at hl 1 rfl) ?_
  refine lv_if_lt (tgt := 19) hx hb dX8_ruleNow_1 (by decide) (fun c => absurd c (by decide)) (fun _ => ?_)
  refine lv_iload_n hx hb dX8_ruleNow_4 rfl (lv_at hl 1 rfl) ?_
  refine lv_bipush (v := 6) hx hb dX8_ruleNow_5 (by decide) ?_
  refine lv_icmp_ge (tgt := 19) hx hb dX8_ruleNow_7 (by decide) (fun c => absurd c (by decide)) (fun _ => ?_)
  refine lv_aload_n hx hb dX8_ruleNow_10 rfl (lv_at hl 0 rfl) ?_
  refine x_getR E h (fr_rt_now g) rfl hwX8 (by decide) (by decide +kernel) dX8_ruleNow_11 ?_
  refine lv_iload_n hx hb dX8_ruleNow_14 rfl (lv_at hl 1 rfl) ?_
  refine x_ldI E h (ia_rt_now g) (i := 0) (by unfold vp_in; decide) (v := 20) fA_1_0 dX8_ruleNow_15 ?_
  refine lv_goto (tgt := 20) hx hb dX8_ruleNow_16 (by decide) ?_
  exact x_iret E h ⟨rfl, rfl⟩ dX8_ruleNow_20
set_option maxHeartbeats 4000000 in
set_option maxRecDepth 100000 in
theorem kX8_ruleNow_1 (l : Launch) (g : CX) (σ : ST) (fA_1_1 : σ.2.2 1 1 = 10) : XM l g yX8_ruleNow wsX8_ruleNow { frames := 0, cells := 0, slots := 0, locals := 0 } [.ref (g.2.1 1), .int 1] σ (XQi g (fun r σ' => (10 = r ∧ σ = σ'))) := by
  refine x_met (own := RX8) (cc := cX8_ruleNow) (maxL := 2) (ret := (some .int)) (lv := [(0, .ref (g.2.1 1)), (1, .int 1)]) (by decide) rfl rfl (Nat.le_of_ble_eq_true rfl) rfl ?_
  intro p e s m args below meth c ls E h hl
  have hx := E.1
  have hb := E.2.1
  have hown := E.2.2.2.1
  have hts := E.2.2.2.2.1
  have hwX8 : ∀ w ∈ wsX80, w ∈ wsX8_ruleNow := by decide +kernel
  refine lv_iload_n hx hb dX8_ruleNow_0 rfl (lv_at hl 1 rfl) ?_
  refine lv_if_lt (tgt := 19) hx hb dX8_ruleNow_1 (by decide) (fun c => absurd c (by decide)) (fun _ => ?_)
  refine lv_iload_n hx hb dX8_ruleNow_4 rfl (lv_at hl 1 rfl) ?_
  refine lv_bipush (v := 6) hx hb dX8_ruleNow_5 (by decide) ?_
  refine lv_icmp_ge (tgt := 19) hx hb dX8_ruleNow_7 (by decide) (fun c => absurd c (by decide)) (fun _ => ?_)
  refine lv_aload_n hx hb dX8_ruleNow_10 rfl (lv_at hl 0 rfl) ?_
  refine x_getR E h (fr_rt_now g) rfl hwX8 (by decide) (by decide +kernel) dX8_ruleNow_11 ?_
  refine lv_iload_n hx hb dX8_ruleNow_14 rfl (lv_at hl 1 rfl) ?_
  refine x_ldI E h (ia_rt_now g) (i := 1) (by unfold vp_in; decide) (v := 10) fA_1_1 dX8_ruleNow_15 ?_
  refine lv_goto (tgt := 20) hx hb dX8_ruleNow_16 (by decide) ?_
  exact x_iret E h ⟨rfl, rfl⟩ dX8_ruleNow_20
set_option maxHeartbeats 4000000 in
set_option maxRecDepth 100000 in
theorem kX8_ruleNow_2 (l : Launch) (g : CX) (σ : ST) (fA_1_2 : σ.2.2 1 2 = 40) : XM l g yX8_ruleNow wsX8_ruleNow { frames := 0, cells := 0, slots := 0, locals := 0 } [.ref (g.2.1 1), .int 2] σ (XQi g (fun r σ' => (40 = r ∧ σ = σ'))) := by
  refine x_met (own := RX8) (cc := cX8_ruleNow) (maxL := 2) (ret := (some .int)) (lv := [(0, .ref (g.2.1 1)), (1, .int 2)]) (by decide) rfl rfl (Nat.le_of_ble_eq_true rfl) rfl ?_
  intro p e s m args below meth c ls E h hl
  have hx := E.1
  have hb := E.2.1
  have hown := E.2.2.2.1
  have hts := E.2.2.2.2.1
  have hwX8 : ∀ w ∈ wsX80, w ∈ wsX8_ruleNow := by decide +kernel
  refine lv_iload_n hx hb dX8_ruleNow_0 rfl (lv_at hl 1 rfl) ?_
  refine lv_if_lt (tgt := 19) hx hb dX8_ruleNow_1 (by decide) (fun c => absurd c (by decide)) (fun _ => ?_)
  refine lv_iload_n hx hb dX8_ruleNow_4 rfl (lv_at hl 1 rfl) ?_
  refine lv_bipush (v := 6) hx hb dX8_ruleNow_5 (by decide) ?_
  refine lv_icmp_ge (tgt := 19) hx hb dX8_ruleNow_7 (by decide) (fun c => absurd c (by decide)) (fun _ => ?_)
  refine lv_aload_n hx hb dX8_ruleNow_10 rfl (lv_at hl 0 rfl) ?_
  refine x_getR E h (fr_rt_now g) rfl hwX8 (by decide) (by decide +kernel) dX8_ruleNow_11 ?_
  refine lv_iload_n hx hb dX8_ruleNow_14 rfl (lv_at hl 1 rfl) ?_
  refine x_ldI E h (ia_rt_now g) (i := 2) (by unfold vp_in; decide) (v := 40) fA_1_2 dX8_ruleNow_15 ?_
  refine lv_goto (tgt := 20) hx hb dX8_ruleNow_16 (by decide) ?_
  exact x_iret E h ⟨rfl, rfl⟩ dX8_ruleNow_20
set_option maxHeartbeats 4000000 in
set_option maxRecDepth 100000 in
theorem kX8_ruleNow_3 (l : Launch) (g : CX) (σ : ST) (fA_1_3 : σ.2.2 1 3 = 0) : XM l g yX8_ruleNow wsX8_ruleNow { frames := 0, cells := 0, slots := 0, locals := 0 } [.ref (g.2.1 1), .int 3] σ (XQi g (fun r σ' => (0 = r ∧ σ = σ'))) := by
  refine x_met (own := RX8) (cc := cX8_ruleNow) (maxL := 2) (ret := (some .int)) (lv := [(0, .ref (g.2.1 1)), (1, .int 3)]) (by decide) rfl rfl (Nat.le_of_ble_eq_true rfl) rfl ?_
  intro p e s m args below meth c ls E h hl
  have hx := E.1
  have hb := E.2.1
  have hown := E.2.2.2.1
  have hts := E.2.2.2.2.1
  have hwX8 : ∀ w ∈ wsX80, w ∈ wsX8_ruleNow := by decide +kernel
  refine lv_iload_n hx hb dX8_ruleNow_0 rfl (lv_at hl 1 rfl) ?_
  refine lv_if_lt (tgt := 19) hx hb dX8_ruleNow_1 (by decide) (fun c => absurd c (by decide)) (fun _ => ?_)
  refine lv_iload_n hx hb dX8_ruleNow_4 rfl (lv_at hl 1 rfl) ?_
  refine lv_bipush (v := 6) hx hb dX8_ruleNow_5 (by decide) ?_
  refine lv_icmp_ge (tgt := 19) hx hb dX8_ruleNow_7 (by decide) (fun c => absurd c (by decide)) (fun _ => ?_)
  refine lv_aload_n hx hb dX8_ruleNow_10 rfl (lv_at hl 0 rfl) ?_
  refine x_getR E h (fr_rt_now g) rfl hwX8 (by decide) (by decide +kernel) dX8_ruleNow_11 ?_
  refine lv_iload_n hx hb dX8_ruleNow_14 rfl (lv_at hl 1 rfl) ?_
  refine x_ldI E h (ia_rt_now g) (i := 3) (by unfold vp_in; decide) (v := 0) fA_1_3 dX8_ruleNow_15 ?_
  refine lv_goto (tgt := 20) hx hb dX8_ruleNow_16 (by decide) ?_
  exact x_iret E h ⟨rfl, rfl⟩ dX8_ruleNow_20
set_option maxHeartbeats 4000000 in
set_option maxRecDepth 100000 in
theorem kX8_ruleNow_4 (l : Launch) (g : CX) (σ : ST) (fA_1_4 : σ.2.2 1 4 = 0) : XM l g yX8_ruleNow wsX8_ruleNow { frames := 0, cells := 0, slots := 0, locals := 0 } [.ref (g.2.1 1), .int 4] σ (XQi g (fun r σ' => (0 = r ∧ σ = σ'))) := by
  refine x_met (own := RX8) (cc := cX8_ruleNow) (maxL := 2) (ret := (some .int)) (lv := [(0, .ref (g.2.1 1)), (1, .int 4)]) (by decide) rfl rfl (Nat.le_of_ble_eq_true rfl) rfl ?_
  intro p e s m args below meth c ls E h hl
  have hx := E.1
  have hb := E.2.1
  have hown := E.2.2.2.1
  have hts := E.2.2.2.2.1
  have hwX8 : ∀ w ∈ wsX80, w ∈ wsX8_ruleNow := by decide +kernel
  refine lv_iload_n hx hb dX8_ruleNow_0 rfl (lv_at hl 1 rfl) ?_
  refine lv_if_lt (tgt := 19) hx hb dX8_ruleNow_1 (by decide) (fun c => absurd c (by decide)) (fun _ => ?_)
  refine lv_iload_n hx hb dX8_ruleNow_4 rfl (lv_at hl 1 rfl) ?_
  refine lv_bipush (v := 6) hx hb dX8_ruleNow_5 (by decide) ?_
  refine lv_icmp_ge (tgt := 19) hx hb dX8_ruleNow_7 (by decide) (fun c => absurd c (by decide)) (fun _ => ?_)
  refine lv_aload_n hx hb dX8_ruleNow_10 rfl (lv_at hl 0 rfl) ?_
  refine x_getR E h (fr_rt_now g) rfl hwX8 (by decide) (by decide +kernel) dX8_ruleNow_11 ?_
  refine lv_iload_n hx hb dX8_ruleNow_14 rfl (lv_at hl 1 rfl) ?_
  refine x_ldI E h (ia_rt_now g) (i := 4) (by unfold vp_in; decide) (v := 0) fA_1_4 dX8_ruleNow_15 ?_
  refine lv_goto (tgt := 20) hx hb dX8_ruleNow_16 (by decide) ?_
  exact x_iret E h ⟨rfl, rfl⟩ dX8_ruleNow_20
set_option maxHeartbeats 4000000 in
set_option maxRecDepth 100000 in
theorem kX8_ruleNow_5 (l : Launch) (g : CX) (σ : ST) (fA_1_5 : σ.2.2 1 5 = 10) : XM l g yX8_ruleNow wsX8_ruleNow { frames := 0, cells := 0, slots := 0, locals := 0 } [.ref (g.2.1 1), .int 5] σ (XQi g (fun r σ' => (10 = r ∧ σ = σ'))) := by
  refine x_met (own := RX8) (cc := cX8_ruleNow) (maxL := 2) (ret := (some .int)) (lv := [(0, .ref (g.2.1 1)), (1, .int 5)]) (by decide) rfl rfl (Nat.le_of_ble_eq_true rfl) rfl ?_
  intro p e s m args below meth c ls E h hl
  have hx := E.1
  have hb := E.2.1
  have hown := E.2.2.2.1
  have hts := E.2.2.2.2.1
  have hwX8 : ∀ w ∈ wsX80, w ∈ wsX8_ruleNow := by decide +kernel
  refine lv_iload_n hx hb dX8_ruleNow_0 rfl (lv_at hl 1 rfl) ?_
  refine lv_if_lt (tgt := 19) hx hb dX8_ruleNow_1 (by decide) (fun c => absurd c (by decide)) (fun _ => ?_)
  refine lv_iload_n hx hb dX8_ruleNow_4 rfl (lv_at hl 1 rfl) ?_
  refine lv_bipush (v := 6) hx hb dX8_ruleNow_5 (by decide) ?_
  refine lv_icmp_ge (tgt := 19) hx hb dX8_ruleNow_7 (by decide) (fun c => absurd c (by decide)) (fun _ => ?_)
  refine lv_aload_n hx hb dX8_ruleNow_10 rfl (lv_at hl 0 rfl) ?_
  refine x_getR E h (fr_rt_now g) rfl hwX8 (by decide) (by decide +kernel) dX8_ruleNow_11 ?_
  refine lv_iload_n hx hb dX8_ruleNow_14 rfl (lv_at hl 1 rfl) ?_
  refine x_ldI E h (ia_rt_now g) (i := 5) (by unfold vp_in; decide) (v := 10) fA_1_5 dX8_ruleNow_15 ?_
  refine lv_goto (tgt := 20) hx hb dX8_ruleNow_16 (by decide) ?_
  exact x_iret E h ⟨rfl, rfl⟩ dX8_ruleNow_20
set_option maxHeartbeats 4000000 in
set_option maxRecDepth 100000 in
theorem kX11_rule_0 (l : Launch) (g : CX) (σ : ST) (p1 : Int32) (fA_1_0 : σ.2.2 1 0 = 20) (fA_1_1 : σ.2.2 1 1 = 10) (fA_1_2 : σ.2.2 1 2 = 40) (fA_1_3 : σ.2.2 1 3 = 0) (fA_1_4 : σ.2.2 1 4 = 0) (fA_1_5 : σ.2.2 1 5 = 10) : XM l g yX11_rule wsX11_rule { frames := 1, cells := 0, slots := 0, locals := 22 } [.ref (g.2.1 0), .int p1] σ (XQi g (fun r σ' => (bB p1 0 5 = 1 ∧ p1 = 0 ∧ 20 = r ∧ MO σ' σ) ∨ (bB p1 0 5 = 1 ∧ p1 = 1 ∧ 10 = r ∧ MO σ' σ) ∨ (bB p1 0 5 = 1 ∧ p1 = 2 ∧ 40 = r ∧ MO σ' σ) ∨ (bB p1 0 5 = 1 ∧ p1 = 3 ∧ 0 = r ∧ MO σ' σ) ∨ (bB p1 0 5 = 1 ∧ p1 = 4 ∧ 0 = r ∧ MO σ' σ) ∨ (bB p1 0 5 = 1 ∧ p1 = 5 ∧ 10 = r ∧ MO σ' σ) ∨ (bB p1 0 5 = 0 ∧ (-1) = r ∧ MO σ' σ))) := by
  refine x_met (own := RX11) (cc := cX11_rule) (maxL := 2) (ret := (some .int)) (lv := [(0, .ref (g.2.1 0)), (1, .int p1)]) (by decide) rfl rfl (Nat.le_of_ble_eq_true rfl) rfl ?_
  intro p e s m args below meth c ls E h hl
  have hx := E.1
  have hb := E.2.1
  have hown := E.2.2.2.1
  have hts := E.2.2.2.2.1
  have hwX11 : ∀ w ∈ wsX110, w ∈ wsX11_rule := by decide +kernel
  refine lv_iload_n hx hb dX11_rule_0 rfl (lv_at hl 1 rfl) ?_
  refine lv_iconst (v := 0) hx hb dX11_rule_1 (by decide) ?_
  refine lv_iconst (v := 5) hx hb dX11_rule_2 (by decide) ?_
  refine x_si E h (na := 3) (As := [.int p1, .int 0, .int 5]) (kX11_within_0 l g _ p1 0 5) gX11_rule_X11_within rfl ⟨rfl, rfl⟩ rfl (by decide +kernel) ⟨Nat.le_of_ble_eq_true rfl, Nat.le_of_ble_eq_true rfl⟩ hl.1 rfl (Nat.le_of_ble_eq_true rfl) dX11_rule_3 ⟨Nat.le_of_ble_eq_true rfl, Nat.le_of_ble_eq_true rfl⟩ (fun r1 s1 H locs q1 h => ?_)
  rcases q1 with ⟨k1_0, rfl, rfl⟩ | ⟨k1_0, rfl, rfl⟩
  · skip
    refine lv_if_eq (tgt := 20) hx hb dX11_rule_6 (by decide) (fun c => absurd c (by decide)) (fun _ => ?_)
    rcases (bB_0_5 k1_0) with rfl | rfl | rfl | rfl | rfl | rfl
    · skip
      refine lv_aload_n hx hb dX11_rule_9 rfl (lv_at hl 0 rfl) ?_
      refine x_getR E h (fr_vh_ruleText g) rfl hwX11 (by decide) (by decide +kernel) dX11_rule_10 ?_
      refine lv_iload_n hx hb dX11_rule_13 rfl (lv_at hl 1 rfl) ?_
      refine x_vi E h (na := 1) (As := [.int 0]) (kX8_ruleNow_0 l g _  fA_1_0) (oc_rt g) rfl gX11_rule_X8_ruleNow rfl ⟨rfl, rfl⟩ rfl (by decide +kernel) ⟨Nat.le_of_ble_eq_true rfl, Nat.le_of_ble_eq_true rfl⟩ hl.1 rfl (Nat.le_of_ble_eq_true rfl) dX11_rule_14 ⟨Nat.le_of_ble_eq_true rfl, Nat.le_of_ble_eq_true rfl⟩ (fun r2 s2 H locs q2 h => ?_)
      rcases q2 with ⟨rfl, rfl⟩
      refine lv_goto (tgt := 21) hx hb dX11_rule_17 (by decide) ?_
      exact x_iret E h (Or.inl ⟨k1_0, rfl, rfl, (MO.refl σ)⟩) dX11_rule_21
    · skip
      refine lv_aload_n hx hb dX11_rule_9 rfl (lv_at hl 0 rfl) ?_
      refine x_getR E h (fr_vh_ruleText g) rfl hwX11 (by decide) (by decide +kernel) dX11_rule_10 ?_
      refine lv_iload_n hx hb dX11_rule_13 rfl (lv_at hl 1 rfl) ?_
      refine x_vi E h (na := 1) (As := [.int 1]) (kX8_ruleNow_1 l g _  fA_1_1) (oc_rt g) rfl gX11_rule_X8_ruleNow rfl ⟨rfl, rfl⟩ rfl (by decide +kernel) ⟨Nat.le_of_ble_eq_true rfl, Nat.le_of_ble_eq_true rfl⟩ hl.1 rfl (Nat.le_of_ble_eq_true rfl) dX11_rule_14 ⟨Nat.le_of_ble_eq_true rfl, Nat.le_of_ble_eq_true rfl⟩ (fun r3 s3 H locs q3 h => ?_)
      rcases q3 with ⟨rfl, rfl⟩
      refine lv_goto (tgt := 21) hx hb dX11_rule_17 (by decide) ?_
      exact x_iret E h (Or.inr (Or.inl ⟨k1_0, rfl, rfl, (MO.refl σ)⟩)) dX11_rule_21
    · skip
      refine lv_aload_n hx hb dX11_rule_9 rfl (lv_at hl 0 rfl) ?_
      refine x_getR E h (fr_vh_ruleText g) rfl hwX11 (by decide) (by decide +kernel) dX11_rule_10 ?_
      refine lv_iload_n hx hb dX11_rule_13 rfl (lv_at hl 1 rfl) ?_
      refine x_vi E h (na := 1) (As := [.int 2]) (kX8_ruleNow_2 l g _  fA_1_2) (oc_rt g) rfl gX11_rule_X8_ruleNow rfl ⟨rfl, rfl⟩ rfl (by decide +kernel) ⟨Nat.le_of_ble_eq_true rfl, Nat.le_of_ble_eq_true rfl⟩ hl.1 rfl (Nat.le_of_ble_eq_true rfl) dX11_rule_14 ⟨Nat.le_of_ble_eq_true rfl, Nat.le_of_ble_eq_true rfl⟩ (fun r4 s4 H locs q4 h => ?_)
      rcases q4 with ⟨rfl, rfl⟩
      refine lv_goto (tgt := 21) hx hb dX11_rule_17 (by decide) ?_
      exact x_iret E h (Or.inr (Or.inr (Or.inl ⟨k1_0, rfl, rfl, (MO.refl σ)⟩))) dX11_rule_21
    · skip
      refine lv_aload_n hx hb dX11_rule_9 rfl (lv_at hl 0 rfl) ?_
      refine x_getR E h (fr_vh_ruleText g) rfl hwX11 (by decide) (by decide +kernel) dX11_rule_10 ?_
      refine lv_iload_n hx hb dX11_rule_13 rfl (lv_at hl 1 rfl) ?_
      refine x_vi E h (na := 1) (As := [.int 3]) (kX8_ruleNow_3 l g _  fA_1_3) (oc_rt g) rfl gX11_rule_X8_ruleNow rfl ⟨rfl, rfl⟩ rfl (by decide +kernel) ⟨Nat.le_of_ble_eq_true rfl, Nat.le_of_ble_eq_true rfl⟩ hl.1 rfl (Nat.le_of_ble_eq_true rfl) dX11_rule_14 ⟨Nat.le_of_ble_eq_true rfl, Nat.le_of_ble_eq_true rfl⟩ (fun r5 s5 H locs q5 h => ?_)
      rcases q5 with ⟨rfl, rfl⟩
      refine lv_goto (tgt := 21) hx hb dX11_rule_17 (by decide) ?_
      exact x_iret E h (Or.inr (Or.inr (Or.inr (Or.inl ⟨k1_0, rfl, rfl, (MO.refl σ)⟩)))) dX11_rule_21
    · skip
      refine lv_aload_n hx hb dX11_rule_9 rfl (lv_at hl 0 rfl) ?_
      refine x_getR E h (fr_vh_ruleText g) rfl hwX11 (by decide) (by decide +kernel) dX11_rule_10 ?_
      refine lv_iload_n hx hb dX11_rule_13 rfl (lv_at hl 1 rfl) ?_
      refine x_vi E h (na := 1) (As := [.int 4]) (kX8_ruleNow_4 l g _  fA_1_4) (oc_rt g) rfl gX11_rule_X8_ruleNow rfl ⟨rfl, rfl⟩ rfl (by decide +kernel) ⟨Nat.le_of_ble_eq_true rfl, Nat.le_of_ble_eq_true rfl⟩ hl.1 rfl (Nat.le_of_ble_eq_true rfl) dX11_rule_14 ⟨Nat.le_of_ble_eq_true rfl, Nat.le_of_ble_eq_true rfl⟩ (fun r6 s6 H locs q6 h => ?_)
      rcases q6 with ⟨rfl, rfl⟩
      refine lv_goto (tgt := 21) hx hb dX11_rule_17 (by decide) ?_
      exact x_iret E h (Or.inr (Or.inr (Or.inr (Or.inr (Or.inl ⟨k1_0, rfl, rfl, (MO.refl σ)⟩))))) dX11_rule_21
    · skip
      refine lv_aload_n hx hb dX11_rule_9 rfl (lv_at hl 0 rfl) ?_
      refine x_getR E h (fr_vh_ruleText g) rfl hwX11 (by decide) (by decide +kernel) dX11_rule_10 ?_
      refine lv_iload_n hx hb dX11_rule_13 rfl (lv_at hl 1 rfl) ?_
      refine x_vi E h (na := 1) (As := [.int 5]) (kX8_ruleNow_5 l g _  fA_1_5) (oc_rt g) rfl gX11_rule_X8_ruleNow rfl ⟨rfl, rfl⟩ rfl (by decide +kernel) ⟨Nat.le_of_ble_eq_true rfl, Nat.le_of_ble_eq_true rfl⟩ hl.1 rfl (Nat.le_of_ble_eq_true rfl) dX11_rule_14 ⟨Nat.le_of_ble_eq_true rfl, Nat.le_of_ble_eq_true rfl⟩ (fun r7 s7 H locs q7 h => ?_)
      rcases q7 with ⟨rfl, rfl⟩
      refine lv_goto (tgt := 21) hx hb dX11_rule_17 (by decide) ?_
      exact x_iret E h (Or.inr (Or.inr (Or.inr (Or.inr (Or.inr (Or.inl ⟨k1_0, rfl, rfl, (MO.refl σ)⟩)))))) dX11_rule_21
  · skip
    refine lv_if_eq (tgt := 20) hx hb dX11_rule_6 (by decide) (fun _ => ?_) (fun c => absurd (by decide) c)
    refine lv_iconst (v := (-1)) hx hb dX11_rule_20 (by decide) ?_
    exact x_iret E h (Or.inr (Or.inr (Or.inr (Or.inr (Or.inr (Or.inr (⟨k1_0, rfl, (MO.refl σ)⟩))))))) dX11_rule_21
set_option maxHeartbeats 4000000 in
set_option maxRecDepth 100000 in
theorem kX11_isLoudness_0 (l : Launch) (g : CX) (σ : ST) (p0 : Int32) : XM l g yX11_isLoudness wsX11_isLoudness { frames := 1, cells := 0, slots := 0, locals := 22 } [.int p0] σ (XQi g (fun r σ' => (bB p0 0 99 = 1 ∧ 1 = r ∧ σ = σ') ∨ (bB p0 0 99 = 0 ∧ 0 = r ∧ σ = σ'))) := by
  refine x_met (own := RX11) (cc := cX11_isLoudness) (maxL := 1) (ret := (some .boolean)) (lv := [(0, .int p0)]) (by decide) rfl rfl (Nat.le_of_ble_eq_true rfl) rfl ?_
  intro p e s m args below meth c ls E h hl
  have hx := E.1
  have hb := E.2.1
  have hown := E.2.2.2.1
  have hts := E.2.2.2.2.1
  refine lv_iload_n hx hb dX11_isLoudness_0 rfl (lv_at hl 0 rfl) ?_
  refine lv_iconst (v := 0) hx hb dX11_isLoudness_1 (by decide) ?_
  refine lv_bipush (v := 99) hx hb dX11_isLoudness_2 (by decide) ?_
  refine x_si E h (na := 3) (As := [.int p0, .int 0, .int 99]) (kX11_within_0 l g _ p0 0 99) gX11_isLoudness_X11_within rfl ⟨rfl, rfl⟩ rfl (by decide +kernel) ⟨Nat.le_of_ble_eq_true rfl, Nat.le_of_ble_eq_true rfl⟩ hl.1 rfl (Nat.le_of_ble_eq_true rfl) dX11_isLoudness_4 ⟨Nat.le_of_ble_eq_true rfl, Nat.le_of_ble_eq_true rfl⟩ (fun r1 s1 H locs q1 h => ?_)
  rcases q1 with ⟨k1_0, rfl, rfl⟩ | ⟨k1_0, rfl, rfl⟩
  · skip
    exact x_zret E h rfl (Or.inl ⟨k1_0, rfl, rfl⟩) dX11_isLoudness_7
  · skip
    exact x_zret E h rfl (Or.inr (⟨k1_0, rfl, rfl⟩)) dX11_isLoudness_7
set_option maxHeartbeats 4000000 in
set_option maxRecDepth 100000 in
theorem kX7_addDeaf_0 (l : Launch) (g : CX) (σ : ST) (fI_2 : σ.1 2 = 0) : XM l g yX7_addDeaf wsX7_addDeaf { frames := 0, cells := 0, slots := 0, locals := 0 } [.ref (g.2.1 5)] σ (XQi g (fun r σ' => (0 = r ∧ (sI (sA (sA (sA σ 4 (upd (σ.2.2 4) 0 (vp_nar .boolean 1))) 5 (upd (σ.2.2 5) 0 (vp_nar .boolean 0))) 6 (upd (σ.2.2 6) 0 0)) 2 1) = σ'))) := by
  refine x_met (own := RX7) (cc := cX7_addDeaf) (maxL := 2) (ret := (some .int)) (lv := [(0, .ref (g.2.1 5))]) (by decide) rfl rfl (Nat.le_of_ble_eq_true rfl) rfl ?_
  intro p e s m args below meth c ls E h hl
  have hx := E.1
  have hb := E.2.1
  have hown := E.2.2.2.1
  have hts := E.2.2.2.2.1
  have hwX7 : ∀ w ∈ wsX70, w ∈ wsX7_addDeaf := by decide +kernel
  refine lv_aload_n hx hb dX7_addDeaf_0 rfl (lv_at hl 0 rfl) ?_
  refine x_getI E h (fi_bk_rows g) rfl hwX7 (by decide) (by decide +kernel) (v := 0) fI_2 dX7_addDeaf_1 ?_
  refine lv_bipush (v := 48) hx hb dX7_addDeaf_4 (by decide) ?_
  refine lv_icmp_lt (tgt := 12) hx hb dX7_addDeaf_6 (by decide) (fun _ => ?_) (fun c => absurd (by decide) c)
  refine lv_aload_n hx hb dX7_addDeaf_12 rfl (lv_at hl 0 rfl) ?_
  refine x_getI E h (fi_bk_rows g) rfl hwX7 (by decide) (by decide +kernel) (v := 0) fI_2 dX7_addDeaf_13 ?_
  refine lv_istore_n (lv' := [(1, .int 0), (0, .ref (g.2.1 5))]) hx hb dX7_addDeaf_16 rfl hl (by decide) rfl (fun ls hl => ?_)
  refine lv_aload_n hx hb dX7_addDeaf_17 rfl (lv_at hl 1 rfl) ?_
  refine x_getR E h (fr_bk_isDeaf g) rfl hwX7 (by decide) (by decide +kernel) dX7_addDeaf_18 ?_
  refine lv_iload_n hx hb dX7_addDeaf_21 rfl (lv_at hl 0 rfl) ?_
  refine lv_iconst (v := 1) hx hb dX7_addDeaf_22 (by decide) ?_
  refine x_stZ E h (ia_bk_isDeaf g) (i := 0) (by unfold vp_in; decide) (j := (0)) rfl rfl dX7_addDeaf_23 (fun H locs h => ?_)
  refine lv_aload_n hx hb dX7_addDeaf_24 rfl (lv_at hl 1 rfl) ?_
  refine x_getR E h (fr_bk_isOut g) rfl hwX7 (by decide) (by decide +kernel) dX7_addDeaf_25 ?_
  refine lv_iload_n hx hb dX7_addDeaf_28 rfl (lv_at hl 0 rfl) ?_
  refine lv_iconst (v := 0) hx hb dX7_addDeaf_29 (by decide) ?_
  refine x_stZ E h (ia_bk_isOut g) (i := 0) (by unfold vp_in; decide) (j := (0)) rfl rfl dX7_addDeaf_30 (fun H locs h => ?_)
  refine lv_aload_n hx hb dX7_addDeaf_31 rfl (lv_at hl 1 rfl) ?_
  refine x_getR E h (fr_bk_truthOf g) rfl hwX7 (by decide) (by decide +kernel) dX7_addDeaf_32 ?_
  refine lv_iload_n hx hb dX7_addDeaf_35 rfl (lv_at hl 0 rfl) ?_
  refine lv_iconst (v := 0) hx hb dX7_addDeaf_36 (by decide) ?_
  refine x_stI E h (ia_bk_truthOf g) (i := 0) (by unfold vp_in; decide) (j := (0)) rfl rfl dX7_addDeaf_37 (fun H locs h => ?_)
  refine lv_aload_n hx hb dX7_addDeaf_38 rfl (lv_at hl 1 rfl) ?_
  refine lv_dup hx hb dX7_addDeaf_39 rfl ?_
  refine x_getI E h (fi_bk_rows g) rfl hwX7 (by decide) (by decide +kernel) (v := 0) fI_2 dX7_addDeaf_40 ?_
  refine lv_iconst (v := 1) hx hb dX7_addDeaf_43 (by decide) ?_
  refine lv_iadd hx hb dX7_addDeaf_44 ?_
  refine x_topI (v2 := 1) (by decide) ?_
  refine x_putI E h (ty := .int) (v := 1) (fi_bk_rows g) rfl hwX7 tyX7_ok nmX7 (by decide) (by decide +kernel) (by decide +kernel) (by decide +kernel) rfl rfl dX7_addDeaf_45 (fun H locs h => ?_)
  refine lv_iload_n hx hb dX7_addDeaf_48 rfl (lv_at hl 0 rfl) ?_
  exact x_iret E h ⟨rfl, rfl⟩ dX7_addDeaf_49
set_option maxHeartbeats 4000000 in
set_option maxRecDepth 100000 in
theorem kX7_addRow_0 (l : Launch) (g : CX) (σ : ST) (p1 : Int32) (p2 : Int32) (p3 : Int32) (p4 : Int32) (fI_2 : σ.1 2 = 0) : XM l g yX7_addRow wsX7_addRow { frames := 1, cells := 0, slots := 0, locals := 21 } [.ref (g.2.1 5), .int p1, .int p2, .int p3, .int p4] σ (XQi g (fun r σ' => (0 = r ∧ (sA (sA (sA (sA (sA (sI (sA (sA (sA σ 4 (upd (σ.2.2 4) 0 (vp_nar .boolean 1))) 5 (upd (σ.2.2 5) 0 (vp_nar .boolean 0))) 6 (upd (σ.2.2 6) 0 0)) 2 1) 4 (upd (upd (σ.2.2 4) 0 (vp_nar .boolean 1)) 0 (vp_nar .boolean 0))) 3 (upd (σ.2.2 3) 0 p1)) 3 (upd (upd (σ.2.2 3) 0 p1) 1 p2)) 3 (upd (upd (upd (σ.2.2 3) 0 p1) 1 p2) 2 p3)) 3 (upd (upd (upd (upd (σ.2.2 3) 0 p1) 1 p2) 2 p3) 3 p4)) = σ'))) := by
  refine x_met (own := RX7) (cc := cX7_addRow) (maxL := 6) (ret := (some .int)) (lv := [(0, .ref (g.2.1 5)), (1, .int p1), (2, .int p2), (3, .int p3), (4, .int p4)]) (by decide) rfl rfl (Nat.le_of_ble_eq_true rfl) rfl ?_
  intro p e s m args below meth c ls E h hl
  have hx := E.1
  have hb := E.2.1
  have hown := E.2.2.2.1
  have hts := E.2.2.2.2.1
  have hwX7 : ∀ w ∈ wsX70, w ∈ wsX7_addRow := by decide +kernel
  refine lv_aload_n hx hb dX7_addRow_0 rfl (lv_at hl 0 rfl) ?_
  refine x_vi E h (na := 0) (As := []) (kX7_addDeaf_0 l g _  fI_2) (oc_bk g) rfl gX7_addRow_X7_addDeaf rfl ⟨rfl, rfl⟩ rfl (by decide +kernel) ⟨Nat.le_of_ble_eq_true rfl, Nat.le_of_ble_eq_true rfl⟩ hl.1 rfl (Nat.le_of_ble_eq_true rfl) dX7_addRow_1 ⟨Nat.le_of_ble_eq_true rfl, Nat.le_of_ble_eq_true rfl⟩ (fun r1 s1 H locs q1 h => ?_)
  rcases q1 with ⟨rfl, rfl⟩
  refine lv_istore (lv' := [(5, .int 0), (0, .ref (g.2.1 5)), (1, .int p1), (2, .int p2), (3, .int p3), (4, .int p4)]) hx hb dX7_addRow_4 hl (by decide) rfl (fun ls hl => ?_)
  refine lv_iload hx hb dX7_addRow_6 (lv_at hl 0 rfl) ?_
  refine lv_if_lt (tgt := 66) hx hb dX7_addRow_8 (by decide) (fun c => absurd c (by decide)) (fun _ => ?_)
  refine lv_aload_n hx hb dX7_addRow_11 rfl (lv_at hl 1 rfl) ?_
  refine x_getR E h (fr_bk_isDeaf g) rfl hwX7 (by decide) (by decide +kernel) dX7_addRow_12 ?_
  refine lv_iload hx hb dX7_addRow_15 (lv_at hl 0 rfl) ?_
  refine lv_iconst (v := 0) hx hb dX7_addRow_17 (by decide) ?_
  refine x_stZ E h (ia_bk_isDeaf g) (i := 0) (by unfold vp_in; decide) (j := (0)) rfl rfl dX7_addRow_18 (fun H locs h => ?_)
  refine lv_aload_n hx hb dX7_addRow_19 rfl (lv_at hl 1 rfl) ?_
  refine x_getR E h (fr_bk_numbers g) rfl hwX7 (by decide) (by decide +kernel) dX7_addRow_20 ?_
  refine lv_iload hx hb dX7_addRow_23 (lv_at hl 0 rfl) ?_
  refine lv_iconst (v := 4) hx hb dX7_addRow_25 (by decide) ?_
  refine lv_imul hx hb dX7_addRow_26 ?_
  refine x_topI (v2 := 0) (by decide) ?_
  refine lv_iload_n hx hb dX7_addRow_27 rfl (lv_at hl 2 rfl) ?_
  refine x_stI E h (ia_bk_numbers g) (i := 0) (by unfold vp_in; decide) (j := (0)) rfl rfl dX7_addRow_28 (fun H locs h => ?_)
  refine lv_aload_n hx hb dX7_addRow_29 rfl (lv_at hl 1 rfl) ?_
  refine x_getR E h (fr_bk_numbers g) rfl hwX7 (by decide) (by decide +kernel) dX7_addRow_30 ?_
  refine lv_iload hx hb dX7_addRow_33 (lv_at hl 0 rfl) ?_
  refine lv_iconst (v := 4) hx hb dX7_addRow_35 (by decide) ?_
  refine lv_imul hx hb dX7_addRow_36 ?_
  refine x_topI (v2 := 0) (by decide) ?_
  refine lv_iconst (v := 1) hx hb dX7_addRow_37 (by decide) ?_
  refine lv_iadd hx hb dX7_addRow_38 ?_
  refine x_topI (v2 := 1) (by decide) ?_
  refine lv_iload_n hx hb dX7_addRow_39 rfl (lv_at hl 3 rfl) ?_
  refine x_stI E h (ia_bk_numbers g) (i := 1) (by unfold vp_in; decide) (j := (1)) rfl rfl dX7_addRow_40 (fun H locs h => ?_)
  refine lv_aload_n hx hb dX7_addRow_41 rfl (lv_at hl 1 rfl) ?_
  refine x_getR E h (fr_bk_numbers g) rfl hwX7 (by decide) (by decide +kernel) dX7_addRow_42 ?_
  refine lv_iload hx hb dX7_addRow_45 (lv_at hl 0 rfl) ?_
  refine lv_iconst (v := 4) hx hb dX7_addRow_47 (by decide) ?_
  refine lv_imul hx hb dX7_addRow_48 ?_
  refine x_topI (v2 := 0) (by decide) ?_
  refine lv_iconst (v := 2) hx hb dX7_addRow_49 (by decide) ?_
  refine lv_iadd hx hb dX7_addRow_50 ?_
  refine x_topI (v2 := 2) (by decide) ?_
  refine lv_iload_n hx hb dX7_addRow_51 rfl (lv_at hl 4 rfl) ?_
  refine x_stI E h (ia_bk_numbers g) (i := 2) (by unfold vp_in; decide) (j := (2)) rfl rfl dX7_addRow_52 (fun H locs h => ?_)
  refine lv_aload_n hx hb dX7_addRow_53 rfl (lv_at hl 1 rfl) ?_
  refine x_getR E h (fr_bk_numbers g) rfl hwX7 (by decide) (by decide +kernel) dX7_addRow_54 ?_
  refine lv_iload hx hb dX7_addRow_57 (lv_at hl 0 rfl) ?_
  refine lv_iconst (v := 4) hx hb dX7_addRow_59 (by decide) ?_
  refine lv_imul hx hb dX7_addRow_60 ?_
  refine x_topI (v2 := 0) (by decide) ?_
  refine lv_iconst (v := 3) hx hb dX7_addRow_61 (by decide) ?_
  refine lv_iadd hx hb dX7_addRow_62 ?_
  refine x_topI (v2 := 3) (by decide) ?_
  refine lv_iload hx hb dX7_addRow_63 (lv_at hl 5 rfl) ?_
  refine x_stI E h (ia_bk_numbers g) (i := 3) (by unfold vp_in; decide) (j := (3)) rfl rfl dX7_addRow_65 (fun H locs h => ?_)
  refine lv_iload hx hb dX7_addRow_66 (lv_at hl 0 rfl) ?_
  exact x_iret E h ⟨rfl, rfl⟩ dX7_addRow_68
set_option maxHeartbeats 4000000 in
set_option maxRecDepth 100000 in
theorem kX11_row_0 (l : Launch) (g : CX) (σ : ST) (p1 : Int32) (p2 : Int32) (p3 : Int32) (p4 : Int32) (fI_2 : σ.1 2 = 0) : XM l g yX11_row wsX11_row { frames := 2, cells := 0, slots := 0, locals := 46 } [.ref (g.2.1 0), .int p1, .int p2, .int p3, .int p4] σ (XQi g (fun r σ' => (bB p1 0 99 = 1 ∧ bB p2 0 99 = 1 ∧ bB p3 0 99 = 1 ∧ bB p4 0 99 = 1 ∧ 0 = r ∧ MO σ' σ) ∨ (bB p1 0 99 = 1 ∧ bB p2 0 99 = 1 ∧ bB p3 0 99 = 1 ∧ bB p4 0 99 = 0 ∧ (-1) = r ∧ MO σ' σ) ∨ (bB p1 0 99 = 1 ∧ bB p2 0 99 = 1 ∧ bB p3 0 99 = 0 ∧ (-1) = r ∧ MO σ' σ) ∨ (bB p1 0 99 = 1 ∧ bB p2 0 99 = 0 ∧ (-1) = r ∧ MO σ' σ) ∨ (bB p1 0 99 = 0 ∧ (-1) = r ∧ MO σ' σ))) := by
  refine x_met (own := RX11) (cc := cX11_row) (maxL := 5) (ret := (some .int)) (lv := [(0, .ref (g.2.1 0)), (1, .int p1), (2, .int p2), (3, .int p3), (4, .int p4)]) (by decide) rfl rfl (Nat.le_of_ble_eq_true rfl) rfl ?_
  intro p e s m args below meth c ls E h hl
  have hx := E.1
  have hb := E.2.1
  have hown := E.2.2.2.1
  have hts := E.2.2.2.2.1
  have hwX11 : ∀ w ∈ wsX110, w ∈ wsX11_row := by decide +kernel
  have hwX7 : ∀ w ∈ wsX70, w ∈ wsX11_row := by decide +kernel
  refine lv_iload_n hx hb dX11_row_0 rfl (lv_at hl 1 rfl) ?_
  refine x_si E h (na := 1) (As := [.int p1]) (kX11_isLoudness_0 l g _ p1 ) gX11_row_X11_isLoudness rfl ⟨rfl, rfl⟩ rfl (by decide +kernel) ⟨Nat.le_of_ble_eq_true rfl, Nat.le_of_ble_eq_true rfl⟩ hl.1 rfl (Nat.le_of_ble_eq_true rfl) dX11_row_1 ⟨Nat.le_of_ble_eq_true rfl, Nat.le_of_ble_eq_true rfl⟩ (fun r1 s1 H locs q1 h => ?_)
  rcases q1 with ⟨k1_0, rfl, rfl⟩ | ⟨k1_0, rfl, rfl⟩
  · skip
    refine lv_if_eq (tgt := 29) hx hb dX11_row_4 (by decide) (fun c => absurd c (by decide)) (fun _ => ?_)
    refine lv_iload_n hx hb dX11_row_7 rfl (lv_at hl 2 rfl) ?_
    refine x_si E h (na := 1) (As := [.int p2]) (kX11_isLoudness_0 l g _ p2 ) gX11_row_X11_isLoudness rfl ⟨rfl, rfl⟩ rfl (by decide +kernel) ⟨Nat.le_of_ble_eq_true rfl, Nat.le_of_ble_eq_true rfl⟩ hl.1 rfl (Nat.le_of_ble_eq_true rfl) dX11_row_8 ⟨Nat.le_of_ble_eq_true rfl, Nat.le_of_ble_eq_true rfl⟩ (fun r2 s2 H locs q2 h => ?_)
    rcases q2 with ⟨k2_0, rfl, rfl⟩ | ⟨k2_0, rfl, rfl⟩
    · skip
      refine lv_if_eq (tgt := 29) hx hb dX11_row_11 (by decide) (fun c => absurd c (by decide)) (fun _ => ?_)
      refine lv_iload_n hx hb dX11_row_14 rfl (lv_at hl 3 rfl) ?_
      refine x_si E h (na := 1) (As := [.int p3]) (kX11_isLoudness_0 l g _ p3 ) gX11_row_X11_isLoudness rfl ⟨rfl, rfl⟩ rfl (by decide +kernel) ⟨Nat.le_of_ble_eq_true rfl, Nat.le_of_ble_eq_true rfl⟩ hl.1 rfl (Nat.le_of_ble_eq_true rfl) dX11_row_15 ⟨Nat.le_of_ble_eq_true rfl, Nat.le_of_ble_eq_true rfl⟩ (fun r3 s3 H locs q3 h => ?_)
      rcases q3 with ⟨k3_0, rfl, rfl⟩ | ⟨k3_0, rfl, rfl⟩
      · skip
        refine lv_if_eq (tgt := 29) hx hb dX11_row_18 (by decide) (fun c => absurd c (by decide)) (fun _ => ?_)
        refine lv_iload hx hb dX11_row_21 (lv_at hl 4 rfl) ?_
        refine x_si E h (na := 1) (As := [.int p4]) (kX11_isLoudness_0 l g _ p4 ) gX11_row_X11_isLoudness rfl ⟨rfl, rfl⟩ rfl (by decide +kernel) ⟨Nat.le_of_ble_eq_true rfl, Nat.le_of_ble_eq_true rfl⟩ hl.1 rfl (Nat.le_of_ble_eq_true rfl) dX11_row_23 ⟨Nat.le_of_ble_eq_true rfl, Nat.le_of_ble_eq_true rfl⟩ (fun r4 s4 H locs q4 h => ?_)
        rcases q4 with ⟨k4_0, rfl, rfl⟩ | ⟨k4_0, rfl, rfl⟩
        · skip
          refine lv_if_ne (tgt := 31) hx hb dX11_row_26 (by decide) (fun _ => ?_) (fun c => absurd c (by decide))
          refine lv_aload_n hx hb dX11_row_31 rfl (lv_at hl 0 rfl) ?_
          refine x_getR E h (fr_vh_book g) rfl hwX11 (by decide) (by decide +kernel) dX11_row_32 ?_
          refine x_getIN E h (fi_bk_rows g) rfl hwX7 (by decide) (by decide +kernel) (v := 0) fI_2 dX11_row_35 ?_
          refine lv_bipush (v := 48) hx hb dX11_row_38 (by decide) ?_
          refine lv_icmp_lt (tgt := 46) hx hb dX11_row_40 (by decide) (fun _ => ?_) (fun c => absurd (by decide) c)
          refine lv_aload_n hx hb dX11_row_46 rfl (lv_at hl 0 rfl) ?_
          refine x_vv E h (na := 0) (As := []) (kX11_nothingIsFound_0 l g _  ) (oc_vh g) rfl gX11_row_X11_nothingIsFound rfl ⟨rfl, rfl⟩ rfl (by decide +kernel) ⟨Nat.le_of_ble_eq_true rfl, Nat.le_of_ble_eq_true rfl⟩ hl.1 rfl (Nat.le_of_ble_eq_true rfl) dX11_row_47 ⟨Nat.le_of_ble_eq_true rfl, Nat.le_of_ble_eq_true rfl⟩ (fun s5 H locs q5 h => ?_)
          rcases q5 with rfl
          refine lv_aload_n hx hb dX11_row_50 rfl (lv_at hl 0 rfl) ?_
          refine x_getR E h (fr_vh_book g) rfl hwX11 (by decide) (by decide +kernel) dX11_row_51 ?_
          refine lv_iload_n hx hb dX11_row_54 rfl (lv_at hl 1 rfl) ?_
          refine lv_iload_n hx hb dX11_row_55 rfl (lv_at hl 2 rfl) ?_
          refine lv_iload_n hx hb dX11_row_56 rfl (lv_at hl 3 rfl) ?_
          refine lv_iload hx hb dX11_row_57 (lv_at hl 4 rfl) ?_
          refine x_vi E h (na := 4) (As := [.int p1, .int p2, .int p3, .int p4]) (kX7_addRow_0 l g _ p1 p2 p3 p4 fI_2) (oc_bk g) rfl gX11_row_X7_addRow rfl ⟨rfl, rfl⟩ rfl (by decide +kernel) ⟨Nat.le_of_ble_eq_true rfl, Nat.le_of_ble_eq_true rfl⟩ hl.1 rfl (Nat.le_of_ble_eq_true rfl) dX11_row_59 ⟨Nat.le_of_ble_eq_true rfl, Nat.le_of_ble_eq_true rfl⟩ (fun r6 s6 H locs q6 h => ?_)
          rcases q6 with ⟨rfl, rfl⟩
          exact x_iret E h (Or.inl ⟨k1_0, k2_0, k3_0, k4_0, rfl, (MO.refl σ)⟩) dX11_row_62
        · skip
          refine lv_if_ne (tgt := 31) hx hb dX11_row_26 (by decide) (fun c => absurd (by decide) c) (fun _ => ?_)
          refine lv_iconst (v := (-1)) hx hb dX11_row_29 (by decide) ?_
          exact x_iret E h (Or.inr (Or.inl ⟨k1_0, k2_0, k3_0, k4_0, rfl, (MO.refl σ)⟩)) dX11_row_30
      · skip
        refine lv_if_eq (tgt := 29) hx hb dX11_row_18 (by decide) (fun _ => ?_) (fun c => absurd (by decide) c)
        refine lv_iconst (v := (-1)) hx hb dX11_row_29 (by decide) ?_
        exact x_iret E h (Or.inr (Or.inr (Or.inl ⟨k1_0, k2_0, k3_0, rfl, (MO.refl σ)⟩))) dX11_row_30
    · skip
      refine lv_if_eq (tgt := 29) hx hb dX11_row_11 (by decide) (fun _ => ?_) (fun c => absurd (by decide) c)
      refine lv_iconst (v := (-1)) hx hb dX11_row_29 (by decide) ?_
      exact x_iret E h (Or.inr (Or.inr (Or.inr (Or.inl ⟨k1_0, k2_0, rfl, (MO.refl σ)⟩)))) dX11_row_30
  · skip
    refine lv_if_eq (tgt := 29) hx hb dX11_row_4 (by decide) (fun _ => ?_) (fun c => absurd (by decide) c)
    refine lv_iconst (v := (-1)) hx hb dX11_row_29 (by decide) ?_
    exact x_iret E h (Or.inr (Or.inr (Or.inr (Or.inr (⟨k1_0, rfl, (MO.refl σ)⟩))))) dX11_row_30
set_option maxHeartbeats 4000000 in
set_option maxRecDepth 100000 in
theorem kX7_addDeaf_1 (l : Launch) (g : CX) (σ : ST) (fI_2 : σ.1 2 = 1) : XM l g yX7_addDeaf wsX7_addDeaf { frames := 0, cells := 0, slots := 0, locals := 0 } [.ref (g.2.1 5)] σ (XQi g (fun r σ' => (1 = r ∧ (sI (sA (sA (sA σ 4 (upd (σ.2.2 4) 1 (vp_nar .boolean 1))) 5 (upd (σ.2.2 5) 1 (vp_nar .boolean 0))) 6 (upd (σ.2.2 6) 1 0)) 2 2) = σ'))) := by
  refine x_met (own := RX7) (cc := cX7_addDeaf) (maxL := 2) (ret := (some .int)) (lv := [(0, .ref (g.2.1 5))]) (by decide) rfl rfl (Nat.le_of_ble_eq_true rfl) rfl ?_
  intro p e s m args below meth c ls E h hl
  have hx := E.1
  have hb := E.2.1
  have hown := E.2.2.2.1
  have hts := E.2.2.2.2.1
  have hwX7 : ∀ w ∈ wsX70, w ∈ wsX7_addDeaf := by decide +kernel
  refine lv_aload_n hx hb dX7_addDeaf_0 rfl (lv_at hl 0 rfl) ?_
  refine x_getI E h (fi_bk_rows g) rfl hwX7 (by decide) (by decide +kernel) (v := 1) fI_2 dX7_addDeaf_1 ?_
  refine lv_bipush (v := 48) hx hb dX7_addDeaf_4 (by decide) ?_
  refine lv_icmp_lt (tgt := 12) hx hb dX7_addDeaf_6 (by decide) (fun _ => ?_) (fun c => absurd (by decide) c)
  refine lv_aload_n hx hb dX7_addDeaf_12 rfl (lv_at hl 0 rfl) ?_
  refine x_getI E h (fi_bk_rows g) rfl hwX7 (by decide) (by decide +kernel) (v := 1) fI_2 dX7_addDeaf_13 ?_
  refine lv_istore_n (lv' := [(1, .int 1), (0, .ref (g.2.1 5))]) hx hb dX7_addDeaf_16 rfl hl (by decide) rfl (fun ls hl => ?_)
  refine lv_aload_n hx hb dX7_addDeaf_17 rfl (lv_at hl 1 rfl) ?_
  refine x_getR E h (fr_bk_isDeaf g) rfl hwX7 (by decide) (by decide +kernel) dX7_addDeaf_18 ?_
  refine lv_iload_n hx hb dX7_addDeaf_21 rfl (lv_at hl 0 rfl) ?_
  refine lv_iconst (v := 1) hx hb dX7_addDeaf_22 (by decide) ?_
  refine x_stZ E h (ia_bk_isDeaf g) (i := 1) (by unfold vp_in; decide) (j := (1)) rfl rfl dX7_addDeaf_23 (fun H locs h => ?_)
  refine lv_aload_n hx hb dX7_addDeaf_24 rfl (lv_at hl 1 rfl) ?_
  refine x_getR E h (fr_bk_isOut g) rfl hwX7 (by decide) (by decide +kernel) dX7_addDeaf_25 ?_
  refine lv_iload_n hx hb dX7_addDeaf_28 rfl (lv_at hl 0 rfl) ?_
  refine lv_iconst (v := 0) hx hb dX7_addDeaf_29 (by decide) ?_
  refine x_stZ E h (ia_bk_isOut g) (i := 1) (by unfold vp_in; decide) (j := (1)) rfl rfl dX7_addDeaf_30 (fun H locs h => ?_)
  refine lv_aload_n hx hb dX7_addDeaf_31 rfl (lv_at hl 1 rfl) ?_
  refine x_getR E h (fr_bk_truthOf g) rfl hwX7 (by decide) (by decide +kernel) dX7_addDeaf_32 ?_
  refine lv_iload_n hx hb dX7_addDeaf_35 rfl (lv_at hl 0 rfl) ?_
  refine lv_iconst (v := 0) hx hb dX7_addDeaf_36 (by decide) ?_
  refine x_stI E h (ia_bk_truthOf g) (i := 1) (by unfold vp_in; decide) (j := (1)) rfl rfl dX7_addDeaf_37 (fun H locs h => ?_)
  refine lv_aload_n hx hb dX7_addDeaf_38 rfl (lv_at hl 1 rfl) ?_
  refine lv_dup hx hb dX7_addDeaf_39 rfl ?_
  refine x_getI E h (fi_bk_rows g) rfl hwX7 (by decide) (by decide +kernel) (v := 1) fI_2 dX7_addDeaf_40 ?_
  refine lv_iconst (v := 1) hx hb dX7_addDeaf_43 (by decide) ?_
  refine lv_iadd hx hb dX7_addDeaf_44 ?_
  refine x_topI (v2 := 2) (by decide) ?_
  refine x_putI E h (ty := .int) (v := 2) (fi_bk_rows g) rfl hwX7 tyX7_ok nmX7 (by decide) (by decide +kernel) (by decide +kernel) (by decide +kernel) rfl rfl dX7_addDeaf_45 (fun H locs h => ?_)
  refine lv_iload_n hx hb dX7_addDeaf_48 rfl (lv_at hl 0 rfl) ?_
  exact x_iret E h ⟨rfl, rfl⟩ dX7_addDeaf_49
set_option maxHeartbeats 4000000 in
set_option maxRecDepth 100000 in
theorem kX7_addDeaf_2 (l : Launch) (g : CX) (σ : ST) (fI_2 : σ.1 2 = 2) : XM l g yX7_addDeaf wsX7_addDeaf { frames := 0, cells := 0, slots := 0, locals := 0 } [.ref (g.2.1 5)] σ (XQi g (fun r σ' => (2 = r ∧ (sI (sA (sA (sA σ 4 (upd (σ.2.2 4) 2 (vp_nar .boolean 1))) 5 (upd (σ.2.2 5) 2 (vp_nar .boolean 0))) 6 (upd (σ.2.2 6) 2 0)) 2 3) = σ'))) := by
  refine x_met (own := RX7) (cc := cX7_addDeaf) (maxL := 2) (ret := (some .int)) (lv := [(0, .ref (g.2.1 5))]) (by decide) rfl rfl (Nat.le_of_ble_eq_true rfl) rfl ?_
  intro p e s m args below meth c ls E h hl
  have hx := E.1
  have hb := E.2.1
  have hown := E.2.2.2.1
  have hts := E.2.2.2.2.1
  have hwX7 : ∀ w ∈ wsX70, w ∈ wsX7_addDeaf := by decide +kernel
  refine lv_aload_n hx hb dX7_addDeaf_0 rfl (lv_at hl 0 rfl) ?_
  refine x_getI E h (fi_bk_rows g) rfl hwX7 (by decide) (by decide +kernel) (v := 2) fI_2 dX7_addDeaf_1 ?_
  refine lv_bipush (v := 48) hx hb dX7_addDeaf_4 (by decide) ?_
  refine lv_icmp_lt (tgt := 12) hx hb dX7_addDeaf_6 (by decide) (fun _ => ?_) (fun c => absurd (by decide) c)
  refine lv_aload_n hx hb dX7_addDeaf_12 rfl (lv_at hl 0 rfl) ?_
  refine x_getI E h (fi_bk_rows g) rfl hwX7 (by decide) (by decide +kernel) (v := 2) fI_2 dX7_addDeaf_13 ?_
  refine lv_istore_n (lv' := [(1, .int 2), (0, .ref (g.2.1 5))]) hx hb dX7_addDeaf_16 rfl hl (by decide) rfl (fun ls hl => ?_)
  refine lv_aload_n hx hb dX7_addDeaf_17 rfl (lv_at hl 1 rfl) ?_
  refine x_getR E h (fr_bk_isDeaf g) rfl hwX7 (by decide) (by decide +kernel) dX7_addDeaf_18 ?_
  refine lv_iload_n hx hb dX7_addDeaf_21 rfl (lv_at hl 0 rfl) ?_
  refine lv_iconst (v := 1) hx hb dX7_addDeaf_22 (by decide) ?_
  refine x_stZ E h (ia_bk_isDeaf g) (i := 2) (by unfold vp_in; decide) (j := (2)) rfl rfl dX7_addDeaf_23 (fun H locs h => ?_)
  refine lv_aload_n hx hb dX7_addDeaf_24 rfl (lv_at hl 1 rfl) ?_
  refine x_getR E h (fr_bk_isOut g) rfl hwX7 (by decide) (by decide +kernel) dX7_addDeaf_25 ?_
  refine lv_iload_n hx hb dX7_addDeaf_28 rfl (lv_at hl 0 rfl) ?_
  refine lv_iconst (v := 0) hx hb dX7_addDeaf_29 (by decide) ?_
  refine x_stZ E h (ia_bk_isOut g) (i := 2) (by unfold vp_in; decide) (j := (2)) rfl rfl dX7_addDeaf_30 (fun H locs h => ?_)
  refine lv_aload_n hx hb dX7_addDeaf_31 rfl (lv_at hl 1 rfl) ?_
  refine x_getR E h (fr_bk_truthOf g) rfl hwX7 (by decide) (by decide +kernel) dX7_addDeaf_32 ?_
  refine lv_iload_n hx hb dX7_addDeaf_35 rfl (lv_at hl 0 rfl) ?_
  refine lv_iconst (v := 0) hx hb dX7_addDeaf_36 (by decide) ?_
  refine x_stI E h (ia_bk_truthOf g) (i := 2) (by unfold vp_in; decide) (j := (2)) rfl rfl dX7_addDeaf_37 (fun H locs h => ?_)
  refine lv_aload_n hx hb dX7_addDeaf_38 rfl (lv_at hl 1 rfl) ?_
  refine lv_dup hx hb dX7_addDeaf_39 rfl ?_
  refine x_getI E h (fi_bk_rows g) rfl hwX7 (by decide) (by decide +kernel) (v := 2) fI_2 dX7_addDeaf_40 ?_
  refine lv_iconst (v := 1) hx hb dX7_addDeaf_43 (by decide) ?_
  refine lv_iadd hx hb dX7_addDeaf_44 ?_
  refine x_topI (v2 := 3) (by decide) ?_
  refine x_putI E h (ty := .int) (v := 3) (fi_bk_rows g) rfl hwX7 tyX7_ok nmX7 (by decide) (by decide +kernel) (by decide +kernel) (by decide +kernel) rfl rfl dX7_addDeaf_45 (fun H locs h => ?_)
  refine lv_iload_n hx hb dX7_addDeaf_48 rfl (lv_at hl 0 rfl) ?_
  exact x_iret E h ⟨rfl, rfl⟩ dX7_addDeaf_49
set_option maxHeartbeats 4000000 in
set_option maxRecDepth 100000 in
theorem kX7_addDeaf_3 (l : Launch) (g : CX) (σ : ST) (fI_2 : σ.1 2 = 3) : XM l g yX7_addDeaf wsX7_addDeaf { frames := 0, cells := 0, slots := 0, locals := 0 } [.ref (g.2.1 5)] σ (XQi g (fun r σ' => (3 = r ∧ (sI (sA (sA (sA σ 4 (upd (σ.2.2 4) 3 (vp_nar .boolean 1))) 5 (upd (σ.2.2 5) 3 (vp_nar .boolean 0))) 6 (upd (σ.2.2 6) 3 0)) 2 4) = σ'))) := by
  refine x_met (own := RX7) (cc := cX7_addDeaf) (maxL := 2) (ret := (some .int)) (lv := [(0, .ref (g.2.1 5))]) (by decide) rfl rfl (Nat.le_of_ble_eq_true rfl) rfl ?_
  intro p e s m args below meth c ls E h hl
  have hx := E.1
  have hb := E.2.1
  have hown := E.2.2.2.1
  have hts := E.2.2.2.2.1
  have hwX7 : ∀ w ∈ wsX70, w ∈ wsX7_addDeaf := by decide +kernel
  refine lv_aload_n hx hb dX7_addDeaf_0 rfl (lv_at hl 0 rfl) ?_
  refine x_getI E h (fi_bk_rows g) rfl hwX7 (by decide) (by decide +kernel) (v := 3) fI_2 dX7_addDeaf_1 ?_
  refine lv_bipush (v := 48) hx hb dX7_addDeaf_4 (by decide) ?_
  refine lv_icmp_lt (tgt := 12) hx hb dX7_addDeaf_6 (by decide) (fun _ => ?_) (fun c => absurd (by decide) c)
  refine lv_aload_n hx hb dX7_addDeaf_12 rfl (lv_at hl 0 rfl) ?_
  refine x_getI E h (fi_bk_rows g) rfl hwX7 (by decide) (by decide +kernel) (v := 3) fI_2 dX7_addDeaf_13 ?_
  refine lv_istore_n (lv' := [(1, .int 3), (0, .ref (g.2.1 5))]) hx hb dX7_addDeaf_16 rfl hl (by decide) rfl (fun ls hl => ?_)
  refine lv_aload_n hx hb dX7_addDeaf_17 rfl (lv_at hl 1 rfl) ?_
  refine x_getR E h (fr_bk_isDeaf g) rfl hwX7 (by decide) (by decide +kernel) dX7_addDeaf_18 ?_
  refine lv_iload_n hx hb dX7_addDeaf_21 rfl (lv_at hl 0 rfl) ?_
  refine lv_iconst (v := 1) hx hb dX7_addDeaf_22 (by decide) ?_
  refine x_stZ E h (ia_bk_isDeaf g) (i := 3) (by unfold vp_in; decide) (j := (3)) rfl rfl dX7_addDeaf_23 (fun H locs h => ?_)
  refine lv_aload_n hx hb dX7_addDeaf_24 rfl (lv_at hl 1 rfl) ?_
  refine x_getR E h (fr_bk_isOut g) rfl hwX7 (by decide) (by decide +kernel) dX7_addDeaf_25 ?_
  refine lv_iload_n hx hb dX7_addDeaf_28 rfl (lv_at hl 0 rfl) ?_
  refine lv_iconst (v := 0) hx hb dX7_addDeaf_29 (by decide) ?_
  refine x_stZ E h (ia_bk_isOut g) (i := 3) (by unfold vp_in; decide) (j := (3)) rfl rfl dX7_addDeaf_30 (fun H locs h => ?_)
  refine lv_aload_n hx hb dX7_addDeaf_31 rfl (lv_at hl 1 rfl) ?_
  refine x_getR E h (fr_bk_truthOf g) rfl hwX7 (by decide) (by decide +kernel) dX7_addDeaf_32 ?_
  refine lv_iload_n hx hb dX7_addDeaf_35 rfl (lv_at hl 0 rfl) ?_
  refine lv_iconst (v := 0) hx hb dX7_addDeaf_36 (by decide) ?_
  refine x_stI E h (ia_bk_truthOf g) (i := 3) (by unfold vp_in; decide) (j := (3)) rfl rfl dX7_addDeaf_37 (fun H locs h => ?_)
  refine lv_aload_n hx hb dX7_addDeaf_38 rfl (lv_at hl 1 rfl) ?_
  refine lv_dup hx hb dX7_addDeaf_39 rfl ?_
  refine x_getI E h (fi_bk_rows g) rfl hwX7 (by decide) (by decide +kernel) (v := 3) fI_2 dX7_addDeaf_40 ?_
  refine lv_iconst (v := 1) hx hb dX7_addDeaf_43 (by decide) ?_
  refine lv_iadd hx hb dX7_addDeaf_44 ?_
  refine x_topI (v2 := 4) (by decide) ?_
  refine x_putI E h (ty := .int) (v := 4) (fi_bk_rows g) rfl hwX7 tyX7_ok nmX7 (by decide) (by decide +kernel) (by decide +kernel) (by decide +kernel) rfl rfl dX7_addDeaf_45 (fun H locs h => ?_)
  refine lv_iload_n hx hb dX7_addDeaf_48 rfl (lv_at hl 0 rfl) ?_
  exact x_iret E h ⟨rfl, rfl⟩ dX7_addDeaf_49
set_option maxHeartbeats 4000000 in
set_option maxRecDepth 100000 in
theorem kX7_addDeaf_4 (l : Launch) (g : CX) (σ : ST) (fI_2 : σ.1 2 = 4) : XM l g yX7_addDeaf wsX7_addDeaf { frames := 0, cells := 0, slots := 0, locals := 0 } [.ref (g.2.1 5)] σ (XQi g (fun r σ' => (4 = r ∧ (sI (sA (sA (sA σ 4 (upd (σ.2.2 4) 4 (vp_nar .boolean 1))) 5 (upd (σ.2.2 5) 4 (vp_nar .boolean 0))) 6 (upd (σ.2.2 6) 4 0)) 2 5) = σ'))) := by
  refine x_met (own := RX7) (cc := cX7_addDeaf) (maxL := 2) (ret := (some .int)) (lv := [(0, .ref (g.2.1 5))]) (by decide) rfl rfl (Nat.le_of_ble_eq_true rfl) rfl ?_
  intro p e s m args below meth c ls E h hl
  have hx := E.1
  have hb := E.2.1
  have hown := E.2.2.2.1
  have hts := E.2.2.2.2.1
  have hwX7 : ∀ w ∈ wsX70, w ∈ wsX7_addDeaf := by decide +kernel
  refine lv_aload_n hx hb dX7_addDeaf_0 rfl (lv_at hl 0 rfl) ?_
  refine x_getI E h (fi_bk_rows g) rfl hwX7 (by decide) (by decide +kernel) (v := 4) fI_2 dX7_addDeaf_1 ?_
  refine lv_bipush (v := 48) hx hb dX7_addDeaf_4 (by decide) ?_
  refine lv_icmp_lt (tgt := 12) hx hb dX7_addDeaf_6 (by decide) (fun _ => ?_) (fun c => absurd (by decide) c)
  refine lv_aload_n hx hb dX7_addDeaf_12 rfl (lv_at hl 0 rfl) ?_
  refine x_getI E h (fi_bk_rows g) rfl hwX7 (by decide) (by decide +kernel) (v := 4) fI_2 dX7_addDeaf_13 ?_
  refine lv_istore_n (lv' := [(1, .int 4), (0, .ref (g.2.1 5))]) hx hb dX7_addDeaf_16 rfl hl (by decide) rfl (fun ls hl => ?_)
  refine lv_aload_n hx hb dX7_addDeaf_17 rfl (lv_at hl 1 rfl) ?_
  refine x_getR E h (fr_bk_isDeaf g) rfl hwX7 (by decide) (by decide +kernel) dX7_addDeaf_18 ?_
  refine lv_iload_n hx hb dX7_addDeaf_21 rfl (lv_at hl 0 rfl) ?_
  refine lv_iconst (v := 1) hx hb dX7_addDeaf_22 (by decide) ?_
  refine x_stZ E h (ia_bk_isDeaf g) (i := 4) (by unfold vp_in; decide) (j := (4)) rfl rfl dX7_addDeaf_23 (fun H locs h => ?_)
  refine lv_aload_n hx hb dX7_addDeaf_24 rfl (lv_at hl 1 rfl) ?_
  refine x_getR E h (fr_bk_isOut g) rfl hwX7 (by decide) (by decide +kernel) dX7_addDeaf_25 ?_
  refine lv_iload_n hx hb dX7_addDeaf_28 rfl (lv_at hl 0 rfl) ?_
  refine lv_iconst (v := 0) hx hb dX7_addDeaf_29 (by decide) ?_
  refine x_stZ E h (ia_bk_isOut g) (i := 4) (by unfold vp_in; decide) (j := (4)) rfl rfl dX7_addDeaf_30 (fun H locs h => ?_)
  refine lv_aload_n hx hb dX7_addDeaf_31 rfl (lv_at hl 1 rfl) ?_
  refine x_getR E h (fr_bk_truthOf g) rfl hwX7 (by decide) (by decide +kernel) dX7_addDeaf_32 ?_
  refine lv_iload_n hx hb dX7_addDeaf_35 rfl (lv_at hl 0 rfl) ?_
  refine lv_iconst (v := 0) hx hb dX7_addDeaf_36 (by decide) ?_
  refine x_stI E h (ia_bk_truthOf g) (i := 4) (by unfold vp_in; decide) (j := (4)) rfl rfl dX7_addDeaf_37 (fun H locs h => ?_)
  refine lv_aload_n hx hb dX7_addDeaf_38 rfl (lv_at hl 1 rfl) ?_
  refine lv_dup hx hb dX7_addDeaf_39 rfl ?_
  refine x_getI E h (fi_bk_rows g) rfl hwX7 (by decide) (by decide +kernel) (v := 4) fI_2 dX7_addDeaf_40 ?_
  refine lv_iconst (v := 1) hx hb dX7_addDeaf_43 (by decide) ?_
  refine lv_iadd hx hb dX7_addDeaf_44 ?_
  refine x_topI (v2 := 5) (by decide) ?_
  refine x_putI E h (ty := .int) (v := 5) (fi_bk_rows g) rfl hwX7 tyX7_ok nmX7 (by decide) (by decide +kernel) (by decide +kernel) (by decide +kernel) rfl rfl dX7_addDeaf_45 (fun H locs h => ?_)
  refine lv_iload_n hx hb dX7_addDeaf_48 rfl (lv_at hl 0 rfl) ?_
  exact x_iret E h ⟨rfl, rfl⟩ dX7_addDeaf_49
set_option maxHeartbeats 4000000 in
set_option maxRecDepth 100000 in
theorem kX7_addDeaf_5 (l : Launch) (g : CX) (σ : ST) (fI_2 : σ.1 2 = 5) : XM l g yX7_addDeaf wsX7_addDeaf { frames := 0, cells := 0, slots := 0, locals := 0 } [.ref (g.2.1 5)] σ (XQi g (fun r σ' => (5 = r ∧ (sI (sA (sA (sA σ 4 (upd (σ.2.2 4) 5 (vp_nar .boolean 1))) 5 (upd (σ.2.2 5) 5 (vp_nar .boolean 0))) 6 (upd (σ.2.2 6) 5 0)) 2 6) = σ'))) := by
  refine x_met (own := RX7) (cc := cX7_addDeaf) (maxL := 2) (ret := (some .int)) (lv := [(0, .ref (g.2.1 5))]) (by decide) rfl rfl (Nat.le_of_ble_eq_true rfl) rfl ?_
  intro p e s m args below meth c ls E h hl
  have hx := E.1
  have hb := E.2.1
  have hown := E.2.2.2.1
  have hts := E.2.2.2.2.1
  have hwX7 : ∀ w ∈ wsX70, w ∈ wsX7_addDeaf := by decide +kernel
  refine lv_aload_n hx hb dX7_addDeaf_0 rfl (lv_at hl 0 rfl) ?_
  refine x_getI E h (fi_bk_rows g) rfl hwX7 (by decide) (by decide +kernel) (v := 5) fI_2 dX7_addDeaf_1 ?_
  refine lv_bipush (v := 48) hx hb dX7_addDeaf_4 (by decide) ?_
  refine lv_icmp_lt (tgt := 12) hx hb dX7_addDeaf_6 (by decide) (fun _ => ?_) (fun c => absurd (by decide) c)
  refine lv_aload_n hx hb dX7_addDeaf_12 rfl (lv_at hl 0 rfl) ?_
  refine x_getI E h (fi_bk_rows g) rfl hwX7 (by decide) (by decide +kernel) (v := 5) fI_2 dX7_addDeaf_13 ?_
  refine lv_istore_n (lv' := [(1, .int 5), (0, .ref (g.2.1 5))]) hx hb dX7_addDeaf_16 rfl hl (by decide) rfl (fun ls hl => ?_)
  refine lv_aload_n hx hb dX7_addDeaf_17 rfl (lv_at hl 1 rfl) ?_
  refine x_getR E h (fr_bk_isDeaf g) rfl hwX7 (by decide) (by decide +kernel) dX7_addDeaf_18 ?_
  refine lv_iload_n hx hb dX7_addDeaf_21 rfl (lv_at hl 0 rfl) ?_
  refine lv_iconst (v := 1) hx hb dX7_addDeaf_22 (by decide) ?_
  refine x_stZ E h (ia_bk_isDeaf g) (i := 5) (by unfold vp_in; decide) (j := (5)) rfl rfl dX7_addDeaf_23 (fun H locs h => ?_)
  refine lv_aload_n hx hb dX7_addDeaf_24 rfl (lv_at hl 1 rfl) ?_
  refine x_getR E h (fr_bk_isOut g) rfl hwX7 (by decide) (by decide +kernel) dX7_addDeaf_25 ?_
  refine lv_iload_n hx hb dX7_addDeaf_28 rfl (lv_at hl 0 rfl) ?_
  refine lv_iconst (v := 0) hx hb dX7_addDeaf_29 (by decide) ?_
  refine x_stZ E h (ia_bk_isOut g) (i := 5) (by unfold vp_in; decide) (j := (5)) rfl rfl dX7_addDeaf_30 (fun H locs h => ?_)
  refine lv_aload_n hx hb dX7_addDeaf_31 rfl (lv_at hl 1 rfl) ?_
  refine x_getR E h (fr_bk_truthOf g) rfl hwX7 (by decide) (by decide +kernel) dX7_addDeaf_32 ?_
  refine lv_iload_n hx hb dX7_addDeaf_35 rfl (lv_at hl 0 rfl) ?_
  refine lv_iconst (v := 0) hx hb dX7_addDeaf_36 (by decide) ?_
  refine x_stI E h (ia_bk_truthOf g) (i := 5) (by unfold vp_in; decide) (j := (5)) rfl rfl dX7_addDeaf_37 (fun H locs h => ?_)
  refine lv_aload_n hx hb dX7_addDeaf_38 rfl (lv_at hl 1 rfl) ?_
  refine lv_dup hx hb dX7_addDeaf_39 rfl ?_
  refine x_getI E h (fi_bk_rows g) rfl hwX7 (by decide) (by decide +kernel) (v := 5) fI_2 dX7_addDeaf_40 ?_
  refine lv_iconst (v := 1) hx hb dX7_addDeaf_43 (by decide) ?_
  refine lv_iadd hx hb dX7_addDeaf_44 ?_
  refine x_topI (v2 := 6) (by decide) ?_
  refine x_putI E h (ty := .int) (v := 6) (fi_bk_rows g) rfl hwX7 tyX7_ok nmX7 (by decide) (by decide +kernel) (by decide +kernel) (by decide +kernel) rfl rfl dX7_addDeaf_45 (fun H locs h => ?_)
  refine lv_iload_n hx hb dX7_addDeaf_48 rfl (lv_at hl 0 rfl) ?_
  exact x_iret E h ⟨rfl, rfl⟩ dX7_addDeaf_49
set_option maxHeartbeats 4000000 in
set_option maxRecDepth 100000 in
theorem kX7_addDeaf_6 (l : Launch) (g : CX) (σ : ST) (fI_2 : σ.1 2 = 6) : XM l g yX7_addDeaf wsX7_addDeaf { frames := 0, cells := 0, slots := 0, locals := 0 } [.ref (g.2.1 5)] σ (XQi g (fun r σ' => (6 = r ∧ (sI (sA (sA (sA σ 4 (upd (σ.2.2 4) 6 (vp_nar .boolean 1))) 5 (upd (σ.2.2 5) 6 (vp_nar .boolean 0))) 6 (upd (σ.2.2 6) 6 0)) 2 7) = σ'))) := by
  refine x_met (own := RX7) (cc := cX7_addDeaf) (maxL := 2) (ret := (some .int)) (lv := [(0, .ref (g.2.1 5))]) (by decide) rfl rfl (Nat.le_of_ble_eq_true rfl) rfl ?_
  intro p e s m args below meth c ls E h hl
  have hx := E.1
  have hb := E.2.1
  have hown := E.2.2.2.1
  have hts := E.2.2.2.2.1
  have hwX7 : ∀ w ∈ wsX70, w ∈ wsX7_addDeaf := by decide +kernel
  refine lv_aload_n hx hb dX7_addDeaf_0 rfl (lv_at hl 0 rfl) ?_
  refine x_getI E h (fi_bk_rows g) rfl hwX7 (by decide) (by decide +kernel) (v := 6) fI_2 dX7_addDeaf_1 ?_
  refine lv_bipush (v := 48) hx hb dX7_addDeaf_4 (by decide) ?_
  refine lv_icmp_lt (tgt := 12) hx hb dX7_addDeaf_6 (by decide) (fun _ => ?_) (fun c => absurd (by decide) c)
  refine lv_aload_n hx hb dX7_addDeaf_12 rfl (lv_at hl 0 rfl) ?_
  refine x_getI E h (fi_bk_rows g) rfl hwX7 (by decide) (by decide +kernel) (v := 6) fI_2 dX7_addDeaf_13 ?_
  refine lv_istore_n (lv' := [(1, .int 6), (0, .ref (g.2.1 5))]) hx hb dX7_addDeaf_16 rfl hl (by decide) rfl (fun ls hl => ?_)
  refine lv_aload_n hx hb dX7_addDeaf_17 rfl (lv_at hl 1 rfl) ?_
  refine x_getR E h (fr_bk_isDeaf g) rfl hwX7 (by decide) (by decide +kernel) dX7_addDeaf_18 ?_
  refine lv_iload_n hx hb dX7_addDeaf_21 rfl (lv_at hl 0 rfl) ?_
  refine lv_iconst (v := 1) hx hb dX7_addDeaf_22 (by decide) ?_
  refine x_stZ E h (ia_bk_isDeaf g) (i := 6) (by unfold vp_in; decide) (j := (6)) rfl rfl dX7_addDeaf_23 (fun H locs h => ?_)
  refine lv_aload_n hx hb dX7_addDeaf_24 rfl (lv_at hl 1 rfl) ?_
  refine x_getR E h (fr_bk_isOut g) rfl hwX7 (by decide) (by decide +kernel) dX7_addDeaf_25 ?_
  refine lv_iload_n hx hb dX7_addDeaf_28 rfl (lv_at hl 0 rfl) ?_
  refine lv_iconst (v := 0) hx hb dX7_addDeaf_29 (by decide) ?_
  refine x_stZ E h (ia_bk_isOut g) (i := 6) (by unfold vp_in; decide) (j := (6)) rfl rfl dX7_addDeaf_30 (fun H locs h => ?_)
  refine lv_aload_n hx hb dX7_addDeaf_31 rfl (lv_at hl 1 rfl) ?_
  refine x_getR E h (fr_bk_truthOf g) rfl hwX7 (by decide) (by decide +kernel) dX7_addDeaf_32 ?_
  refine lv_iload_n hx hb dX7_addDeaf_35 rfl (lv_at hl 0 rfl) ?_
  refine lv_iconst (v := 0) hx hb dX7_addDeaf_36 (by decide) ?_
  refine x_stI E h (ia_bk_truthOf g) (i := 6) (by unfold vp_in; decide) (j := (6)) rfl rfl dX7_addDeaf_37 (fun H locs h => ?_)
  refine lv_aload_n hx hb dX7_addDeaf_38 rfl (lv_at hl 1 rfl) ?_
  refine lv_dup hx hb dX7_addDeaf_39 rfl ?_
  refine x_getI E h (fi_bk_rows g) rfl hwX7 (by decide) (by decide +kernel) (v := 6) fI_2 dX7_addDeaf_40 ?_
  refine lv_iconst (v := 1) hx hb dX7_addDeaf_43 (by decide) ?_
  refine lv_iadd hx hb dX7_addDeaf_44 ?_
  refine x_topI (v2 := 7) (by decide) ?_
  refine x_putI E h (ty := .int) (v := 7) (fi_bk_rows g) rfl hwX7 tyX7_ok nmX7 (by decide) (by decide +kernel) (by decide +kernel) (by decide +kernel) rfl rfl dX7_addDeaf_45 (fun H locs h => ?_)
  refine lv_iload_n hx hb dX7_addDeaf_48 rfl (lv_at hl 0 rfl) ?_
  exact x_iret E h ⟨rfl, rfl⟩ dX7_addDeaf_49
set_option maxHeartbeats 4000000 in
set_option maxRecDepth 100000 in
theorem kX7_addDeaf_7 (l : Launch) (g : CX) (σ : ST) (fI_2 : σ.1 2 = 7) : XM l g yX7_addDeaf wsX7_addDeaf { frames := 0, cells := 0, slots := 0, locals := 0 } [.ref (g.2.1 5)] σ (XQi g (fun r σ' => (7 = r ∧ (sI (sA (sA (sA σ 4 (upd (σ.2.2 4) 7 (vp_nar .boolean 1))) 5 (upd (σ.2.2 5) 7 (vp_nar .boolean 0))) 6 (upd (σ.2.2 6) 7 0)) 2 8) = σ'))) := by
  refine x_met (own := RX7) (cc := cX7_addDeaf) (maxL := 2) (ret := (some .int)) (lv := [(0, .ref (g.2.1 5))]) (by decide) rfl rfl (Nat.le_of_ble_eq_true rfl) rfl ?_
  intro p e s m args below meth c ls E h hl
  have hx := E.1
  have hb := E.2.1
  have hown := E.2.2.2.1
  have hts := E.2.2.2.2.1
  have hwX7 : ∀ w ∈ wsX70, w ∈ wsX7_addDeaf := by decide +kernel
  refine lv_aload_n hx hb dX7_addDeaf_0 rfl (lv_at hl 0 rfl) ?_
  refine x_getI E h (fi_bk_rows g) rfl hwX7 (by decide) (by decide +kernel) (v := 7) fI_2 dX7_addDeaf_1 ?_
  refine lv_bipush (v := 48) hx hb dX7_addDeaf_4 (by decide) ?_
  refine lv_icmp_lt (tgt := 12) hx hb dX7_addDeaf_6 (by decide) (fun _ => ?_) (fun c => absurd (by decide) c)
  refine lv_aload_n hx hb dX7_addDeaf_12 rfl (lv_at hl 0 rfl) ?_
  refine x_getI E h (fi_bk_rows g) rfl hwX7 (by decide) (by decide +kernel) (v := 7) fI_2 dX7_addDeaf_13 ?_
  refine lv_istore_n (lv' := [(1, .int 7), (0, .ref (g.2.1 5))]) hx hb dX7_addDeaf_16 rfl hl (by decide) rfl (fun ls hl => ?_)
  refine lv_aload_n hx hb dX7_addDeaf_17 rfl (lv_at hl 1 rfl) ?_
  refine x_getR E h (fr_bk_isDeaf g) rfl hwX7 (by decide) (by decide +kernel) dX7_addDeaf_18 ?_
  refine lv_iload_n hx hb dX7_addDeaf_21 rfl (lv_at hl 0 rfl) ?_
  refine lv_iconst (v := 1) hx hb dX7_addDeaf_22 (by decide) ?_
  refine x_stZ E h (ia_bk_isDeaf g) (i := 7) (by unfold vp_in; decide) (j := (7)) rfl rfl dX7_addDeaf_23 (fun H locs h => ?_)
  refine lv_aload_n hx hb dX7_addDeaf_24 rfl (lv_at hl 1 rfl) ?_
  refine x_getR E h (fr_bk_isOut g) rfl hwX7 (by decide) (by decide +kernel) dX7_addDeaf_25 ?_
  refine lv_iload_n hx hb dX7_addDeaf_28 rfl (lv_at hl 0 rfl) ?_
  refine lv_iconst (v := 0) hx hb dX7_addDeaf_29 (by decide) ?_
  refine x_stZ E h (ia_bk_isOut g) (i := 7) (by unfold vp_in; decide) (j := (7)) rfl rfl dX7_addDeaf_30 (fun H locs h => ?_)
  refine lv_aload_n hx hb dX7_addDeaf_31 rfl (lv_at hl 1 rfl) ?_
  refine x_getR E h (fr_bk_truthOf g) rfl hwX7 (by decide) (by decide +kernel) dX7_addDeaf_32 ?_
  refine lv_iload_n hx hb dX7_addDeaf_35 rfl (lv_at hl 0 rfl) ?_
  refine lv_iconst (v := 0) hx hb dX7_addDeaf_36 (by decide) ?_
  refine x_stI E h (ia_bk_truthOf g) (i := 7) (by unfold vp_in; decide) (j := (7)) rfl rfl dX7_addDeaf_37 (fun H locs h => ?_)
  refine lv_aload_n hx hb dX7_addDeaf_38 rfl (lv_at hl 1 rfl) ?_
  refine lv_dup hx hb dX7_addDeaf_39 rfl ?_
  refine x_getI E h (fi_bk_rows g) rfl hwX7 (by decide) (by decide +kernel) (v := 7) fI_2 dX7_addDeaf_40 ?_
  refine lv_iconst (v := 1) hx hb dX7_addDeaf_43 (by decide) ?_
  refine lv_iadd hx hb dX7_addDeaf_44 ?_
  refine x_topI (v2 := 8) (by decide) ?_
  refine x_putI E h (ty := .int) (v := 8) (fi_bk_rows g) rfl hwX7 tyX7_ok nmX7 (by decide) (by decide +kernel) (by decide +kernel) (by decide +kernel) rfl rfl dX7_addDeaf_45 (fun H locs h => ?_)
  refine lv_iload_n hx hb dX7_addDeaf_48 rfl (lv_at hl 0 rfl) ?_
  exact x_iret E h ⟨rfl, rfl⟩ dX7_addDeaf_49
set_option maxHeartbeats 4000000 in
set_option maxRecDepth 100000 in
theorem kX7_addDeaf_8 (l : Launch) (g : CX) (σ : ST) (fI_2 : σ.1 2 = 8) : XM l g yX7_addDeaf wsX7_addDeaf { frames := 0, cells := 0, slots := 0, locals := 0 } [.ref (g.2.1 5)] σ (XQi g (fun r σ' => (8 = r ∧ (sI (sA (sA (sA σ 4 (upd (σ.2.2 4) 8 (vp_nar .boolean 1))) 5 (upd (σ.2.2 5) 8 (vp_nar .boolean 0))) 6 (upd (σ.2.2 6) 8 0)) 2 9) = σ'))) := by
  refine x_met (own := RX7) (cc := cX7_addDeaf) (maxL := 2) (ret := (some .int)) (lv := [(0, .ref (g.2.1 5))]) (by decide) rfl rfl (Nat.le_of_ble_eq_true rfl) rfl ?_
  intro p e s m args below meth c ls E h hl
  have hx := E.1
  have hb := E.2.1
  have hown := E.2.2.2.1
  have hts := E.2.2.2.2.1
  have hwX7 : ∀ w ∈ wsX70, w ∈ wsX7_addDeaf := by decide +kernel
  refine lv_aload_n hx hb dX7_addDeaf_0 rfl (lv_at hl 0 rfl) ?_
  refine x_getI E h (fi_bk_rows g) rfl hwX7 (by decide) (by decide +kernel) (v := 8) fI_2 dX7_addDeaf_1 ?_
  refine lv_bipush (v := 48) hx hb dX7_addDeaf_4 (by decide) ?_
  refine lv_icmp_lt (tgt := 12) hx hb dX7_addDeaf_6 (by decide) (fun _ => ?_) (fun c => absurd (by decide) c)
  refine lv_aload_n hx hb dX7_addDeaf_12 rfl (lv_at hl 0 rfl) ?_
  refine x_getI E h (fi_bk_rows g) rfl hwX7 (by decide) (by decide +kernel) (v := 8) fI_2 dX7_addDeaf_13 ?_
  refine lv_istore_n (lv' := [(1, .int 8), (0, .ref (g.2.1 5))]) hx hb dX7_addDeaf_16 rfl hl (by decide) rfl (fun ls hl => ?_)
  refine lv_aload_n hx hb dX7_addDeaf_17 rfl (lv_at hl 1 rfl) ?_
  refine x_getR E h (fr_bk_isDeaf g) rfl hwX7 (by decide) (by decide +kernel) dX7_addDeaf_18 ?_
  refine lv_iload_n hx hb dX7_addDeaf_21 rfl (lv_at hl 0 rfl) ?_
  refine lv_iconst (v := 1) hx hb dX7_addDeaf_22 (by decide) ?_
  refine x_stZ E h (ia_bk_isDeaf g) (i := 8) (by unfold vp_in; decide) (j := (8)) rfl rfl dX7_addDeaf_23 (fun H locs h => ?_)
  refine lv_aload_n hx hb dX7_addDeaf_24 rfl (lv_at hl 1 rfl) ?_
  refine x_getR E h (fr_bk_isOut g) rfl hwX7 (by decide) (by decide +kernel) dX7_addDeaf_25 ?_
  refine lv_iload_n hx hb dX7_addDeaf_28 rfl (lv_at hl 0 rfl) ?_
  refine lv_iconst (v := 0) hx hb dX7_addDeaf_29 (by decide) ?_
  refine x_stZ E h (ia_bk_isOut g) (i := 8) (by unfold vp_in; decide) (j := (8)) rfl rfl dX7_addDeaf_30 (fun H locs h => ?_)
  refine lv_aload_n hx hb dX7_addDeaf_31 rfl (lv_at hl 1 rfl) ?_
  refine x_getR E h (fr_bk_truthOf g) rfl hwX7 (by decide) (by decide +kernel) dX7_addDeaf_32 ?_
  refine lv_iload_n hx hb dX7_addDeaf_35 rfl (lv_at hl 0 rfl) ?_
  refine lv_iconst (v := 0) hx hb dX7_addDeaf_36 (by decide) ?_
  refine x_stI E h (ia_bk_truthOf g) (i := 8) (by unfold vp_in; decide) (j := (8)) rfl rfl dX7_addDeaf_37 (fun H locs h => ?_)
  refine lv_aload_n hx hb dX7_addDeaf_38 rfl (lv_at hl 1 rfl) ?_
  refine lv_dup hx hb dX7_addDeaf_39 rfl ?_
  refine x_getI E h (fi_bk_rows g) rfl hwX7 (by decide) (by decide +kernel) (v := 8) fI_2 dX7_addDeaf_40 ?_
  refine lv_iconst (v := 1) hx hb dX7_addDeaf_43 (by decide) ?_
  refine lv_iadd hx hb dX7_addDeaf_44 ?_
  refine x_topI (v2 := 9) (by decide) ?_
  refine x_putI E h (ty := .int) (v := 9) (fi_bk_rows g) rfl hwX7 tyX7_ok nmX7 (by decide) (by decide +kernel) (by decide +kernel) (by decide +kernel) rfl rfl dX7_addDeaf_45 (fun H locs h => ?_)
  refine lv_iload_n hx hb dX7_addDeaf_48 rfl (lv_at hl 0 rfl) ?_
  exact x_iret E h ⟨rfl, rfl⟩ dX7_addDeaf_49
set_option maxHeartbeats 4000000 in
set_option maxRecDepth 100000 in
theorem kX11_deaf_0 (l : Launch) (g : CX) (σ : ST) (p1 : Int32) (fI_2 : σ.1 2 = 0) : XM l g yX11_deaf wsX11_deaf { frames := 1, cells := 0, slots := 0, locals := 22 } [.ref (g.2.1 0), .int p1] σ (XQi g (fun r σ' => (bB p1 1 9 = 1 ∧ p1 = r ∧ MO σ' σ) ∨ (bB p1 1 9 = 0 ∧ (-1) = r ∧ MO σ' σ))) := by
  refine x_met (own := RX11) (cc := cX11_deaf) (maxL := 3) (ret := (some .int)) (lv := [(0, .ref (g.2.1 0)), (1, .int p1)]) (by decide) rfl rfl (Nat.le_of_ble_eq_true rfl) rfl ?_
  intro p e s m args below meth c ls E h hl
  have hx := E.1
  have hb := E.2.1
  have hown := E.2.2.2.1
  have hts := E.2.2.2.2.1
  have hwX11 : ∀ w ∈ wsX110, w ∈ wsX11_deaf := by decide +kernel
  have hwX7 : ∀ w ∈ wsX70, w ∈ wsX11_deaf := by decide +kernel
  refine lv_iload_n hx hb dX11_deaf_0 rfl (lv_at hl 1 rfl) ?_
  refine lv_iconst (v := 1) hx hb dX11_deaf_1 (by decide) ?_
  refine lv_bipush (v := 9) hx hb dX11_deaf_2 (by decide) ?_
  refine x_si E h (na := 3) (As := [.int p1, .int 1, .int 9]) (kX11_within_0 l g _ p1 1 9) gX11_deaf_X11_within rfl ⟨rfl, rfl⟩ rfl (by decide +kernel) ⟨Nat.le_of_ble_eq_true rfl, Nat.le_of_ble_eq_true rfl⟩ hl.1 rfl (Nat.le_of_ble_eq_true rfl) dX11_deaf_4 ⟨Nat.le_of_ble_eq_true rfl, Nat.le_of_ble_eq_true rfl⟩ (fun r1 s1 H locs q1 h => ?_)
  rcases q1 with ⟨k1_0, rfl, rfl⟩ | ⟨k1_0, rfl, rfl⟩
  · skip
    refine lv_if_ne (tgt := 12) hx hb dX11_deaf_7 (by decide) (fun _ => ?_) (fun c => absurd c (by decide))
    rcases (bB_1_9 k1_0) with rfl | rfl | rfl | rfl | rfl | rfl | rfl | rfl | rfl
    · skip
      refine lv_aload_n hx hb dX11_deaf_12 rfl (lv_at hl 0 rfl) ?_
      refine x_getR E h (fr_vh_book g) rfl hwX11 (by decide) (by decide +kernel) dX11_deaf_13 ?_
      refine x_getIN E h (fi_bk_rows g) rfl hwX7 (by decide) (by decide +kernel) (v := 0) fI_2 dX11_deaf_16 ?_
      refine lv_iload_n hx hb dX11_deaf_19 rfl (lv_at hl 1 rfl) ?_
      refine lv_iadd hx hb dX11_deaf_20 ?_
      refine x_topI (v2 := 1) (by decide) ?_
      refine lv_bipush (v := 48) hx hb dX11_deaf_21 (by decide) ?_
      refine lv_icmp_le (tgt := 29) hx hb dX11_deaf_23 (by decide) (fun _ => ?_) (fun c => absurd (by decide) c)
      refine lv_aload_n hx hb dX11_deaf_29 rfl (lv_at hl 0 rfl) ?_
      refine x_vv E h (na := 0) (As := []) (kX11_nothingIsFound_0 l g _  ) (oc_vh g) rfl gX11_deaf_X11_nothingIsFound rfl ⟨rfl, rfl⟩ rfl (by decide +kernel) ⟨Nat.le_of_ble_eq_true rfl, Nat.le_of_ble_eq_true rfl⟩ hl.1 rfl (Nat.le_of_ble_eq_true rfl) dX11_deaf_30 ⟨Nat.le_of_ble_eq_true rfl, Nat.le_of_ble_eq_true rfl⟩ (fun s2 H locs q2 h => ?_)
      rcases q2 with rfl
      refine lv_iconst (v := 0) hx hb dX11_deaf_33 (by decide) ?_
      refine lv_istore_n (lv' := [(2, .int 0), (0, .ref (g.2.1 0)), (1, .int 1)]) hx hb dX11_deaf_34 rfl hl (by decide) rfl (fun ls hl => ?_)
      refine lv_iload_n hx hb dX11_deaf_35 rfl (lv_at hl 0 rfl) ?_
      refine lv_iload_n hx hb dX11_deaf_36 rfl (lv_at hl 2 rfl) ?_
      refine lv_icmp_ge (tgt := 54) hx hb dX11_deaf_37 (by decide) (fun c => absurd c (by decide)) (fun _ => ?_)
      refine lv_aload_n hx hb dX11_deaf_40 rfl (lv_at hl 1 rfl) ?_
      refine x_getR E h (fr_vh_book g) rfl hwX11 (by decide) (by decide +kernel) dX11_deaf_41 ?_
      refine x_vi E h (na := 0) (As := []) (kX7_addDeaf_0 l g _  fI_2) (oc_bk g) rfl gX11_deaf_X7_addDeaf rfl ⟨rfl, rfl⟩ rfl (by decide +kernel) ⟨Nat.le_of_ble_eq_true rfl, Nat.le_of_ble_eq_true rfl⟩ hl.1 rfl (Nat.le_of_ble_eq_true rfl) dX11_deaf_44 ⟨Nat.le_of_ble_eq_true rfl, Nat.le_of_ble_eq_true rfl⟩ (fun r3 s3 H locs q3 h => ?_)
      rcases q3 with ⟨rfl, rfl⟩
      refine lv_pop hx hb dX11_deaf_47 rfl ?_
      refine lv_iinc (v := 1) (lv' := [(2, .int 1), (0, .ref (g.2.1 0)), (1, .int 1)]) hx hb dX11_deaf_48 hl (k := 0) rfl (by decide) (by decide) rfl (fun ls hl => ?_)
      refine lv_goto (tgt := 35) hx hb dX11_deaf_51 (by decide) ?_
      refine lv_iload_n hx hb dX11_deaf_35 rfl (lv_at hl 0 rfl) ?_
      refine lv_iload_n hx hb dX11_deaf_36 rfl (lv_at hl 2 rfl) ?_
      refine lv_icmp_ge (tgt := 54) hx hb dX11_deaf_37 (by decide) (fun _ => ?_) (fun c => absurd (by decide) c)
      refine lv_aload_n hx hb dX11_deaf_54 rfl (lv_at hl 1 rfl) ?_
      refine x_getR E h (fr_vh_book g) rfl hwX11 (by decide) (by decide +kernel) dX11_deaf_55 ?_
      refine x_getIN E h (fi_bk_rows g) rfl hwX7 (by decide) (by decide +kernel) (v := 1) rfl dX11_deaf_58 ?_
      exact x_iret E h (Or.inl ⟨k1_0, rfl, (MO.refl σ)⟩) dX11_deaf_61
    · skip
      refine lv_aload_n hx hb dX11_deaf_12 rfl (lv_at hl 0 rfl) ?_
      refine x_getR E h (fr_vh_book g) rfl hwX11 (by decide) (by decide +kernel) dX11_deaf_13 ?_
      refine x_getIN E h (fi_bk_rows g) rfl hwX7 (by decide) (by decide +kernel) (v := 0) fI_2 dX11_deaf_16 ?_
      refine lv_iload_n hx hb dX11_deaf_19 rfl (lv_at hl 1 rfl) ?_
      refine lv_iadd hx hb dX11_deaf_20 ?_
      refine x_topI (v2 := 2) (by decide) ?_
      refine lv_bipush (v := 48) hx hb dX11_deaf_21 (by decide) ?_
      refine lv_icmp_le (tgt := 29) hx hb dX11_deaf_23 (by decide) (fun _ => ?_) (fun c => absurd (by decide) c)
      refine lv_aload_n hx hb dX11_deaf_29 rfl (lv_at hl 0 rfl) ?_
      refine x_vv E h (na := 0) (As := []) (kX11_nothingIsFound_0 l g _  ) (oc_vh g) rfl gX11_deaf_X11_nothingIsFound rfl ⟨rfl, rfl⟩ rfl (by decide +kernel) ⟨Nat.le_of_ble_eq_true rfl, Nat.le_of_ble_eq_true rfl⟩ hl.1 rfl (Nat.le_of_ble_eq_true rfl) dX11_deaf_30 ⟨Nat.le_of_ble_eq_true rfl, Nat.le_of_ble_eq_true rfl⟩ (fun s4 H locs q4 h => ?_)
      rcases q4 with rfl
      refine lv_iconst (v := 0) hx hb dX11_deaf_33 (by decide) ?_
      refine lv_istore_n (lv' := [(2, .int 0), (0, .ref (g.2.1 0)), (1, .int 2)]) hx hb dX11_deaf_34 rfl hl (by decide) rfl (fun ls hl => ?_)
      refine lv_iload_n hx hb dX11_deaf_35 rfl (lv_at hl 0 rfl) ?_
      refine lv_iload_n hx hb dX11_deaf_36 rfl (lv_at hl 2 rfl) ?_
      refine lv_icmp_ge (tgt := 54) hx hb dX11_deaf_37 (by decide) (fun c => absurd c (by decide)) (fun _ => ?_)
      refine lv_aload_n hx hb dX11_deaf_40 rfl (lv_at hl 1 rfl) ?_
      refine x_getR E h (fr_vh_book g) rfl hwX11 (by decide) (by decide +kernel) dX11_deaf_41 ?_
      refine x_vi E h (na := 0) (As := []) (kX7_addDeaf_0 l g _  fI_2) (oc_bk g) rfl gX11_deaf_X7_addDeaf rfl ⟨rfl, rfl⟩ rfl (by decide +kernel) ⟨Nat.le_of_ble_eq_true rfl, Nat.le_of_ble_eq_true rfl⟩ hl.1 rfl (Nat.le_of_ble_eq_true rfl) dX11_deaf_44 ⟨Nat.le_of_ble_eq_true rfl, Nat.le_of_ble_eq_true rfl⟩ (fun r5 s5 H locs q5 h => ?_)
      rcases q5 with ⟨rfl, rfl⟩
      refine lv_pop hx hb dX11_deaf_47 rfl ?_
      refine lv_iinc (v := 1) (lv' := [(2, .int 1), (0, .ref (g.2.1 0)), (1, .int 2)]) hx hb dX11_deaf_48 hl (k := 0) rfl (by decide) (by decide) rfl (fun ls hl => ?_)
      refine lv_goto (tgt := 35) hx hb dX11_deaf_51 (by decide) ?_
      refine lv_iload_n hx hb dX11_deaf_35 rfl (lv_at hl 0 rfl) ?_
      refine lv_iload_n hx hb dX11_deaf_36 rfl (lv_at hl 2 rfl) ?_
      refine lv_icmp_ge (tgt := 54) hx hb dX11_deaf_37 (by decide) (fun c => absurd c (by decide)) (fun _ => ?_)
      refine lv_aload_n hx hb dX11_deaf_40 rfl (lv_at hl 1 rfl) ?_
      refine x_getR E h (fr_vh_book g) rfl hwX11 (by decide) (by decide +kernel) dX11_deaf_41 ?_
      refine x_vi E h (na := 0) (As := []) (kX7_addDeaf_1 l g _  rfl) (oc_bk g) rfl gX11_deaf_X7_addDeaf rfl ⟨rfl, rfl⟩ rfl (by decide +kernel) ⟨Nat.le_of_ble_eq_true rfl, Nat.le_of_ble_eq_true rfl⟩ hl.1 rfl (Nat.le_of_ble_eq_true rfl) dX11_deaf_44 ⟨Nat.le_of_ble_eq_true rfl, Nat.le_of_ble_eq_true rfl⟩ (fun r6 s6 H locs q6 h => ?_)
      rcases q6 with ⟨rfl, rfl⟩
      refine lv_pop hx hb dX11_deaf_47 rfl ?_
      refine lv_iinc (v := 2) (lv' := [(2, .int 2), (0, .ref (g.2.1 0)), (1, .int 2)]) hx hb dX11_deaf_48 hl (k := 0) rfl (by decide) (by decide) rfl (fun ls hl => ?_)
      refine lv_goto (tgt := 35) hx hb dX11_deaf_51 (by decide) ?_
      refine lv_iload_n hx hb dX11_deaf_35 rfl (lv_at hl 0 rfl) ?_
      refine lv_iload_n hx hb dX11_deaf_36 rfl (lv_at hl 2 rfl) ?_
      refine lv_icmp_ge (tgt := 54) hx hb dX11_deaf_37 (by decide) (fun _ => ?_) (fun c => absurd (by decide) c)
      refine lv_aload_n hx hb dX11_deaf_54 rfl (lv_at hl 1 rfl) ?_
      refine x_getR E h (fr_vh_book g) rfl hwX11 (by decide) (by decide +kernel) dX11_deaf_55 ?_
      refine x_getIN E h (fi_bk_rows g) rfl hwX7 (by decide) (by decide +kernel) (v := 2) rfl dX11_deaf_58 ?_
      exact x_iret E h (Or.inl ⟨k1_0, rfl, (MO.refl σ)⟩) dX11_deaf_61
    · skip
      refine lv_aload_n hx hb dX11_deaf_12 rfl (lv_at hl 0 rfl) ?_
      refine x_getR E h (fr_vh_book g) rfl hwX11 (by decide) (by decide +kernel) dX11_deaf_13 ?_
      refine x_getIN E h (fi_bk_rows g) rfl hwX7 (by decide) (by decide +kernel) (v := 0) fI_2 dX11_deaf_16 ?_
      refine lv_iload_n hx hb dX11_deaf_19 rfl (lv_at hl 1 rfl) ?_
      refine lv_iadd hx hb dX11_deaf_20 ?_
      refine x_topI (v2 := 3) (by decide) ?_
      refine lv_bipush (v := 48) hx hb dX11_deaf_21 (by decide) ?_
      refine lv_icmp_le (tgt := 29) hx hb dX11_deaf_23 (by decide) (fun _ => ?_) (fun c => absurd (by decide) c)
      refine lv_aload_n hx hb dX11_deaf_29 rfl (lv_at hl 0 rfl) ?_
      refine x_vv E h (na := 0) (As := []) (kX11_nothingIsFound_0 l g _  ) (oc_vh g) rfl gX11_deaf_X11_nothingIsFound rfl ⟨rfl, rfl⟩ rfl (by decide +kernel) ⟨Nat.le_of_ble_eq_true rfl, Nat.le_of_ble_eq_true rfl⟩ hl.1 rfl (Nat.le_of_ble_eq_true rfl) dX11_deaf_30 ⟨Nat.le_of_ble_eq_true rfl, Nat.le_of_ble_eq_true rfl⟩ (fun s7 H locs q7 h => ?_)
      rcases q7 with rfl
      refine lv_iconst (v := 0) hx hb dX11_deaf_33 (by decide) ?_
      refine lv_istore_n (lv' := [(2, .int 0), (0, .ref (g.2.1 0)), (1, .int 3)]) hx hb dX11_deaf_34 rfl hl (by decide) rfl (fun ls hl => ?_)
      refine lv_iload_n hx hb dX11_deaf_35 rfl (lv_at hl 0 rfl) ?_
      refine lv_iload_n hx hb dX11_deaf_36 rfl (lv_at hl 2 rfl) ?_
      refine lv_icmp_ge (tgt := 54) hx hb dX11_deaf_37 (by decide) (fun c => absurd c (by decide)) (fun _ => ?_)
      refine lv_aload_n hx hb dX11_deaf_40 rfl (lv_at hl 1 rfl) ?_
      refine x_getR E h (fr_vh_book g) rfl hwX11 (by decide) (by decide +kernel) dX11_deaf_41 ?_
      refine x_vi E h (na := 0) (As := []) (kX7_addDeaf_0 l g _  fI_2) (oc_bk g) rfl gX11_deaf_X7_addDeaf rfl ⟨rfl, rfl⟩ rfl (by decide +kernel) ⟨Nat.le_of_ble_eq_true rfl, Nat.le_of_ble_eq_true rfl⟩ hl.1 rfl (Nat.le_of_ble_eq_true rfl) dX11_deaf_44 ⟨Nat.le_of_ble_eq_true rfl, Nat.le_of_ble_eq_true rfl⟩ (fun r8 s8 H locs q8 h => ?_)
      rcases q8 with ⟨rfl, rfl⟩
      refine lv_pop hx hb dX11_deaf_47 rfl ?_
      refine lv_iinc (v := 1) (lv' := [(2, .int 1), (0, .ref (g.2.1 0)), (1, .int 3)]) hx hb dX11_deaf_48 hl (k := 0) rfl (by decide) (by decide) rfl (fun ls hl => ?_)
      refine lv_goto (tgt := 35) hx hb dX11_deaf_51 (by decide) ?_
      refine lv_iload_n hx hb dX11_deaf_35 rfl (lv_at hl 0 rfl) ?_
      refine lv_iload_n hx hb dX11_deaf_36 rfl (lv_at hl 2 rfl) ?_
      refine lv_icmp_ge (tgt := 54) hx hb dX11_deaf_37 (by decide) (fun c => absurd c (by decide)) (fun _ => ?_)
      refine lv_aload_n hx hb dX11_deaf_40 rfl (lv_at hl 1 rfl) ?_
      refine x_getR E h (fr_vh_book g) rfl hwX11 (by decide) (by decide +kernel) dX11_deaf_41 ?_
      refine x_vi E h (na := 0) (As := []) (kX7_addDeaf_1 l g _  rfl) (oc_bk g) rfl gX11_deaf_X7_addDeaf rfl ⟨rfl, rfl⟩ rfl (by decide +kernel) ⟨Nat.le_of_ble_eq_true rfl, Nat.le_of_ble_eq_true rfl⟩ hl.1 rfl (Nat.le_of_ble_eq_true rfl) dX11_deaf_44 ⟨Nat.le_of_ble_eq_true rfl, Nat.le_of_ble_eq_true rfl⟩ (fun r9 s9 H locs q9 h => ?_)
      rcases q9 with ⟨rfl, rfl⟩
      refine lv_pop hx hb dX11_deaf_47 rfl ?_
      refine lv_iinc (v := 2) (lv' := [(2, .int 2), (0, .ref (g.2.1 0)), (1, .int 3)]) hx hb dX11_deaf_48 hl (k := 0) rfl (by decide) (by decide) rfl (fun ls hl => ?_)
      refine lv_goto (tgt := 35) hx hb dX11_deaf_51 (by decide) ?_
      refine lv_iload_n hx hb dX11_deaf_35 rfl (lv_at hl 0 rfl) ?_
      refine lv_iload_n hx hb dX11_deaf_36 rfl (lv_at hl 2 rfl) ?_
      refine lv_icmp_ge (tgt := 54) hx hb dX11_deaf_37 (by decide) (fun c => absurd c (by decide)) (fun _ => ?_)
      refine lv_aload_n hx hb dX11_deaf_40 rfl (lv_at hl 1 rfl) ?_
      refine x_getR E h (fr_vh_book g) rfl hwX11 (by decide) (by decide +kernel) dX11_deaf_41 ?_
      refine x_vi E h (na := 0) (As := []) (kX7_addDeaf_2 l g _  rfl) (oc_bk g) rfl gX11_deaf_X7_addDeaf rfl ⟨rfl, rfl⟩ rfl (by decide +kernel) ⟨Nat.le_of_ble_eq_true rfl, Nat.le_of_ble_eq_true rfl⟩ hl.1 rfl (Nat.le_of_ble_eq_true rfl) dX11_deaf_44 ⟨Nat.le_of_ble_eq_true rfl, Nat.le_of_ble_eq_true rfl⟩ (fun r10 s10 H locs q10 h => ?_)
      rcases q10 with ⟨rfl, rfl⟩
      refine lv_pop hx hb dX11_deaf_47 rfl ?_
      refine lv_iinc (v := 3) (lv' := [(2, .int 3), (0, .ref (g.2.1 0)), (1, .int 3)]) hx hb dX11_deaf_48 hl (k := 0) rfl (by decide) (by decide) rfl (fun ls hl => ?_)
      refine lv_goto (tgt := 35) hx hb dX11_deaf_51 (by decide) ?_
      refine lv_iload_n hx hb dX11_deaf_35 rfl (lv_at hl 0 rfl) ?_
      refine lv_iload_n hx hb dX11_deaf_36 rfl (lv_at hl 2 rfl) ?_
      refine lv_icmp_ge (tgt := 54) hx hb dX11_deaf_37 (by decide) (fun _ => ?_) (fun c => absurd (by decide) c)
      refine lv_aload_n hx hb dX11_deaf_54 rfl (lv_at hl 1 rfl) ?_
      refine x_getR E h (fr_vh_book g) rfl hwX11 (by decide) (by decide +kernel) dX11_deaf_55 ?_
      refine x_getIN E h (fi_bk_rows g) rfl hwX7 (by decide) (by decide +kernel) (v := 3) rfl dX11_deaf_58 ?_
      exact x_iret E h (Or.inl ⟨k1_0, rfl, (MO.refl σ)⟩) dX11_deaf_61
    · skip
      refine lv_aload_n hx hb dX11_deaf_12 rfl (lv_at hl 0 rfl) ?_
      refine x_getR E h (fr_vh_book g) rfl hwX11 (by decide) (by decide +kernel) dX11_deaf_13 ?_
      refine x_getIN E h (fi_bk_rows g) rfl hwX7 (by decide) (by decide +kernel) (v := 0) fI_2 dX11_deaf_16 ?_
      refine lv_iload_n hx hb dX11_deaf_19 rfl (lv_at hl 1 rfl) ?_
      refine lv_iadd hx hb dX11_deaf_20 ?_
      refine x_topI (v2 := 4) (by decide) ?_
      refine lv_bipush (v := 48) hx hb dX11_deaf_21 (by decide) ?_
      refine lv_icmp_le (tgt := 29) hx hb dX11_deaf_23 (by decide) (fun _ => ?_) (fun c => absurd (by decide) c)
      refine lv_aload_n hx hb dX11_deaf_29 rfl (lv_at hl 0 rfl) ?_
      refine x_vv E h (na := 0) (As := []) (kX11_nothingIsFound_0 l g _  ) (oc_vh g) rfl gX11_deaf_X11_nothingIsFound rfl ⟨rfl, rfl⟩ rfl (by decide +kernel) ⟨Nat.le_of_ble_eq_true rfl, Nat.le_of_ble_eq_true rfl⟩ hl.1 rfl (Nat.le_of_ble_eq_true rfl) dX11_deaf_30 ⟨Nat.le_of_ble_eq_true rfl, Nat.le_of_ble_eq_true rfl⟩ (fun s11 H locs q11 h => ?_)
      rcases q11 with rfl
      refine lv_iconst (v := 0) hx hb dX11_deaf_33 (by decide) ?_
      refine lv_istore_n (lv' := [(2, .int 0), (0, .ref (g.2.1 0)), (1, .int 4)]) hx hb dX11_deaf_34 rfl hl (by decide) rfl (fun ls hl => ?_)
      refine lv_iload_n hx hb dX11_deaf_35 rfl (lv_at hl 0 rfl) ?_
      refine lv_iload_n hx hb dX11_deaf_36 rfl (lv_at hl 2 rfl) ?_
      refine lv_icmp_ge (tgt := 54) hx hb dX11_deaf_37 (by decide) (fun c => absurd c (by decide)) (fun _ => ?_)
      refine lv_aload_n hx hb dX11_deaf_40 rfl (lv_at hl 1 rfl) ?_
      refine x_getR E h (fr_vh_book g) rfl hwX11 (by decide) (by decide +kernel) dX11_deaf_41 ?_
      refine x_vi E h (na := 0) (As := []) (kX7_addDeaf_0 l g _  fI_2) (oc_bk g) rfl gX11_deaf_X7_addDeaf rfl ⟨rfl, rfl⟩ rfl (by decide +kernel) ⟨Nat.le_of_ble_eq_true rfl, Nat.le_of_ble_eq_true rfl⟩ hl.1 rfl (Nat.le_of_ble_eq_true rfl) dX11_deaf_44 ⟨Nat.le_of_ble_eq_true rfl, Nat.le_of_ble_eq_true rfl⟩ (fun r12 s12 H locs q12 h => ?_)
      rcases q12 with ⟨rfl, rfl⟩
      refine lv_pop hx hb dX11_deaf_47 rfl ?_
      refine lv_iinc (v := 1) (lv' := [(2, .int 1), (0, .ref (g.2.1 0)), (1, .int 4)]) hx hb dX11_deaf_48 hl (k := 0) rfl (by decide) (by decide) rfl (fun ls hl => ?_)
      refine lv_goto (tgt := 35) hx hb dX11_deaf_51 (by decide) ?_
      refine lv_iload_n hx hb dX11_deaf_35 rfl (lv_at hl 0 rfl) ?_
      refine lv_iload_n hx hb dX11_deaf_36 rfl (lv_at hl 2 rfl) ?_
      refine lv_icmp_ge (tgt := 54) hx hb dX11_deaf_37 (by decide) (fun c => absurd c (by decide)) (fun _ => ?_)
      refine lv_aload_n hx hb dX11_deaf_40 rfl (lv_at hl 1 rfl) ?_
      refine x_getR E h (fr_vh_book g) rfl hwX11 (by decide) (by decide +kernel) dX11_deaf_41 ?_
      refine x_vi E h (na := 0) (As := []) (kX7_addDeaf_1 l g _  rfl) (oc_bk g) rfl gX11_deaf_X7_addDeaf rfl ⟨rfl, rfl⟩ rfl (by decide +kernel) ⟨Nat.le_of_ble_eq_true rfl, Nat.le_of_ble_eq_true rfl⟩ hl.1 rfl (Nat.le_of_ble_eq_true rfl) dX11_deaf_44 ⟨Nat.le_of_ble_eq_true rfl, Nat.le_of_ble_eq_true rfl⟩ (fun r13 s13 H locs q13 h => ?_)
      rcases q13 with ⟨rfl, rfl⟩
      refine lv_pop hx hb dX11_deaf_47 rfl ?_
      refine lv_iinc (v := 2) (lv' := [(2, .int 2), (0, .ref (g.2.1 0)), (1, .int 4)]) hx hb dX11_deaf_48 hl (k := 0) rfl (by decide) (by decide) rfl (fun ls hl => ?_)
      refine lv_goto (tgt := 35) hx hb dX11_deaf_51 (by decide) ?_
      refine lv_iload_n hx hb dX11_deaf_35 rfl (lv_at hl 0 rfl) ?_
      refine lv_iload_n hx hb dX11_deaf_36 rfl (lv_at hl 2 rfl) ?_
      refine lv_icmp_ge (tgt := 54) hx hb dX11_deaf_37 (by decide) (fun c => absurd c (by decide)) (fun _ => ?_)
      refine lv_aload_n hx hb dX11_deaf_40 rfl (lv_at hl 1 rfl) ?_
      refine x_getR E h (fr_vh_book g) rfl hwX11 (by decide) (by decide +kernel) dX11_deaf_41 ?_
      refine x_vi E h (na := 0) (As := []) (kX7_addDeaf_2 l g _  rfl) (oc_bk g) rfl gX11_deaf_X7_addDeaf rfl ⟨rfl, rfl⟩ rfl (by decide +kernel) ⟨Nat.le_of_ble_eq_true rfl, Nat.le_of_ble_eq_true rfl⟩ hl.1 rfl (Nat.le_of_ble_eq_true rfl) dX11_deaf_44 ⟨Nat.le_of_ble_eq_true rfl, Nat.le_of_ble_eq_true rfl⟩ (fun r14 s14 H locs q14 h => ?_)
      rcases q14 with ⟨rfl, rfl⟩
      refine lv_pop hx hb dX11_deaf_47 rfl ?_
      refine lv_iinc (v := 3) (lv' := [(2, .int 3), (0, .ref (g.2.1 0)), (1, .int 4)]) hx hb dX11_deaf_48 hl (k := 0) rfl (by decide) (by decide) rfl (fun ls hl => ?_)
      refine lv_goto (tgt := 35) hx hb dX11_deaf_51 (by decide) ?_
      refine lv_iload_n hx hb dX11_deaf_35 rfl (lv_at hl 0 rfl) ?_
      refine lv_iload_n hx hb dX11_deaf_36 rfl (lv_at hl 2 rfl) ?_
      refine lv_icmp_ge (tgt := 54) hx hb dX11_deaf_37 (by decide) (fun c => absurd c (by decide)) (fun _ => ?_)
      refine lv_aload_n hx hb dX11_deaf_40 rfl (lv_at hl 1 rfl) ?_
      refine x_getR E h (fr_vh_book g) rfl hwX11 (by decide) (by decide +kernel) dX11_deaf_41 ?_
      refine x_vi E h (na := 0) (As := []) (kX7_addDeaf_3 l g _  rfl) (oc_bk g) rfl gX11_deaf_X7_addDeaf rfl ⟨rfl, rfl⟩ rfl (by decide +kernel) ⟨Nat.le_of_ble_eq_true rfl, Nat.le_of_ble_eq_true rfl⟩ hl.1 rfl (Nat.le_of_ble_eq_true rfl) dX11_deaf_44 ⟨Nat.le_of_ble_eq_true rfl, Nat.le_of_ble_eq_true rfl⟩ (fun r15 s15 H locs q15 h => ?_)
      rcases q15 with ⟨rfl, rfl⟩
      refine lv_pop hx hb dX11_deaf_47 rfl ?_
      refine lv_iinc (v := 4) (lv' := [(2, .int 4), (0, .ref (g.2.1 0)), (1, .int 4)]) hx hb dX11_deaf_48 hl (k := 0) rfl (by decide) (by decide) rfl (fun ls hl => ?_)
      refine lv_goto (tgt := 35) hx hb dX11_deaf_51 (by decide) ?_
      refine lv_iload_n hx hb dX11_deaf_35 rfl (lv_at hl 0 rfl) ?_
      refine lv_iload_n hx hb dX11_deaf_36 rfl (lv_at hl 2 rfl) ?_
      refine lv_icmp_ge (tgt := 54) hx hb dX11_deaf_37 (by decide) (fun _ => ?_) (fun c => absurd (by decide) c)
      refine lv_aload_n hx hb dX11_deaf_54 rfl (lv_at hl 1 rfl) ?_
      refine x_getR E h (fr_vh_book g) rfl hwX11 (by decide) (by decide +kernel) dX11_deaf_55 ?_
      refine x_getIN E h (fi_bk_rows g) rfl hwX7 (by decide) (by decide +kernel) (v := 4) rfl dX11_deaf_58 ?_
      exact x_iret E h (Or.inl ⟨k1_0, rfl, (MO.refl σ)⟩) dX11_deaf_61
    · skip
      refine lv_aload_n hx hb dX11_deaf_12 rfl (lv_at hl 0 rfl) ?_
      refine x_getR E h (fr_vh_book g) rfl hwX11 (by decide) (by decide +kernel) dX11_deaf_13 ?_
      refine x_getIN E h (fi_bk_rows g) rfl hwX7 (by decide) (by decide +kernel) (v := 0) fI_2 dX11_deaf_16 ?_
      refine lv_iload_n hx hb dX11_deaf_19 rfl (lv_at hl 1 rfl) ?_
      refine lv_iadd hx hb dX11_deaf_20 ?_
      refine x_topI (v2 := 5) (by decide) ?_
      refine lv_bipush (v := 48) hx hb dX11_deaf_21 (by decide) ?_
      refine lv_icmp_le (tgt := 29) hx hb dX11_deaf_23 (by decide) (fun _ => ?_) (fun c => absurd (by decide) c)
      refine lv_aload_n hx hb dX11_deaf_29 rfl (lv_at hl 0 rfl) ?_
      refine x_vv E h (na := 0) (As := []) (kX11_nothingIsFound_0 l g _  ) (oc_vh g) rfl gX11_deaf_X11_nothingIsFound rfl ⟨rfl, rfl⟩ rfl (by decide +kernel) ⟨Nat.le_of_ble_eq_true rfl, Nat.le_of_ble_eq_true rfl⟩ hl.1 rfl (Nat.le_of_ble_eq_true rfl) dX11_deaf_30 ⟨Nat.le_of_ble_eq_true rfl, Nat.le_of_ble_eq_true rfl⟩ (fun s16 H locs q16 h => ?_)
      rcases q16 with rfl
      refine lv_iconst (v := 0) hx hb dX11_deaf_33 (by decide) ?_
      refine lv_istore_n (lv' := [(2, .int 0), (0, .ref (g.2.1 0)), (1, .int 5)]) hx hb dX11_deaf_34 rfl hl (by decide) rfl (fun ls hl => ?_)
      refine lv_iload_n hx hb dX11_deaf_35 rfl (lv_at hl 0 rfl) ?_
      refine lv_iload_n hx hb dX11_deaf_36 rfl (lv_at hl 2 rfl) ?_
      refine lv_icmp_ge (tgt := 54) hx hb dX11_deaf_37 (by decide) (fun c => absurd c (by decide)) (fun _ => ?_)
      refine lv_aload_n hx hb dX11_deaf_40 rfl (lv_at hl 1 rfl) ?_
      refine x_getR E h (fr_vh_book g) rfl hwX11 (by decide) (by decide +kernel) dX11_deaf_41 ?_
      refine x_vi E h (na := 0) (As := []) (kX7_addDeaf_0 l g _  fI_2) (oc_bk g) rfl gX11_deaf_X7_addDeaf rfl ⟨rfl, rfl⟩ rfl (by decide +kernel) ⟨Nat.le_of_ble_eq_true rfl, Nat.le_of_ble_eq_true rfl⟩ hl.1 rfl (Nat.le_of_ble_eq_true rfl) dX11_deaf_44 ⟨Nat.le_of_ble_eq_true rfl, Nat.le_of_ble_eq_true rfl⟩ (fun r17 s17 H locs q17 h => ?_)
      rcases q17 with ⟨rfl, rfl⟩
      refine lv_pop hx hb dX11_deaf_47 rfl ?_
      refine lv_iinc (v := 1) (lv' := [(2, .int 1), (0, .ref (g.2.1 0)), (1, .int 5)]) hx hb dX11_deaf_48 hl (k := 0) rfl (by decide) (by decide) rfl (fun ls hl => ?_)
      refine lv_goto (tgt := 35) hx hb dX11_deaf_51 (by decide) ?_
      refine lv_iload_n hx hb dX11_deaf_35 rfl (lv_at hl 0 rfl) ?_
      refine lv_iload_n hx hb dX11_deaf_36 rfl (lv_at hl 2 rfl) ?_
      refine lv_icmp_ge (tgt := 54) hx hb dX11_deaf_37 (by decide) (fun c => absurd c (by decide)) (fun _ => ?_)
      refine lv_aload_n hx hb dX11_deaf_40 rfl (lv_at hl 1 rfl) ?_
      refine x_getR E h (fr_vh_book g) rfl hwX11 (by decide) (by decide +kernel) dX11_deaf_41 ?_
      refine x_vi E h (na := 0) (As := []) (kX7_addDeaf_1 l g _  rfl) (oc_bk g) rfl gX11_deaf_X7_addDeaf rfl ⟨rfl, rfl⟩ rfl (by decide +kernel) ⟨Nat.le_of_ble_eq_true rfl, Nat.le_of_ble_eq_true rfl⟩ hl.1 rfl (Nat.le_of_ble_eq_true rfl) dX11_deaf_44 ⟨Nat.le_of_ble_eq_true rfl, Nat.le_of_ble_eq_true rfl⟩ (fun r18 s18 H locs q18 h => ?_)
      rcases q18 with ⟨rfl, rfl⟩
      refine lv_pop hx hb dX11_deaf_47 rfl ?_
      refine lv_iinc (v := 2) (lv' := [(2, .int 2), (0, .ref (g.2.1 0)), (1, .int 5)]) hx hb dX11_deaf_48 hl (k := 0) rfl (by decide) (by decide) rfl (fun ls hl => ?_)
      refine lv_goto (tgt := 35) hx hb dX11_deaf_51 (by decide) ?_
      refine lv_iload_n hx hb dX11_deaf_35 rfl (lv_at hl 0 rfl) ?_
      refine lv_iload_n hx hb dX11_deaf_36 rfl (lv_at hl 2 rfl) ?_
      refine lv_icmp_ge (tgt := 54) hx hb dX11_deaf_37 (by decide) (fun c => absurd c (by decide)) (fun _ => ?_)
      refine lv_aload_n hx hb dX11_deaf_40 rfl (lv_at hl 1 rfl) ?_
      refine x_getR E h (fr_vh_book g) rfl hwX11 (by decide) (by decide +kernel) dX11_deaf_41 ?_
      refine x_vi E h (na := 0) (As := []) (kX7_addDeaf_2 l g _  rfl) (oc_bk g) rfl gX11_deaf_X7_addDeaf rfl ⟨rfl, rfl⟩ rfl (by decide +kernel) ⟨Nat.le_of_ble_eq_true rfl, Nat.le_of_ble_eq_true rfl⟩ hl.1 rfl (Nat.le_of_ble_eq_true rfl) dX11_deaf_44 ⟨Nat.le_of_ble_eq_true rfl, Nat.le_of_ble_eq_true rfl⟩ (fun r19 s19 H locs q19 h => ?_)
      rcases q19 with ⟨rfl, rfl⟩
      refine lv_pop hx hb dX11_deaf_47 rfl ?_
      refine lv_iinc (v := 3) (lv' := [(2, .int 3), (0, .ref (g.2.1 0)), (1, .int 5)]) hx hb dX11_deaf_48 hl (k := 0) rfl (by decide) (by decide) rfl (fun ls hl => ?_)
      refine lv_goto (tgt := 35) hx hb dX11_deaf_51 (by decide) ?_
      refine lv_iload_n hx hb dX11_deaf_35 rfl (lv_at hl 0 rfl) ?_
      refine lv_iload_n hx hb dX11_deaf_36 rfl (lv_at hl 2 rfl) ?_
      refine lv_icmp_ge (tgt := 54) hx hb dX11_deaf_37 (by decide) (fun c => absurd c (by decide)) (fun _ => ?_)
      refine lv_aload_n hx hb dX11_deaf_40 rfl (lv_at hl 1 rfl) ?_
      refine x_getR E h (fr_vh_book g) rfl hwX11 (by decide) (by decide +kernel) dX11_deaf_41 ?_
      refine x_vi E h (na := 0) (As := []) (kX7_addDeaf_3 l g _  rfl) (oc_bk g) rfl gX11_deaf_X7_addDeaf rfl ⟨rfl, rfl⟩ rfl (by decide +kernel) ⟨Nat.le_of_ble_eq_true rfl, Nat.le_of_ble_eq_true rfl⟩ hl.1 rfl (Nat.le_of_ble_eq_true rfl) dX11_deaf_44 ⟨Nat.le_of_ble_eq_true rfl, Nat.le_of_ble_eq_true rfl⟩ (fun r20 s20 H locs q20 h => ?_)
      rcases q20 with ⟨rfl, rfl⟩
      refine lv_pop hx hb dX11_deaf_47 rfl ?_
      refine lv_iinc (v := 4) (lv' := [(2, .int 4), (0, .ref (g.2.1 0)), (1, .int 5)]) hx hb dX11_deaf_48 hl (k := 0) rfl (by decide) (by decide) rfl (fun ls hl => ?_)
      refine lv_goto (tgt := 35) hx hb dX11_deaf_51 (by decide) ?_
      refine lv_iload_n hx hb dX11_deaf_35 rfl (lv_at hl 0 rfl) ?_
      refine lv_iload_n hx hb dX11_deaf_36 rfl (lv_at hl 2 rfl) ?_
      refine lv_icmp_ge (tgt := 54) hx hb dX11_deaf_37 (by decide) (fun c => absurd c (by decide)) (fun _ => ?_)
      refine lv_aload_n hx hb dX11_deaf_40 rfl (lv_at hl 1 rfl) ?_
      refine x_getR E h (fr_vh_book g) rfl hwX11 (by decide) (by decide +kernel) dX11_deaf_41 ?_
      refine x_vi E h (na := 0) (As := []) (kX7_addDeaf_4 l g _  rfl) (oc_bk g) rfl gX11_deaf_X7_addDeaf rfl ⟨rfl, rfl⟩ rfl (by decide +kernel) ⟨Nat.le_of_ble_eq_true rfl, Nat.le_of_ble_eq_true rfl⟩ hl.1 rfl (Nat.le_of_ble_eq_true rfl) dX11_deaf_44 ⟨Nat.le_of_ble_eq_true rfl, Nat.le_of_ble_eq_true rfl⟩ (fun r21 s21 H locs q21 h => ?_)
      rcases q21 with ⟨rfl, rfl⟩
      refine lv_pop hx hb dX11_deaf_47 rfl ?_
      refine lv_iinc (v := 5) (lv' := [(2, .int 5), (0, .ref (g.2.1 0)), (1, .int 5)]) hx hb dX11_deaf_48 hl (k := 0) rfl (by decide) (by decide) rfl (fun ls hl => ?_)
      refine lv_goto (tgt := 35) hx hb dX11_deaf_51 (by decide) ?_
      refine lv_iload_n hx hb dX11_deaf_35 rfl (lv_at hl 0 rfl) ?_
      refine lv_iload_n hx hb dX11_deaf_36 rfl (lv_at hl 2 rfl) ?_
      refine lv_icmp_ge (tgt := 54) hx hb dX11_deaf_37 (by decide) (fun _ => ?_) (fun c => absurd (by decide) c)
      refine lv_aload_n hx hb dX11_deaf_54 rfl (lv_at hl 1 rfl) ?_
      refine x_getR E h (fr_vh_book g) rfl hwX11 (by decide) (by decide +kernel) dX11_deaf_55 ?_
      refine x_getIN E h (fi_bk_rows g) rfl hwX7 (by decide) (by decide +kernel) (v := 5) rfl dX11_deaf_58 ?_
      exact x_iret E h (Or.inl ⟨k1_0, rfl, (MO.refl σ)⟩) dX11_deaf_61
    · skip
      refine lv_aload_n hx hb dX11_deaf_12 rfl (lv_at hl 0 rfl) ?_
      refine x_getR E h (fr_vh_book g) rfl hwX11 (by decide) (by decide +kernel) dX11_deaf_13 ?_
      refine x_getIN E h (fi_bk_rows g) rfl hwX7 (by decide) (by decide +kernel) (v := 0) fI_2 dX11_deaf_16 ?_
      refine lv_iload_n hx hb dX11_deaf_19 rfl (lv_at hl 1 rfl) ?_
      refine lv_iadd hx hb dX11_deaf_20 ?_
      refine x_topI (v2 := 6) (by decide) ?_
      refine lv_bipush (v := 48) hx hb dX11_deaf_21 (by decide) ?_
      refine lv_icmp_le (tgt := 29) hx hb dX11_deaf_23 (by decide) (fun _ => ?_) (fun c => absurd (by decide) c)
      refine lv_aload_n hx hb dX11_deaf_29 rfl (lv_at hl 0 rfl) ?_
      refine x_vv E h (na := 0) (As := []) (kX11_nothingIsFound_0 l g _  ) (oc_vh g) rfl gX11_deaf_X11_nothingIsFound rfl ⟨rfl, rfl⟩ rfl (by decide +kernel) ⟨Nat.le_of_ble_eq_true rfl, Nat.le_of_ble_eq_true rfl⟩ hl.1 rfl (Nat.le_of_ble_eq_true rfl) dX11_deaf_30 ⟨Nat.le_of_ble_eq_true rfl, Nat.le_of_ble_eq_true rfl⟩ (fun s22 H locs q22 h => ?_)
      rcases q22 with rfl
      refine lv_iconst (v := 0) hx hb dX11_deaf_33 (by decide) ?_
      refine lv_istore_n (lv' := [(2, .int 0), (0, .ref (g.2.1 0)), (1, .int 6)]) hx hb dX11_deaf_34 rfl hl (by decide) rfl (fun ls hl => ?_)
      refine lv_iload_n hx hb dX11_deaf_35 rfl (lv_at hl 0 rfl) ?_
      refine lv_iload_n hx hb dX11_deaf_36 rfl (lv_at hl 2 rfl) ?_
      refine lv_icmp_ge (tgt := 54) hx hb dX11_deaf_37 (by decide) (fun c => absurd c (by decide)) (fun _ => ?_)
      refine lv_aload_n hx hb dX11_deaf_40 rfl (lv_at hl 1 rfl) ?_
      refine x_getR E h (fr_vh_book g) rfl hwX11 (by decide) (by decide +kernel) dX11_deaf_41 ?_
      refine x_vi E h (na := 0) (As := []) (kX7_addDeaf_0 l g _  fI_2) (oc_bk g) rfl gX11_deaf_X7_addDeaf rfl ⟨rfl, rfl⟩ rfl (by decide +kernel) ⟨Nat.le_of_ble_eq_true rfl, Nat.le_of_ble_eq_true rfl⟩ hl.1 rfl (Nat.le_of_ble_eq_true rfl) dX11_deaf_44 ⟨Nat.le_of_ble_eq_true rfl, Nat.le_of_ble_eq_true rfl⟩ (fun r23 s23 H locs q23 h => ?_)
      rcases q23 with ⟨rfl, rfl⟩
      refine lv_pop hx hb dX11_deaf_47 rfl ?_
      refine lv_iinc (v := 1) (lv' := [(2, .int 1), (0, .ref (g.2.1 0)), (1, .int 6)]) hx hb dX11_deaf_48 hl (k := 0) rfl (by decide) (by decide) rfl (fun ls hl => ?_)
      refine lv_goto (tgt := 35) hx hb dX11_deaf_51 (by decide) ?_
      refine lv_iload_n hx hb dX11_deaf_35 rfl (lv_at hl 0 rfl) ?_
      refine lv_iload_n hx hb dX11_deaf_36 rfl (lv_at hl 2 rfl) ?_
      refine lv_icmp_ge (tgt := 54) hx hb dX11_deaf_37 (by decide) (fun c => absurd c (by decide)) (fun _ => ?_)
      refine lv_aload_n hx hb dX11_deaf_40 rfl (lv_at hl 1 rfl) ?_
      refine x_getR E h (fr_vh_book g) rfl hwX11 (by decide) (by decide +kernel) dX11_deaf_41 ?_
      refine x_vi E h (na := 0) (As := []) (kX7_addDeaf_1 l g _  rfl) (oc_bk g) rfl gX11_deaf_X7_addDeaf rfl ⟨rfl, rfl⟩ rfl (by decide +kernel) ⟨Nat.le_of_ble_eq_true rfl, Nat.le_of_ble_eq_true rfl⟩ hl.1 rfl (Nat.le_of_ble_eq_true rfl) dX11_deaf_44 ⟨Nat.le_of_ble_eq_true rfl, Nat.le_of_ble_eq_true rfl⟩ (fun r24 s24 H locs q24 h => ?_)
      rcases q24 with ⟨rfl, rfl⟩
      refine lv_pop hx hb dX11_deaf_47 rfl ?_
      refine lv_iinc (v := 2) (lv' := [(2, .int 2), (0, .ref (g.2.1 0)), (1, .int 6)]) hx hb dX11_deaf_48 hl (k := 0) rfl (by decide) (by decide) rfl (fun ls hl => ?_)
      refine lv_goto (tgt := 35) hx hb dX11_deaf_51 (by decide) ?_
      refine lv_iload_n hx hb dX11_deaf_35 rfl (lv_at hl 0 rfl) ?_
      refine lv_iload_n hx hb dX11_deaf_36 rfl (lv_at hl 2 rfl) ?_
      refine lv_icmp_ge (tgt := 54) hx hb dX11_deaf_37 (by decide) (fun c => absurd c (by decide)) (fun _ => ?_)
      refine lv_aload_n hx hb dX11_deaf_40 rfl (lv_at hl 1 rfl) ?_
      refine x_getR E h (fr_vh_book g) rfl hwX11 (by decide) (by decide +kernel) dX11_deaf_41 ?_
      refine x_vi E h (na := 0) (As := []) (kX7_addDeaf_2 l g _  rfl) (oc_bk g) rfl gX11_deaf_X7_addDeaf rfl ⟨rfl, rfl⟩ rfl (by decide +kernel) ⟨Nat.le_of_ble_eq_true rfl, Nat.le_of_ble_eq_true rfl⟩ hl.1 rfl (Nat.le_of_ble_eq_true rfl) dX11_deaf_44 ⟨Nat.le_of_ble_eq_true rfl, Nat.le_of_ble_eq_true rfl⟩ (fun r25 s25 H locs q25 h => ?_)
      rcases q25 with ⟨rfl, rfl⟩
      refine lv_pop hx hb dX11_deaf_47 rfl ?_
      refine lv_iinc (v := 3) (lv' := [(2, .int 3), (0, .ref (g.2.1 0)), (1, .int 6)]) hx hb dX11_deaf_48 hl (k := 0) rfl (by decide) (by decide) rfl (fun ls hl => ?_)
      refine lv_goto (tgt := 35) hx hb dX11_deaf_51 (by decide) ?_
      refine lv_iload_n hx hb dX11_deaf_35 rfl (lv_at hl 0 rfl) ?_
      refine lv_iload_n hx hb dX11_deaf_36 rfl (lv_at hl 2 rfl) ?_
      refine lv_icmp_ge (tgt := 54) hx hb dX11_deaf_37 (by decide) (fun c => absurd c (by decide)) (fun _ => ?_)
      refine lv_aload_n hx hb dX11_deaf_40 rfl (lv_at hl 1 rfl) ?_
      refine x_getR E h (fr_vh_book g) rfl hwX11 (by decide) (by decide +kernel) dX11_deaf_41 ?_
      refine x_vi E h (na := 0) (As := []) (kX7_addDeaf_3 l g _  rfl) (oc_bk g) rfl gX11_deaf_X7_addDeaf rfl ⟨rfl, rfl⟩ rfl (by decide +kernel) ⟨Nat.le_of_ble_eq_true rfl, Nat.le_of_ble_eq_true rfl⟩ hl.1 rfl (Nat.le_of_ble_eq_true rfl) dX11_deaf_44 ⟨Nat.le_of_ble_eq_true rfl, Nat.le_of_ble_eq_true rfl⟩ (fun r26 s26 H locs q26 h => ?_)
      rcases q26 with ⟨rfl, rfl⟩
      refine lv_pop hx hb dX11_deaf_47 rfl ?_
      refine lv_iinc (v := 4) (lv' := [(2, .int 4), (0, .ref (g.2.1 0)), (1, .int 6)]) hx hb dX11_deaf_48 hl (k := 0) rfl (by decide) (by decide) rfl (fun ls hl => ?_)
      refine lv_goto (tgt := 35) hx hb dX11_deaf_51 (by decide) ?_
      refine lv_iload_n hx hb dX11_deaf_35 rfl (lv_at hl 0 rfl) ?_
      refine lv_iload_n hx hb dX11_deaf_36 rfl (lv_at hl 2 rfl) ?_
      refine lv_icmp_ge (tgt := 54) hx hb dX11_deaf_37 (by decide) (fun c => absurd c (by decide)) (fun _ => ?_)
      refine lv_aload_n hx hb dX11_deaf_40 rfl (lv_at hl 1 rfl) ?_
      refine x_getR E h (fr_vh_book g) rfl hwX11 (by decide) (by decide +kernel) dX11_deaf_41 ?_
      refine x_vi E h (na := 0) (As := []) (kX7_addDeaf_4 l g _  rfl) (oc_bk g) rfl gX11_deaf_X7_addDeaf rfl ⟨rfl, rfl⟩ rfl (by decide +kernel) ⟨Nat.le_of_ble_eq_true rfl, Nat.le_of_ble_eq_true rfl⟩ hl.1 rfl (Nat.le_of_ble_eq_true rfl) dX11_deaf_44 ⟨Nat.le_of_ble_eq_true rfl, Nat.le_of_ble_eq_true rfl⟩ (fun r27 s27 H locs q27 h => ?_)
      rcases q27 with ⟨rfl, rfl⟩
      refine lv_pop hx hb dX11_deaf_47 rfl ?_
      refine lv_iinc (v := 5) (lv' := [(2, .int 5), (0, .ref (g.2.1 0)), (1, .int 6)]) hx hb dX11_deaf_48 hl (k := 0) rfl (by decide) (by decide) rfl (fun ls hl => ?_)
      refine lv_goto (tgt := 35) hx hb dX11_deaf_51 (by decide) ?_
      refine lv_iload_n hx hb dX11_deaf_35 rfl (lv_at hl 0 rfl) ?_
      refine lv_iload_n hx hb dX11_deaf_36 rfl (lv_at hl 2 rfl) ?_
      refine lv_icmp_ge (tgt := 54) hx hb dX11_deaf_37 (by decide) (fun c => absurd c (by decide)) (fun _ => ?_)
      refine lv_aload_n hx hb dX11_deaf_40 rfl (lv_at hl 1 rfl) ?_
      refine x_getR E h (fr_vh_book g) rfl hwX11 (by decide) (by decide +kernel) dX11_deaf_41 ?_
      refine x_vi E h (na := 0) (As := []) (kX7_addDeaf_5 l g _  rfl) (oc_bk g) rfl gX11_deaf_X7_addDeaf rfl ⟨rfl, rfl⟩ rfl (by decide +kernel) ⟨Nat.le_of_ble_eq_true rfl, Nat.le_of_ble_eq_true rfl⟩ hl.1 rfl (Nat.le_of_ble_eq_true rfl) dX11_deaf_44 ⟨Nat.le_of_ble_eq_true rfl, Nat.le_of_ble_eq_true rfl⟩ (fun r28 s28 H locs q28 h => ?_)
      rcases q28 with ⟨rfl, rfl⟩
      refine lv_pop hx hb dX11_deaf_47 rfl ?_
      refine lv_iinc (v := 6) (lv' := [(2, .int 6), (0, .ref (g.2.1 0)), (1, .int 6)]) hx hb dX11_deaf_48 hl (k := 0) rfl (by decide) (by decide) rfl (fun ls hl => ?_)
      refine lv_goto (tgt := 35) hx hb dX11_deaf_51 (by decide) ?_
      refine lv_iload_n hx hb dX11_deaf_35 rfl (lv_at hl 0 rfl) ?_
      refine lv_iload_n hx hb dX11_deaf_36 rfl (lv_at hl 2 rfl) ?_
      refine lv_icmp_ge (tgt := 54) hx hb dX11_deaf_37 (by decide) (fun _ => ?_) (fun c => absurd (by decide) c)
      refine lv_aload_n hx hb dX11_deaf_54 rfl (lv_at hl 1 rfl) ?_
      refine x_getR E h (fr_vh_book g) rfl hwX11 (by decide) (by decide +kernel) dX11_deaf_55 ?_
      refine x_getIN E h (fi_bk_rows g) rfl hwX7 (by decide) (by decide +kernel) (v := 6) rfl dX11_deaf_58 ?_
      exact x_iret E h (Or.inl ⟨k1_0, rfl, (MO.refl σ)⟩) dX11_deaf_61
    · skip
      refine lv_aload_n hx hb dX11_deaf_12 rfl (lv_at hl 0 rfl) ?_
      refine x_getR E h (fr_vh_book g) rfl hwX11 (by decide) (by decide +kernel) dX11_deaf_13 ?_
      refine x_getIN E h (fi_bk_rows g) rfl hwX7 (by decide) (by decide +kernel) (v := 0) fI_2 dX11_deaf_16 ?_
      refine lv_iload_n hx hb dX11_deaf_19 rfl (lv_at hl 1 rfl) ?_
      refine lv_iadd hx hb dX11_deaf_20 ?_
      refine x_topI (v2 := 7) (by decide) ?_
      refine lv_bipush (v := 48) hx hb dX11_deaf_21 (by decide) ?_
      refine lv_icmp_le (tgt := 29) hx hb dX11_deaf_23 (by decide) (fun _ => ?_) (fun c => absurd (by decide) c)
      refine lv_aload_n hx hb dX11_deaf_29 rfl (lv_at hl 0 rfl) ?_
      refine x_vv E h (na := 0) (As := []) (kX11_nothingIsFound_0 l g _  ) (oc_vh g) rfl gX11_deaf_X11_nothingIsFound rfl ⟨rfl, rfl⟩ rfl (by decide +kernel) ⟨Nat.le_of_ble_eq_true rfl, Nat.le_of_ble_eq_true rfl⟩ hl.1 rfl (Nat.le_of_ble_eq_true rfl) dX11_deaf_30 ⟨Nat.le_of_ble_eq_true rfl, Nat.le_of_ble_eq_true rfl⟩ (fun s29 H locs q29 h => ?_)
      rcases q29 with rfl
      refine lv_iconst (v := 0) hx hb dX11_deaf_33 (by decide) ?_
      refine lv_istore_n (lv' := [(2, .int 0), (0, .ref (g.2.1 0)), (1, .int 7)]) hx hb dX11_deaf_34 rfl hl (by decide) rfl (fun ls hl => ?_)
      refine lv_iload_n hx hb dX11_deaf_35 rfl (lv_at hl 0 rfl) ?_
      refine lv_iload_n hx hb dX11_deaf_36 rfl (lv_at hl 2 rfl) ?_
      refine lv_icmp_ge (tgt := 54) hx hb dX11_deaf_37 (by decide) (fun c => absurd c (by decide)) (fun _ => ?_)
      refine lv_aload_n hx hb dX11_deaf_40 rfl (lv_at hl 1 rfl) ?_
      refine x_getR E h (fr_vh_book g) rfl hwX11 (by decide) (by decide +kernel) dX11_deaf_41 ?_
      refine x_vi E h (na := 0) (As := []) (kX7_addDeaf_0 l g _  fI_2) (oc_bk g) rfl gX11_deaf_X7_addDeaf rfl ⟨rfl, rfl⟩ rfl (by decide +kernel) ⟨Nat.le_of_ble_eq_true rfl, Nat.le_of_ble_eq_true rfl⟩ hl.1 rfl (Nat.le_of_ble_eq_true rfl) dX11_deaf_44 ⟨Nat.le_of_ble_eq_true rfl, Nat.le_of_ble_eq_true rfl⟩ (fun r30 s30 H locs q30 h => ?_)
      rcases q30 with ⟨rfl, rfl⟩
      refine lv_pop hx hb dX11_deaf_47 rfl ?_
      refine lv_iinc (v := 1) (lv' := [(2, .int 1), (0, .ref (g.2.1 0)), (1, .int 7)]) hx hb dX11_deaf_48 hl (k := 0) rfl (by decide) (by decide) rfl (fun ls hl => ?_)
      refine lv_goto (tgt := 35) hx hb dX11_deaf_51 (by decide) ?_
      refine lv_iload_n hx hb dX11_deaf_35 rfl (lv_at hl 0 rfl) ?_
      refine lv_iload_n hx hb dX11_deaf_36 rfl (lv_at hl 2 rfl) ?_
      refine lv_icmp_ge (tgt := 54) hx hb dX11_deaf_37 (by decide) (fun c => absurd c (by decide)) (fun _ => ?_)
      refine lv_aload_n hx hb dX11_deaf_40 rfl (lv_at hl 1 rfl) ?_
      refine x_getR E h (fr_vh_book g) rfl hwX11 (by decide) (by decide +kernel) dX11_deaf_41 ?_
      refine x_vi E h (na := 0) (As := []) (kX7_addDeaf_1 l g _  rfl) (oc_bk g) rfl gX11_deaf_X7_addDeaf rfl ⟨rfl, rfl⟩ rfl (by decide +kernel) ⟨Nat.le_of_ble_eq_true rfl, Nat.le_of_ble_eq_true rfl⟩ hl.1 rfl (Nat.le_of_ble_eq_true rfl) dX11_deaf_44 ⟨Nat.le_of_ble_eq_true rfl, Nat.le_of_ble_eq_true rfl⟩ (fun r31 s31 H locs q31 h => ?_)
      rcases q31 with ⟨rfl, rfl⟩
      refine lv_pop hx hb dX11_deaf_47 rfl ?_
      refine lv_iinc (v := 2) (lv' := [(2, .int 2), (0, .ref (g.2.1 0)), (1, .int 7)]) hx hb dX11_deaf_48 hl (k := 0) rfl (by decide) (by decide) rfl (fun ls hl => ?_)
      refine lv_goto (tgt := 35) hx hb dX11_deaf_51 (by decide) ?_
      refine lv_iload_n hx hb dX11_deaf_35 rfl (lv_at hl 0 rfl) ?_
      refine lv_iload_n hx hb dX11_deaf_36 rfl (lv_at hl 2 rfl) ?_
      refine lv_icmp_ge (tgt := 54) hx hb dX11_deaf_37 (by decide) (fun c => absurd c (by decide)) (fun _ => ?_)
      refine lv_aload_n hx hb dX11_deaf_40 rfl (lv_at hl 1 rfl) ?_
      refine x_getR E h (fr_vh_book g) rfl hwX11 (by decide) (by decide +kernel) dX11_deaf_41 ?_
      refine x_vi E h (na := 0) (As := []) (kX7_addDeaf_2 l g _  rfl) (oc_bk g) rfl gX11_deaf_X7_addDeaf rfl ⟨rfl, rfl⟩ rfl (by decide +kernel) ⟨Nat.le_of_ble_eq_true rfl, Nat.le_of_ble_eq_true rfl⟩ hl.1 rfl (Nat.le_of_ble_eq_true rfl) dX11_deaf_44 ⟨Nat.le_of_ble_eq_true rfl, Nat.le_of_ble_eq_true rfl⟩ (fun r32 s32 H locs q32 h => ?_)
      rcases q32 with ⟨rfl, rfl⟩
      refine lv_pop hx hb dX11_deaf_47 rfl ?_
      refine lv_iinc (v := 3) (lv' := [(2, .int 3), (0, .ref (g.2.1 0)), (1, .int 7)]) hx hb dX11_deaf_48 hl (k := 0) rfl (by decide) (by decide) rfl (fun ls hl => ?_)
      refine lv_goto (tgt := 35) hx hb dX11_deaf_51 (by decide) ?_
      refine lv_iload_n hx hb dX11_deaf_35 rfl (lv_at hl 0 rfl) ?_
      refine lv_iload_n hx hb dX11_deaf_36 rfl (lv_at hl 2 rfl) ?_
      refine lv_icmp_ge (tgt := 54) hx hb dX11_deaf_37 (by decide) (fun c => absurd c (by decide)) (fun _ => ?_)
      refine lv_aload_n hx hb dX11_deaf_40 rfl (lv_at hl 1 rfl) ?_
      refine x_getR E h (fr_vh_book g) rfl hwX11 (by decide) (by decide +kernel) dX11_deaf_41 ?_
      refine x_vi E h (na := 0) (As := []) (kX7_addDeaf_3 l g _  rfl) (oc_bk g) rfl gX11_deaf_X7_addDeaf rfl ⟨rfl, rfl⟩ rfl (by decide +kernel) ⟨Nat.le_of_ble_eq_true rfl, Nat.le_of_ble_eq_true rfl⟩ hl.1 rfl (Nat.le_of_ble_eq_true rfl) dX11_deaf_44 ⟨Nat.le_of_ble_eq_true rfl, Nat.le_of_ble_eq_true rfl⟩ (fun r33 s33 H locs q33 h => ?_)
      rcases q33 with ⟨rfl, rfl⟩
      refine lv_pop hx hb dX11_deaf_47 rfl ?_
      refine lv_iinc (v := 4) (lv' := [(2, .int 4), (0, .ref (g.2.1 0)), (1, .int 7)]) hx hb dX11_deaf_48 hl (k := 0) rfl (by decide) (by decide) rfl (fun ls hl => ?_)
      refine lv_goto (tgt := 35) hx hb dX11_deaf_51 (by decide) ?_
      refine lv_iload_n hx hb dX11_deaf_35 rfl (lv_at hl 0 rfl) ?_
      refine lv_iload_n hx hb dX11_deaf_36 rfl (lv_at hl 2 rfl) ?_
      refine lv_icmp_ge (tgt := 54) hx hb dX11_deaf_37 (by decide) (fun c => absurd c (by decide)) (fun _ => ?_)
      refine lv_aload_n hx hb dX11_deaf_40 rfl (lv_at hl 1 rfl) ?_
      refine x_getR E h (fr_vh_book g) rfl hwX11 (by decide) (by decide +kernel) dX11_deaf_41 ?_
      refine x_vi E h (na := 0) (As := []) (kX7_addDeaf_4 l g _  rfl) (oc_bk g) rfl gX11_deaf_X7_addDeaf rfl ⟨rfl, rfl⟩ rfl (by decide +kernel) ⟨Nat.le_of_ble_eq_true rfl, Nat.le_of_ble_eq_true rfl⟩ hl.1 rfl (Nat.le_of_ble_eq_true rfl) dX11_deaf_44 ⟨Nat.le_of_ble_eq_true rfl, Nat.le_of_ble_eq_true rfl⟩ (fun r34 s34 H locs q34 h => ?_)
      rcases q34 with ⟨rfl, rfl⟩
      refine lv_pop hx hb dX11_deaf_47 rfl ?_
      refine lv_iinc (v := 5) (lv' := [(2, .int 5), (0, .ref (g.2.1 0)), (1, .int 7)]) hx hb dX11_deaf_48 hl (k := 0) rfl (by decide) (by decide) rfl (fun ls hl => ?_)
      refine lv_goto (tgt := 35) hx hb dX11_deaf_51 (by decide) ?_
      refine lv_iload_n hx hb dX11_deaf_35 rfl (lv_at hl 0 rfl) ?_
      refine lv_iload_n hx hb dX11_deaf_36 rfl (lv_at hl 2 rfl) ?_
      refine lv_icmp_ge (tgt := 54) hx hb dX11_deaf_37 (by decide) (fun c => absurd c (by decide)) (fun _ => ?_)
      refine lv_aload_n hx hb dX11_deaf_40 rfl (lv_at hl 1 rfl) ?_
      refine x_getR E h (fr_vh_book g) rfl hwX11 (by decide) (by decide +kernel) dX11_deaf_41 ?_
      refine x_vi E h (na := 0) (As := []) (kX7_addDeaf_5 l g _  rfl) (oc_bk g) rfl gX11_deaf_X7_addDeaf rfl ⟨rfl, rfl⟩ rfl (by decide +kernel) ⟨Nat.le_of_ble_eq_true rfl, Nat.le_of_ble_eq_true rfl⟩ hl.1 rfl (Nat.le_of_ble_eq_true rfl) dX11_deaf_44 ⟨Nat.le_of_ble_eq_true rfl, Nat.le_of_ble_eq_true rfl⟩ (fun r35 s35 H locs q35 h => ?_)
      rcases q35 with ⟨rfl, rfl⟩
      refine lv_pop hx hb dX11_deaf_47 rfl ?_
      refine lv_iinc (v := 6) (lv' := [(2, .int 6), (0, .ref (g.2.1 0)), (1, .int 7)]) hx hb dX11_deaf_48 hl (k := 0) rfl (by decide) (by decide) rfl (fun ls hl => ?_)
      refine lv_goto (tgt := 35) hx hb dX11_deaf_51 (by decide) ?_
      refine lv_iload_n hx hb dX11_deaf_35 rfl (lv_at hl 0 rfl) ?_
      refine lv_iload_n hx hb dX11_deaf_36 rfl (lv_at hl 2 rfl) ?_
      refine lv_icmp_ge (tgt := 54) hx hb dX11_deaf_37 (by decide) (fun c => absurd c (by decide)) (fun _ => ?_)
      refine lv_aload_n hx hb dX11_deaf_40 rfl (lv_at hl 1 rfl) ?_
      refine x_getR E h (fr_vh_book g) rfl hwX11 (by decide) (by decide +kernel) dX11_deaf_41 ?_
      refine x_vi E h (na := 0) (As := []) (kX7_addDeaf_6 l g _  rfl) (oc_bk g) rfl gX11_deaf_X7_addDeaf rfl ⟨rfl, rfl⟩ rfl (by decide +kernel) ⟨Nat.le_of_ble_eq_true rfl, Nat.le_of_ble_eq_true rfl⟩ hl.1 rfl (Nat.le_of_ble_eq_true rfl) dX11_deaf_44 ⟨Nat.le_of_ble_eq_true rfl, Nat.le_of_ble_eq_true rfl⟩ (fun r36 s36 H locs q36 h => ?_)
      rcases q36 with ⟨rfl, rfl⟩
      refine lv_pop hx hb dX11_deaf_47 rfl ?_
      refine lv_iinc (v := 7) (lv' := [(2, .int 7), (0, .ref (g.2.1 0)), (1, .int 7)]) hx hb dX11_deaf_48 hl (k := 0) rfl (by decide) (by decide) rfl (fun ls hl => ?_)
      refine lv_goto (tgt := 35) hx hb dX11_deaf_51 (by decide) ?_
      refine lv_iload_n hx hb dX11_deaf_35 rfl (lv_at hl 0 rfl) ?_
      refine lv_iload_n hx hb dX11_deaf_36 rfl (lv_at hl 2 rfl) ?_
      refine lv_icmp_ge (tgt := 54) hx hb dX11_deaf_37 (by decide) (fun _ => ?_) (fun c => absurd (by decide) c)
      refine lv_aload_n hx hb dX11_deaf_54 rfl (lv_at hl 1 rfl) ?_
      refine x_getR E h (fr_vh_book g) rfl hwX11 (by decide) (by decide +kernel) dX11_deaf_55 ?_
      refine x_getIN E h (fi_bk_rows g) rfl hwX7 (by decide) (by decide +kernel) (v := 7) rfl dX11_deaf_58 ?_
      exact x_iret E h (Or.inl ⟨k1_0, rfl, (MO.refl σ)⟩) dX11_deaf_61
    · skip
      refine lv_aload_n hx hb dX11_deaf_12 rfl (lv_at hl 0 rfl) ?_
      refine x_getR E h (fr_vh_book g) rfl hwX11 (by decide) (by decide +kernel) dX11_deaf_13 ?_
      refine x_getIN E h (fi_bk_rows g) rfl hwX7 (by decide) (by decide +kernel) (v := 0) fI_2 dX11_deaf_16 ?_
      refine lv_iload_n hx hb dX11_deaf_19 rfl (lv_at hl 1 rfl) ?_
      refine lv_iadd hx hb dX11_deaf_20 ?_
      refine x_topI (v2 := 8) (by decide) ?_
      refine lv_bipush (v := 48) hx hb dX11_deaf_21 (by decide) ?_
      refine lv_icmp_le (tgt := 29) hx hb dX11_deaf_23 (by decide) (fun _ => ?_) (fun c => absurd (by decide) c)
      refine lv_aload_n hx hb dX11_deaf_29 rfl (lv_at hl 0 rfl) ?_
      refine x_vv E h (na := 0) (As := []) (kX11_nothingIsFound_0 l g _  ) (oc_vh g) rfl gX11_deaf_X11_nothingIsFound rfl ⟨rfl, rfl⟩ rfl (by decide +kernel) ⟨Nat.le_of_ble_eq_true rfl, Nat.le_of_ble_eq_true rfl⟩ hl.1 rfl (Nat.le_of_ble_eq_true rfl) dX11_deaf_30 ⟨Nat.le_of_ble_eq_true rfl, Nat.le_of_ble_eq_true rfl⟩ (fun s37 H locs q37 h => ?_)
      rcases q37 with rfl
      refine lv_iconst (v := 0) hx hb dX11_deaf_33 (by decide) ?_
      refine lv_istore_n (lv' := [(2, .int 0), (0, .ref (g.2.1 0)), (1, .int 8)]) hx hb dX11_deaf_34 rfl hl (by decide) rfl (fun ls hl => ?_)
      refine lv_iload_n hx hb dX11_deaf_35 rfl (lv_at hl 0 rfl) ?_
      refine lv_iload_n hx hb dX11_deaf_36 rfl (lv_at hl 2 rfl) ?_
      refine lv_icmp_ge (tgt := 54) hx hb dX11_deaf_37 (by decide) (fun c => absurd c (by decide)) (fun _ => ?_)
      refine lv_aload_n hx hb dX11_deaf_40 rfl (lv_at hl 1 rfl) ?_
      refine x_getR E h (fr_vh_book g) rfl hwX11 (by decide) (by decide +kernel) dX11_deaf_41 ?_
      refine x_vi E h (na := 0) (As := []) (kX7_addDeaf_0 l g _  fI_2) (oc_bk g) rfl gX11_deaf_X7_addDeaf rfl ⟨rfl, rfl⟩ rfl (by decide +kernel) ⟨Nat.le_of_ble_eq_true rfl, Nat.le_of_ble_eq_true rfl⟩ hl.1 rfl (Nat.le_of_ble_eq_true rfl) dX11_deaf_44 ⟨Nat.le_of_ble_eq_true rfl, Nat.le_of_ble_eq_true rfl⟩ (fun r38 s38 H locs q38 h => ?_)
      rcases q38 with ⟨rfl, rfl⟩
      refine lv_pop hx hb dX11_deaf_47 rfl ?_
      refine lv_iinc (v := 1) (lv' := [(2, .int 1), (0, .ref (g.2.1 0)), (1, .int 8)]) hx hb dX11_deaf_48 hl (k := 0) rfl (by decide) (by decide) rfl (fun ls hl => ?_)
      refine lv_goto (tgt := 35) hx hb dX11_deaf_51 (by decide) ?_
      refine lv_iload_n hx hb dX11_deaf_35 rfl (lv_at hl 0 rfl) ?_
      refine lv_iload_n hx hb dX11_deaf_36 rfl (lv_at hl 2 rfl) ?_
      refine lv_icmp_ge (tgt := 54) hx hb dX11_deaf_37 (by decide) (fun c => absurd c (by decide)) (fun _ => ?_)
      refine lv_aload_n hx hb dX11_deaf_40 rfl (lv_at hl 1 rfl) ?_
      refine x_getR E h (fr_vh_book g) rfl hwX11 (by decide) (by decide +kernel) dX11_deaf_41 ?_
      refine x_vi E h (na := 0) (As := []) (kX7_addDeaf_1 l g _  rfl) (oc_bk g) rfl gX11_deaf_X7_addDeaf rfl ⟨rfl, rfl⟩ rfl (by decide +kernel) ⟨Nat.le_of_ble_eq_true rfl, Nat.le_of_ble_eq_true rfl⟩ hl.1 rfl (Nat.le_of_ble_eq_true rfl) dX11_deaf_44 ⟨Nat.le_of_ble_eq_true rfl, Nat.le_of_ble_eq_true rfl⟩ (fun r39 s39 H locs q39 h => ?_)
      rcases q39 with ⟨rfl, rfl⟩
      refine lv_pop hx hb dX11_deaf_47 rfl ?_
      refine lv_iinc (v := 2) (lv' := [(2, .int 2), (0, .ref (g.2.1 0)), (1, .int 8)]) hx hb dX11_deaf_48 hl (k := 0) rfl (by decide) (by decide) rfl (fun ls hl => ?_)
      refine lv_goto (tgt := 35) hx hb dX11_deaf_51 (by decide) ?_
      refine lv_iload_n hx hb dX11_deaf_35 rfl (lv_at hl 0 rfl) ?_
      refine lv_iload_n hx hb dX11_deaf_36 rfl (lv_at hl 2 rfl) ?_
      refine lv_icmp_ge (tgt := 54) hx hb dX11_deaf_37 (by decide) (fun c => absurd c (by decide)) (fun _ => ?_)
      refine lv_aload_n hx hb dX11_deaf_40 rfl (lv_at hl 1 rfl) ?_
      refine x_getR E h (fr_vh_book g) rfl hwX11 (by decide) (by decide +kernel) dX11_deaf_41 ?_
      refine x_vi E h (na := 0) (As := []) (kX7_addDeaf_2 l g _  rfl) (oc_bk g) rfl gX11_deaf_X7_addDeaf rfl ⟨rfl, rfl⟩ rfl (by decide +kernel) ⟨Nat.le_of_ble_eq_true rfl, Nat.le_of_ble_eq_true rfl⟩ hl.1 rfl (Nat.le_of_ble_eq_true rfl) dX11_deaf_44 ⟨Nat.le_of_ble_eq_true rfl, Nat.le_of_ble_eq_true rfl⟩ (fun r40 s40 H locs q40 h => ?_)
      rcases q40 with ⟨rfl, rfl⟩
      refine lv_pop hx hb dX11_deaf_47 rfl ?_
      refine lv_iinc (v := 3) (lv' := [(2, .int 3), (0, .ref (g.2.1 0)), (1, .int 8)]) hx hb dX11_deaf_48 hl (k := 0) rfl (by decide) (by decide) rfl (fun ls hl => ?_)
      refine lv_goto (tgt := 35) hx hb dX11_deaf_51 (by decide) ?_
      refine lv_iload_n hx hb dX11_deaf_35 rfl (lv_at hl 0 rfl) ?_
      refine lv_iload_n hx hb dX11_deaf_36 rfl (lv_at hl 2 rfl) ?_
      refine lv_icmp_ge (tgt := 54) hx hb dX11_deaf_37 (by decide) (fun c => absurd c (by decide)) (fun _ => ?_)
      refine lv_aload_n hx hb dX11_deaf_40 rfl (lv_at hl 1 rfl) ?_
      refine x_getR E h (fr_vh_book g) rfl hwX11 (by decide) (by decide +kernel) dX11_deaf_41 ?_
      refine x_vi E h (na := 0) (As := []) (kX7_addDeaf_3 l g _  rfl) (oc_bk g) rfl gX11_deaf_X7_addDeaf rfl ⟨rfl, rfl⟩ rfl (by decide +kernel) ⟨Nat.le_of_ble_eq_true rfl, Nat.le_of_ble_eq_true rfl⟩ hl.1 rfl (Nat.le_of_ble_eq_true rfl) dX11_deaf_44 ⟨Nat.le_of_ble_eq_true rfl, Nat.le_of_ble_eq_true rfl⟩ (fun r41 s41 H locs q41 h => ?_)
      rcases q41 with ⟨rfl, rfl⟩
      refine lv_pop hx hb dX11_deaf_47 rfl ?_
      refine lv_iinc (v := 4) (lv' := [(2, .int 4), (0, .ref (g.2.1 0)), (1, .int 8)]) hx hb dX11_deaf_48 hl (k := 0) rfl (by decide) (by decide) rfl (fun ls hl => ?_)
      refine lv_goto (tgt := 35) hx hb dX11_deaf_51 (by decide) ?_
      refine lv_iload_n hx hb dX11_deaf_35 rfl (lv_at hl 0 rfl) ?_
      refine lv_iload_n hx hb dX11_deaf_36 rfl (lv_at hl 2 rfl) ?_
      refine lv_icmp_ge (tgt := 54) hx hb dX11_deaf_37 (by decide) (fun c => absurd c (by decide)) (fun _ => ?_)
      refine lv_aload_n hx hb dX11_deaf_40 rfl (lv_at hl 1 rfl) ?_
      refine x_getR E h (fr_vh_book g) rfl hwX11 (by decide) (by decide +kernel) dX11_deaf_41 ?_
      refine x_vi E h (na := 0) (As := []) (kX7_addDeaf_4 l g _  rfl) (oc_bk g) rfl gX11_deaf_X7_addDeaf rfl ⟨rfl, rfl⟩ rfl (by decide +kernel) ⟨Nat.le_of_ble_eq_true rfl, Nat.le_of_ble_eq_true rfl⟩ hl.1 rfl (Nat.le_of_ble_eq_true rfl) dX11_deaf_44 ⟨Nat.le_of_ble_eq_true rfl, Nat.le_of_ble_eq_true rfl⟩ (fun r42 s42 H locs q42 h => ?_)
      rcases q42 with ⟨rfl, rfl⟩
      refine lv_pop hx hb dX11_deaf_47 rfl ?_
      refine lv_iinc (v := 5) (lv' := [(2, .int 5), (0, .ref (g.2.1 0)), (1, .int 8)]) hx hb dX11_deaf_48 hl (k := 0) rfl (by decide) (by decide) rfl (fun ls hl => ?_)
      refine lv_goto (tgt := 35) hx hb dX11_deaf_51 (by decide) ?_
      refine lv_iload_n hx hb dX11_deaf_35 rfl (lv_at hl 0 rfl) ?_
      refine lv_iload_n hx hb dX11_deaf_36 rfl (lv_at hl 2 rfl) ?_
      refine lv_icmp_ge (tgt := 54) hx hb dX11_deaf_37 (by decide) (fun c => absurd c (by decide)) (fun _ => ?_)
      refine lv_aload_n hx hb dX11_deaf_40 rfl (lv_at hl 1 rfl) ?_
      refine x_getR E h (fr_vh_book g) rfl hwX11 (by decide) (by decide +kernel) dX11_deaf_41 ?_
      refine x_vi E h (na := 0) (As := []) (kX7_addDeaf_5 l g _  rfl) (oc_bk g) rfl gX11_deaf_X7_addDeaf rfl ⟨rfl, rfl⟩ rfl (by decide +kernel) ⟨Nat.le_of_ble_eq_true rfl, Nat.le_of_ble_eq_true rfl⟩ hl.1 rfl (Nat.le_of_ble_eq_true rfl) dX11_deaf_44 ⟨Nat.le_of_ble_eq_true rfl, Nat.le_of_ble_eq_true rfl⟩ (fun r43 s43 H locs q43 h => ?_)
      rcases q43 with ⟨rfl, rfl⟩
      refine lv_pop hx hb dX11_deaf_47 rfl ?_
      refine lv_iinc (v := 6) (lv' := [(2, .int 6), (0, .ref (g.2.1 0)), (1, .int 8)]) hx hb dX11_deaf_48 hl (k := 0) rfl (by decide) (by decide) rfl (fun ls hl => ?_)
      refine lv_goto (tgt := 35) hx hb dX11_deaf_51 (by decide) ?_
      refine lv_iload_n hx hb dX11_deaf_35 rfl (lv_at hl 0 rfl) ?_
      refine lv_iload_n hx hb dX11_deaf_36 rfl (lv_at hl 2 rfl) ?_
      refine lv_icmp_ge (tgt := 54) hx hb dX11_deaf_37 (by decide) (fun c => absurd c (by decide)) (fun _ => ?_)
      refine lv_aload_n hx hb dX11_deaf_40 rfl (lv_at hl 1 rfl) ?_
      refine x_getR E h (fr_vh_book g) rfl hwX11 (by decide) (by decide +kernel) dX11_deaf_41 ?_
      refine x_vi E h (na := 0) (As := []) (kX7_addDeaf_6 l g _  rfl) (oc_bk g) rfl gX11_deaf_X7_addDeaf rfl ⟨rfl, rfl⟩ rfl (by decide +kernel) ⟨Nat.le_of_ble_eq_true rfl, Nat.le_of_ble_eq_true rfl⟩ hl.1 rfl (Nat.le_of_ble_eq_true rfl) dX11_deaf_44 ⟨Nat.le_of_ble_eq_true rfl, Nat.le_of_ble_eq_true rfl⟩ (fun r44 s44 H locs q44 h => ?_)
      rcases q44 with ⟨rfl, rfl⟩
      refine lv_pop hx hb dX11_deaf_47 rfl ?_
      refine lv_iinc (v := 7) (lv' := [(2, .int 7), (0, .ref (g.2.1 0)), (1, .int 8)]) hx hb dX11_deaf_48 hl (k := 0) rfl (by decide) (by decide) rfl (fun ls hl => ?_)
      refine lv_goto (tgt := 35) hx hb dX11_deaf_51 (by decide) ?_
      refine lv_iload_n hx hb dX11_deaf_35 rfl (lv_at hl 0 rfl) ?_
      refine lv_iload_n hx hb dX11_deaf_36 rfl (lv_at hl 2 rfl) ?_
      refine lv_icmp_ge (tgt := 54) hx hb dX11_deaf_37 (by decide) (fun c => absurd c (by decide)) (fun _ => ?_)
      refine lv_aload_n hx hb dX11_deaf_40 rfl (lv_at hl 1 rfl) ?_
      refine x_getR E h (fr_vh_book g) rfl hwX11 (by decide) (by decide +kernel) dX11_deaf_41 ?_
      refine x_vi E h (na := 0) (As := []) (kX7_addDeaf_7 l g _  rfl) (oc_bk g) rfl gX11_deaf_X7_addDeaf rfl ⟨rfl, rfl⟩ rfl (by decide +kernel) ⟨Nat.le_of_ble_eq_true rfl, Nat.le_of_ble_eq_true rfl⟩ hl.1 rfl (Nat.le_of_ble_eq_true rfl) dX11_deaf_44 ⟨Nat.le_of_ble_eq_true rfl, Nat.le_of_ble_eq_true rfl⟩ (fun r45 s45 H locs q45 h => ?_)
      rcases q45 with ⟨rfl, rfl⟩
      refine lv_pop hx hb dX11_deaf_47 rfl ?_
      refine lv_iinc (v := 8) (lv' := [(2, .int 8), (0, .ref (g.2.1 0)), (1, .int 8)]) hx hb dX11_deaf_48 hl (k := 0) rfl (by decide) (by decide) rfl (fun ls hl => ?_)
      refine lv_goto (tgt := 35) hx hb dX11_deaf_51 (by decide) ?_
      refine lv_iload_n hx hb dX11_deaf_35 rfl (lv_at hl 0 rfl) ?_
      refine lv_iload_n hx hb dX11_deaf_36 rfl (lv_at hl 2 rfl) ?_
      refine lv_icmp_ge (tgt := 54) hx hb dX11_deaf_37 (by decide) (fun _ => ?_) (fun c => absurd (by decide) c)
      refine lv_aload_n hx hb dX11_deaf_54 rfl (lv_at hl 1 rfl) ?_
      refine x_getR E h (fr_vh_book g) rfl hwX11 (by decide) (by decide +kernel) dX11_deaf_55 ?_
      refine x_getIN E h (fi_bk_rows g) rfl hwX7 (by decide) (by decide +kernel) (v := 8) rfl dX11_deaf_58 ?_
      exact x_iret E h (Or.inl ⟨k1_0, rfl, (MO.refl σ)⟩) dX11_deaf_61
    · skip
      refine lv_aload_n hx hb dX11_deaf_12 rfl (lv_at hl 0 rfl) ?_
      refine x_getR E h (fr_vh_book g) rfl hwX11 (by decide) (by decide +kernel) dX11_deaf_13 ?_
      refine x_getIN E h (fi_bk_rows g) rfl hwX7 (by decide) (by decide +kernel) (v := 0) fI_2 dX11_deaf_16 ?_
      refine lv_iload_n hx hb dX11_deaf_19 rfl (lv_at hl 1 rfl) ?_
      refine lv_iadd hx hb dX11_deaf_20 ?_
      refine x_topI (v2 := 9) (by decide) ?_
      refine lv_bipush (v := 48) hx hb dX11_deaf_21 (by decide) ?_
      refine lv_icmp_le (tgt := 29) hx hb dX11_deaf_23 (by decide) (fun _ => ?_) (fun c => absurd (by decide) c)
      refine lv_aload_n hx hb dX11_deaf_29 rfl (lv_at hl 0 rfl) ?_
      refine x_vv E h (na := 0) (As := []) (kX11_nothingIsFound_0 l g _  ) (oc_vh g) rfl gX11_deaf_X11_nothingIsFound rfl ⟨rfl, rfl⟩ rfl (by decide +kernel) ⟨Nat.le_of_ble_eq_true rfl, Nat.le_of_ble_eq_true rfl⟩ hl.1 rfl (Nat.le_of_ble_eq_true rfl) dX11_deaf_30 ⟨Nat.le_of_ble_eq_true rfl, Nat.le_of_ble_eq_true rfl⟩ (fun s46 H locs q46 h => ?_)
      rcases q46 with rfl
      refine lv_iconst (v := 0) hx hb dX11_deaf_33 (by decide) ?_
      refine lv_istore_n (lv' := [(2, .int 0), (0, .ref (g.2.1 0)), (1, .int 9)]) hx hb dX11_deaf_34 rfl hl (by decide) rfl (fun ls hl => ?_)
      refine lv_iload_n hx hb dX11_deaf_35 rfl (lv_at hl 0 rfl) ?_
      refine lv_iload_n hx hb dX11_deaf_36 rfl (lv_at hl 2 rfl) ?_
      refine lv_icmp_ge (tgt := 54) hx hb dX11_deaf_37 (by decide) (fun c => absurd c (by decide)) (fun _ => ?_)
      refine lv_aload_n hx hb dX11_deaf_40 rfl (lv_at hl 1 rfl) ?_
      refine x_getR E h (fr_vh_book g) rfl hwX11 (by decide) (by decide +kernel) dX11_deaf_41 ?_
      refine x_vi E h (na := 0) (As := []) (kX7_addDeaf_0 l g _  fI_2) (oc_bk g) rfl gX11_deaf_X7_addDeaf rfl ⟨rfl, rfl⟩ rfl (by decide +kernel) ⟨Nat.le_of_ble_eq_true rfl, Nat.le_of_ble_eq_true rfl⟩ hl.1 rfl (Nat.le_of_ble_eq_true rfl) dX11_deaf_44 ⟨Nat.le_of_ble_eq_true rfl, Nat.le_of_ble_eq_true rfl⟩ (fun r47 s47 H locs q47 h => ?_)
      rcases q47 with ⟨rfl, rfl⟩
      refine lv_pop hx hb dX11_deaf_47 rfl ?_
      refine lv_iinc (v := 1) (lv' := [(2, .int 1), (0, .ref (g.2.1 0)), (1, .int 9)]) hx hb dX11_deaf_48 hl (k := 0) rfl (by decide) (by decide) rfl (fun ls hl => ?_)
      refine lv_goto (tgt := 35) hx hb dX11_deaf_51 (by decide) ?_
      refine lv_iload_n hx hb dX11_deaf_35 rfl (lv_at hl 0 rfl) ?_
      refine lv_iload_n hx hb dX11_deaf_36 rfl (lv_at hl 2 rfl) ?_
      refine lv_icmp_ge (tgt := 54) hx hb dX11_deaf_37 (by decide) (fun c => absurd c (by decide)) (fun _ => ?_)
      refine lv_aload_n hx hb dX11_deaf_40 rfl (lv_at hl 1 rfl) ?_
      refine x_getR E h (fr_vh_book g) rfl hwX11 (by decide) (by decide +kernel) dX11_deaf_41 ?_
      refine x_vi E h (na := 0) (As := []) (kX7_addDeaf_1 l g _  rfl) (oc_bk g) rfl gX11_deaf_X7_addDeaf rfl ⟨rfl, rfl⟩ rfl (by decide +kernel) ⟨Nat.le_of_ble_eq_true rfl, Nat.le_of_ble_eq_true rfl⟩ hl.1 rfl (Nat.le_of_ble_eq_true rfl) dX11_deaf_44 ⟨Nat.le_of_ble_eq_true rfl, Nat.le_of_ble_eq_true rfl⟩ (fun r48 s48 H locs q48 h => ?_)
      rcases q48 with ⟨rfl, rfl⟩
      refine lv_pop hx hb dX11_deaf_47 rfl ?_
      refine lv_iinc (v := 2) (lv' := [(2, .int 2), (0, .ref (g.2.1 0)), (1, .int 9)]) hx hb dX11_deaf_48 hl (k := 0) rfl (by decide) (by decide) rfl (fun ls hl => ?_)
      refine lv_goto (tgt := 35) hx hb dX11_deaf_51 (by decide) ?_
      refine lv_iload_n hx hb dX11_deaf_35 rfl (lv_at hl 0 rfl) ?_
      refine lv_iload_n hx hb dX11_deaf_36 rfl (lv_at hl 2 rfl) ?_
      refine lv_icmp_ge (tgt := 54) hx hb dX11_deaf_37 (by decide) (fun c => absurd c (by decide)) (fun _ => ?_)
      refine lv_aload_n hx hb dX11_deaf_40 rfl (lv_at hl 1 rfl) ?_
      refine x_getR E h (fr_vh_book g) rfl hwX11 (by decide) (by decide +kernel) dX11_deaf_41 ?_
      refine x_vi E h (na := 0) (As := []) (kX7_addDeaf_2 l g _  rfl) (oc_bk g) rfl gX11_deaf_X7_addDeaf rfl ⟨rfl, rfl⟩ rfl (by decide +kernel) ⟨Nat.le_of_ble_eq_true rfl, Nat.le_of_ble_eq_true rfl⟩ hl.1 rfl (Nat.le_of_ble_eq_true rfl) dX11_deaf_44 ⟨Nat.le_of_ble_eq_true rfl, Nat.le_of_ble_eq_true rfl⟩ (fun r49 s49 H locs q49 h => ?_)
      rcases q49 with ⟨rfl, rfl⟩
      refine lv_pop hx hb dX11_deaf_47 rfl ?_
      refine lv_iinc (v := 3) (lv' := [(2, .int 3), (0, .ref (g.2.1 0)), (1, .int 9)]) hx hb dX11_deaf_48 hl (k := 0) rfl (by decide) (by decide) rfl (fun ls hl => ?_)
      refine lv_goto (tgt := 35) hx hb dX11_deaf_51 (by decide) ?_
      refine lv_iload_n hx hb dX11_deaf_35 rfl (lv_at hl 0 rfl) ?_
      refine lv_iload_n hx hb dX11_deaf_36 rfl (lv_at hl 2 rfl) ?_
      refine lv_icmp_ge (tgt := 54) hx hb dX11_deaf_37 (by decide) (fun c => absurd c (by decide)) (fun _ => ?_)
      refine lv_aload_n hx hb dX11_deaf_40 rfl (lv_at hl 1 rfl) ?_
      refine x_getR E h (fr_vh_book g) rfl hwX11 (by decide) (by decide +kernel) dX11_deaf_41 ?_
      refine x_vi E h (na := 0) (As := []) (kX7_addDeaf_3 l g _  rfl) (oc_bk g) rfl gX11_deaf_X7_addDeaf rfl ⟨rfl, rfl⟩ rfl (by decide +kernel) ⟨Nat.le_of_ble_eq_true rfl, Nat.le_of_ble_eq_true rfl⟩ hl.1 rfl (Nat.le_of_ble_eq_true rfl) dX11_deaf_44 ⟨Nat.le_of_ble_eq_true rfl, Nat.le_of_ble_eq_true rfl⟩ (fun r50 s50 H locs q50 h => ?_)
      rcases q50 with ⟨rfl, rfl⟩
      refine lv_pop hx hb dX11_deaf_47 rfl ?_
      refine lv_iinc (v := 4) (lv' := [(2, .int 4), (0, .ref (g.2.1 0)), (1, .int 9)]) hx hb dX11_deaf_48 hl (k := 0) rfl (by decide) (by decide) rfl (fun ls hl => ?_)
      refine lv_goto (tgt := 35) hx hb dX11_deaf_51 (by decide) ?_
      refine lv_iload_n hx hb dX11_deaf_35 rfl (lv_at hl 0 rfl) ?_
      refine lv_iload_n hx hb dX11_deaf_36 rfl (lv_at hl 2 rfl) ?_
      refine lv_icmp_ge (tgt := 54) hx hb dX11_deaf_37 (by decide) (fun c => absurd c (by decide)) (fun _ => ?_)
      refine lv_aload_n hx hb dX11_deaf_40 rfl (lv_at hl 1 rfl) ?_
      refine x_getR E h (fr_vh_book g) rfl hwX11 (by decide) (by decide +kernel) dX11_deaf_41 ?_
      refine x_vi E h (na := 0) (As := []) (kX7_addDeaf_4 l g _  rfl) (oc_bk g) rfl gX11_deaf_X7_addDeaf rfl ⟨rfl, rfl⟩ rfl (by decide +kernel) ⟨Nat.le_of_ble_eq_true rfl, Nat.le_of_ble_eq_true rfl⟩ hl.1 rfl (Nat.le_of_ble_eq_true rfl) dX11_deaf_44 ⟨Nat.le_of_ble_eq_true rfl, Nat.le_of_ble_eq_true rfl⟩ (fun r51 s51 H locs q51 h => ?_)
      rcases q51 with ⟨rfl, rfl⟩
      refine lv_pop hx hb dX11_deaf_47 rfl ?_
      refine lv_iinc (v := 5) (lv' := [(2, .int 5), (0, .ref (g.2.1 0)), (1, .int 9)]) hx hb dX11_deaf_48 hl (k := 0) rfl (by decide) (by decide) rfl (fun ls hl => ?_)
      refine lv_goto (tgt := 35) hx hb dX11_deaf_51 (by decide) ?_
      refine lv_iload_n hx hb dX11_deaf_35 rfl (lv_at hl 0 rfl) ?_
      refine lv_iload_n hx hb dX11_deaf_36 rfl (lv_at hl 2 rfl) ?_
      refine lv_icmp_ge (tgt := 54) hx hb dX11_deaf_37 (by decide) (fun c => absurd c (by decide)) (fun _ => ?_)
      refine lv_aload_n hx hb dX11_deaf_40 rfl (lv_at hl 1 rfl) ?_
      refine x_getR E h (fr_vh_book g) rfl hwX11 (by decide) (by decide +kernel) dX11_deaf_41 ?_
      refine x_vi E h (na := 0) (As := []) (kX7_addDeaf_5 l g _  rfl) (oc_bk g) rfl gX11_deaf_X7_addDeaf rfl ⟨rfl, rfl⟩ rfl (by decide +kernel) ⟨Nat.le_of_ble_eq_true rfl, Nat.le_of_ble_eq_true rfl⟩ hl.1 rfl (Nat.le_of_ble_eq_true rfl) dX11_deaf_44 ⟨Nat.le_of_ble_eq_true rfl, Nat.le_of_ble_eq_true rfl⟩ (fun r52 s52 H locs q52 h => ?_)
      rcases q52 with ⟨rfl, rfl⟩
      refine lv_pop hx hb dX11_deaf_47 rfl ?_
      refine lv_iinc (v := 6) (lv' := [(2, .int 6), (0, .ref (g.2.1 0)), (1, .int 9)]) hx hb dX11_deaf_48 hl (k := 0) rfl (by decide) (by decide) rfl (fun ls hl => ?_)
      refine lv_goto (tgt := 35) hx hb dX11_deaf_51 (by decide) ?_
      refine lv_iload_n hx hb dX11_deaf_35 rfl (lv_at hl 0 rfl) ?_
      refine lv_iload_n hx hb dX11_deaf_36 rfl (lv_at hl 2 rfl) ?_
      refine lv_icmp_ge (tgt := 54) hx hb dX11_deaf_37 (by decide) (fun c => absurd c (by decide)) (fun _ => ?_)
      refine lv_aload_n hx hb dX11_deaf_40 rfl (lv_at hl 1 rfl) ?_
      refine x_getR E h (fr_vh_book g) rfl hwX11 (by decide) (by decide +kernel) dX11_deaf_41 ?_
      refine x_vi E h (na := 0) (As := []) (kX7_addDeaf_6 l g _  rfl) (oc_bk g) rfl gX11_deaf_X7_addDeaf rfl ⟨rfl, rfl⟩ rfl (by decide +kernel) ⟨Nat.le_of_ble_eq_true rfl, Nat.le_of_ble_eq_true rfl⟩ hl.1 rfl (Nat.le_of_ble_eq_true rfl) dX11_deaf_44 ⟨Nat.le_of_ble_eq_true rfl, Nat.le_of_ble_eq_true rfl⟩ (fun r53 s53 H locs q53 h => ?_)
      rcases q53 with ⟨rfl, rfl⟩
      refine lv_pop hx hb dX11_deaf_47 rfl ?_
      refine lv_iinc (v := 7) (lv' := [(2, .int 7), (0, .ref (g.2.1 0)), (1, .int 9)]) hx hb dX11_deaf_48 hl (k := 0) rfl (by decide) (by decide) rfl (fun ls hl => ?_)
      refine lv_goto (tgt := 35) hx hb dX11_deaf_51 (by decide) ?_
      refine lv_iload_n hx hb dX11_deaf_35 rfl (lv_at hl 0 rfl) ?_
      refine lv_iload_n hx hb dX11_deaf_36 rfl (lv_at hl 2 rfl) ?_
      refine lv_icmp_ge (tgt := 54) hx hb dX11_deaf_37 (by decide) (fun c => absurd c (by decide)) (fun _ => ?_)
      refine lv_aload_n hx hb dX11_deaf_40 rfl (lv_at hl 1 rfl) ?_
      refine x_getR E h (fr_vh_book g) rfl hwX11 (by decide) (by decide +kernel) dX11_deaf_41 ?_
      refine x_vi E h (na := 0) (As := []) (kX7_addDeaf_7 l g _  rfl) (oc_bk g) rfl gX11_deaf_X7_addDeaf rfl ⟨rfl, rfl⟩ rfl (by decide +kernel) ⟨Nat.le_of_ble_eq_true rfl, Nat.le_of_ble_eq_true rfl⟩ hl.1 rfl (Nat.le_of_ble_eq_true rfl) dX11_deaf_44 ⟨Nat.le_of_ble_eq_true rfl, Nat.le_of_ble_eq_true rfl⟩ (fun r54 s54 H locs q54 h => ?_)
      rcases q54 with ⟨rfl, rfl⟩
      refine lv_pop hx hb dX11_deaf_47 rfl ?_
      refine lv_iinc (v := 8) (lv' := [(2, .int 8), (0, .ref (g.2.1 0)), (1, .int 9)]) hx hb dX11_deaf_48 hl (k := 0) rfl (by decide) (by decide) rfl (fun ls hl => ?_)
      refine lv_goto (tgt := 35) hx hb dX11_deaf_51 (by decide) ?_
      refine lv_iload_n hx hb dX11_deaf_35 rfl (lv_at hl 0 rfl) ?_
      refine lv_iload_n hx hb dX11_deaf_36 rfl (lv_at hl 2 rfl) ?_
      refine lv_icmp_ge (tgt := 54) hx hb dX11_deaf_37 (by decide) (fun c => absurd c (by decide)) (fun _ => ?_)
      refine lv_aload_n hx hb dX11_deaf_40 rfl (lv_at hl 1 rfl) ?_
      refine x_getR E h (fr_vh_book g) rfl hwX11 (by decide) (by decide +kernel) dX11_deaf_41 ?_
      refine x_vi E h (na := 0) (As := []) (kX7_addDeaf_8 l g _  rfl) (oc_bk g) rfl gX11_deaf_X7_addDeaf rfl ⟨rfl, rfl⟩ rfl (by decide +kernel) ⟨Nat.le_of_ble_eq_true rfl, Nat.le_of_ble_eq_true rfl⟩ hl.1 rfl (Nat.le_of_ble_eq_true rfl) dX11_deaf_44 ⟨Nat.le_of_ble_eq_true rfl, Nat.le_of_ble_eq_true rfl⟩ (fun r55 s55 H locs q55 h => ?_)
      rcases q55 with ⟨rfl, rfl⟩
      refine lv_pop hx hb dX11_deaf_47 rfl ?_
      refine lv_iinc (v := 9) (lv' := [(2, .int 9), (0, .ref (g.2.1 0)), (1, .int 9)]) hx hb dX11_deaf_48 hl (k := 0) rfl (by decide) (by decide) rfl (fun ls hl => ?_)
      refine lv_goto (tgt := 35) hx hb dX11_deaf_51 (by decide) ?_
      refine lv_iload_n hx hb dX11_deaf_35 rfl (lv_at hl 0 rfl) ?_
      refine lv_iload_n hx hb dX11_deaf_36 rfl (lv_at hl 2 rfl) ?_
      refine lv_icmp_ge (tgt := 54) hx hb dX11_deaf_37 (by decide) (fun _ => ?_) (fun c => absurd (by decide) c)
      refine lv_aload_n hx hb dX11_deaf_54 rfl (lv_at hl 1 rfl) ?_
      refine x_getR E h (fr_vh_book g) rfl hwX11 (by decide) (by decide +kernel) dX11_deaf_55 ?_
      refine x_getIN E h (fi_bk_rows g) rfl hwX7 (by decide) (by decide +kernel) (v := 9) rfl dX11_deaf_58 ?_
      exact x_iret E h (Or.inl ⟨k1_0, rfl, (MO.refl σ)⟩) dX11_deaf_61
  · skip
    refine lv_if_ne (tgt := 12) hx hb dX11_deaf_7 (by decide) (fun c => absurd (by decide) c) (fun _ => ?_)
    refine lv_iconst (v := (-1)) hx hb dX11_deaf_10 (by decide) ?_
    exact x_iret E h (Or.inr (⟨k1_0, rfl, (MO.refl σ)⟩)) dX11_deaf_11
set_option maxHeartbeats 4000000 in
set_option maxRecDepth 100000 in
theorem kX11_areRows_0 (l : Launch) (g : CX) (σ : ST) (p1 : Int32) (p2 : Int32) (fI_2 : σ.1 2 = 0) : XM l g yX11_areRows wsX11_areRows { frames := 0, cells := 0, slots := 0, locals := 0 } [.ref (g.2.1 0), .int p1, .int p2] σ (XQi g (fun r σ' => 0 = r ∧ σ = σ')) := by
  refine x_met (own := RX11) (cc := cX11_areRows) (maxL := 3) (ret := (some .boolean)) (lv := [(0, .ref (g.2.1 0)), (1, .int p1), (2, .int p2)]) (by decide) rfl rfl (Nat.le_of_ble_eq_true rfl) rfl ?_
  intro p e s m args below meth c ls E h hl
  have hx := E.1
  have hb := E.2.1
  have hown := E.2.2.2.1
  have hts := E.2.2.2.2.1
  have hwX11 : ∀ w ∈ wsX110, w ∈ wsX11_areRows := by decide +kernel
  have hwX7 : ∀ w ∈ wsX70, w ∈ wsX11_areRows := by decide +kernel
  refine lv_iload_n hx hb dX11_areRows_0 rfl (lv_at hl 1 rfl) ?_
  refine lv_if_lt (tgt := 24) hx hb dX11_areRows_1 (by decide) (fun c1_1 => ?_) (fun c1_1 => ?_)
  · skip
    refine lv_iconst (v := 0) hx hb dX11_areRows_24 (by decide) ?_
    exact x_zret E h rfl ⟨rfl, rfl⟩ dX11_areRows_25
  · skip
    refine lv_iload_n hx hb dX11_areRows_4 rfl (lv_at hl 1 rfl) ?_
    refine lv_iload_n hx hb dX11_areRows_5 rfl (lv_at hl 2 rfl) ?_
    refine lv_icmp_gt (tgt := 24) hx hb dX11_areRows_6 (by decide) (fun c6_2 => ?_) (fun c6_2 => ?_)
    · skip
      refine lv_iconst (v := 0) hx hb dX11_areRows_24 (by decide) ?_
      exact x_zret E h rfl ⟨rfl, rfl⟩ dX11_areRows_25
    · skip
      refine lv_iload_n hx hb dX11_areRows_9 rfl (lv_at hl 2 rfl) ?_
      refine lv_aload_n hx hb dX11_areRows_10 rfl (lv_at hl 0 rfl) ?_
      refine x_getR E h (fr_vh_book g) rfl hwX11 (by decide) (by decide +kernel) dX11_areRows_11 ?_
      refine x_getIN E h (fi_bk_rows g) rfl hwX7 (by decide) (by decide +kernel) (v := 0) fI_2 dX11_areRows_14 ?_
      refine lv_icmp_ge (tgt := 24) hx hb dX11_areRows_17 (by decide) (fun _ => ?_) (fun c => absurd (x_le3 c1_1 c6_2) c)
      refine lv_iconst (v := 0) hx hb dX11_areRows_24 (by decide) ?_
      exact x_zret E h rfl ⟨rfl, rfl⟩ dX11_areRows_25
set_option maxHeartbeats 4000000 in
set_option maxRecDepth 100000 in
theorem kX11_out_0 (l : Launch) (g : CX) (σ : ST) (p1 : Int32) (p2 : Int32) (p3 : Int32) (fI_2 : σ.1 2 = 0) : XM l g yX11_out wsX11_out { frames := 1, cells := 0, slots := 0, locals := 22 } [.ref (g.2.1 0), .int p1, .int p2, .int p3] σ (XQi g (fun r σ' => ((-1) = r ∧ MO σ' σ))) := by
  refine x_met (own := RX11) (cc := cX11_out) (maxL := 5) (ret := (some .int)) (lv := [(0, .ref (g.2.1 0)), (1, .int p1), (2, .int p2), (3, .int p3)]) (by decide) rfl rfl (Nat.le_of_ble_eq_true rfl) rfl ?_
  intro p e s m args below meth c ls E h hl
  have hx := E.1
  have hb := E.2.1
  have hown := E.2.2.2.1
  have hts := E.2.2.2.2.1
  refine lv_aload_n hx hb dX11_out_0 rfl (lv_at hl 0 rfl) ?_
  refine lv_iload_n hx hb dX11_out_1 rfl (lv_at hl 1 rfl) ?_
  refine lv_iload_n hx hb dX11_out_2 rfl (lv_at hl 2 rfl) ?_
  refine x_vi E h (na := 2) (As := [.int p1, .int p2]) (kX11_areRows_0 l g _ p1 p2 fI_2) (oc_vh g) rfl gX11_out_X11_areRows rfl ⟨rfl, rfl⟩ rfl (by decide +kernel) ⟨Nat.le_of_ble_eq_true rfl, Nat.le_of_ble_eq_true rfl⟩ hl.1 rfl (Nat.le_of_ble_eq_true rfl) dX11_out_3 ⟨Nat.le_of_ble_eq_true rfl, Nat.le_of_ble_eq_true rfl⟩ (fun r1 s1 H locs q1 h => ?_)
  rcases q1 with ⟨rfl, rfl⟩
  refine lv_if_eq (tgt := 18) hx hb dX11_out_6 (by decide) (fun _ => ?_) (fun c => absurd (by decide) c)
  refine lv_iconst (v := (-1)) hx hb dX11_out_18 (by decide) ?_
  exact x_iret E h ⟨rfl, (MO.refl σ)⟩ dX11_out_19
set_option maxHeartbeats 4000000 in
set_option maxRecDepth 100000 in
theorem kX11_hush_0 (l : Launch) (g : CX) (σ : ST) (fI_2 : σ.1 2 = 0) : XM l g yX11_hush wsX11_hush { frames := 1, cells := 0, slots := 0, locals := 20 } [.ref (g.2.1 0)] σ (XQi g (fun r σ' => (0 = r ∧ MO σ' σ))) := by
  refine x_met (own := RX11) (cc := cX11_hush) (maxL := 2) (ret := (some .int)) (lv := [(0, .ref (g.2.1 0))]) (by decide) rfl rfl (Nat.le_of_ble_eq_true rfl) rfl ?_
  intro p e s m args below meth c ls E h hl
  have hx := E.1
  have hb := E.2.1
  have hown := E.2.2.2.1
  have hts := E.2.2.2.2.1
  have hwX10 : ∀ w ∈ wsX100, w ∈ wsX11_hush := by decide +kernel
  have hwX11 : ∀ w ∈ wsX110, w ∈ wsX11_hush := by decide +kernel
  have hwX7 : ∀ w ∈ wsX70, w ∈ wsX11_hush := by decide +kernel
  refine lv_aload_n hx hb dX11_hush_0 rfl (lv_at hl 0 rfl) ?_
  refine x_getR E h (fr_vh_book g) rfl hwX11 (by decide) (by decide +kernel) dX11_hush_1 ?_
  refine x_getIN E h (fi_bk_rows g) rfl hwX7 (by decide) (by decide +kernel) (v := 0) fI_2 dX11_hush_4 ?_
  refine lv_istore_n (lv' := [(1, .int 0), (0, .ref (g.2.1 0))]) hx hb dX11_hush_7 rfl hl (by decide) rfl (fun ls hl => ?_)
  refine lv_aload_n hx hb dX11_hush_8 rfl (lv_at hl 1 rfl) ?_
  refine x_getR E h (fr_vh_book g) rfl hwX11 (by decide) (by decide +kernel) dX11_hush_9 ?_
  refine lv_iconst (v := 0) hx hb dX11_hush_12 (by decide) ?_
  refine x_putIN E h (ty := .int) (v := 0) (fi_bk_rows g) rfl hwX7 tyX7_ok nmX7 (by decide) (by decide +kernel) (by decide +kernel) (by decide +kernel) rfl rfl dX11_hush_13 (fun H locs h => ?_)
  refine lv_aload_n hx hb dX11_hush_16 rfl (lv_at hl 1 rfl) ?_
  refine x_getR E h (fr_vh_wordBook g) rfl hwX11 (by decide) (by decide +kernel) dX11_hush_17 ?_
  refine lv_iconst (v := 0) hx hb dX11_hush_20 (by decide) ?_
  refine x_putIN E h (ty := .int) (v := 0) (fi_wb_words g) rfl hwX10 tyX10_ok nmX10 (by decide) (by decide +kernel) (by decide +kernel) (by decide +kernel) rfl rfl dX11_hush_21 (fun H locs h => ?_)
  refine lv_aload_n hx hb dX11_hush_24 rfl (lv_at hl 1 rfl) ?_
  refine lv_iconst (v := (-1)) hx hb dX11_hush_25 (by decide) ?_
  refine x_putI E h (ty := .int) (v := (-1)) (fi_vh_shownRows g) rfl hwX11 tyX11_ok nmX11 (by decide) (by decide +kernel) (by decide +kernel) (by decide +kernel) rfl rfl dX11_hush_26 (fun H locs h => ?_)
  refine lv_aload_n hx hb dX11_hush_29 rfl (lv_at hl 1 rfl) ?_
  refine x_vv E h (na := 0) (As := []) (kX11_nothingIsFound_0 l g _  ) (oc_vh g) rfl gX11_hush_X11_nothingIsFound rfl ⟨rfl, rfl⟩ rfl (by decide +kernel) ⟨Nat.le_of_ble_eq_true rfl, Nat.le_of_ble_eq_true rfl⟩ hl.1 rfl (Nat.le_of_ble_eq_true rfl) dX11_hush_30 ⟨Nat.le_of_ble_eq_true rfl, Nat.le_of_ble_eq_true rfl⟩ (fun s1 H locs q1 h => ?_)
  rcases q1 with rfl
  refine lv_iload_n hx hb dX11_hush_33 rfl (lv_at hl 0 rfl) ?_
  exact x_iret E h ⟨rfl, (MO.refl σ)⟩ dX11_hush_34
