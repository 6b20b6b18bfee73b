set_option maxHeartbeats 4000000 in
set_option maxRecDepth 100000 in
theorem aX12_due_0 (l : Launch) (g : CX) (σ : ST) (hI : INV σ) (F25 : Nat) (eF25 : σ.1 25 = nI F25) (F26 : Nat) (eF26 : σ.1 26 = nI F26) (eF30 : σ.1 30 = (-9)) (hh0 : F25 ≤ 200) (hh1 : F26 ≤ 200) : XM l g yX12_due wsX12_due { frames := 0, cells := 0, slots := 0, locals := 0 } [.ref (g.2.1 79), .int 0] σ (XQi g (fun r σ' => fX12_due_0 0 σ = (r, σ') ∧ ((∃ s : Nat, σ'.1 30 = nI s ∧ s ≤ 200)) ∧ INV σ' ∧ Fr [(30, 30)] [] σ σ')) := by
  refine x_met (own := RX12) (cc := cX12_due) (maxL := 3) (ret := (some .int)) (lv := [(0, .ref (g.2.1 79)), (1, .int 0)]) (by decide) rfl rfl (Nat.le_of_ble_eq_true rfl) rfl ?_
  intro p e s m args below meth c ls E h hl
  have hx := E.1
  have hb := E.2.1
  have hown := E.2.2.2.1
  have hts := E.2.2.2.2.1
  have hF : Fr [(30, 30)] [] σ σ := Fr.refl σ
  obtain ⟨R, hR0⟩ : ∃ R, fX12_due_0 0 σ = R := ⟨_, rfl⟩
  have hR : fX12_due_0b0 0 σ = R := hR0
  have hwX12 : ∀ w ∈ wsX120, w ∈ wsX12_due := by decide +kernel
  generalize hPQ : XQi g (fun r σ' => fX12_due_0 0 σ = (r, σ') ∧ ((∃ s : Nat, σ'.1 30 = nI s ∧ s ≤ 200)) ∧ INV σ' ∧ Fr [(30, 30)] [] σ σ') = PQz
  refine lv_aload_n hx hb dX12_due_0 rfl (lv_at hl 0 rfl) ?_
  obtain ⟨x1, e1⟩ : ∃ x, σ.1 29 = x := ⟨_, rfl⟩
  refine x_getI E h (fi_mo_value g) rfl hwX12 (by decide) (by decide +kernel) (v := x1) e1 dX12_due_1 ?_
  replace hR := bd_to hR e1
  refine lv_istore_n (lv' := [(2, .int x1), (0, .ref (g.2.1 79)), (1, .int 0)]) hx hb dX12_due_4 rfl hl (by decide) rfl (fun ls hl => ?_)
  refine lv_aload_n hx hb dX12_due_5 rfl (lv_at hl 1 rfl) ?_
  refine x_getI E h (fi_mo_fault g) rfl hwX12 (by decide) (by decide +kernel) (v := (-9)) eF30 dX12_due_6 ?_
  replace hR := bd_to hR eF30
  refine lv_bipush (v := (-9)) hx hb dX12_due_9 (by decide) ?_
  replace hR := it_t hR (by decide)
  refine lv_icmp_ne (tgt := 33) hx hb dX12_due_11 (by decide) (fun c => absurd (by decide) c) (fun _ => ?_)
  refine lv_iload_n hx hb dX12_due_14 rfl (lv_at hl 2 rfl) ?_
  replace hR := it_t hR (by decide)
  refine lv_if_eq (tgt := 25) hx hb dX12_due_15 (by decide) (fun _ => ?_) (fun c => absurd (by decide) c)
  refine lv_aload_n hx hb dX12_due_25 rfl (lv_at hl 1 rfl) ?_
  refine lv_aload_n hx hb dX12_due_26 rfl (lv_at hl 1 rfl) ?_
  obtain ⟨n2, b2, e2⟩ := hI.1 27 200 rfl
  refine x_getI E h (fi_mo_start g) rfl hwX12 (by decide) (by decide +kernel) (v := nI n2) e2 dX12_due_27 ?_
  replace hR := bd_to hR e2
  refine y_putI E h hI hF (ty := .int) (v := nI n2) (fi_mo_fault g) rfl hwX12 tyX12_ok nmX12 (by decide) (by decide +kernel) (by decide +kernel) (by decide +kernel) rfl rfl (ba_none rfl) rfl dX12_due_30 (fun s3 H locs q3 hI3 hF3 h => ?_)
  replace hR := bd_to hR q3.symm
  have e4 : s3.1 25 = nI F25 := (congrArg (fun t : ST => t.1 25) q3).trans eF25
  have e5 : s3.1 26 = nI F26 := (congrArg (fun t : ST => t.1 26) q3).trans eF26
  have e6 : s3.1 29 = x1 := (congrArg (fun t : ST => t.1 29) q3).trans e1
  have e7 : s3.1 27 = nI n2 := (congrArg (fun t : ST => t.1 27) q3).trans e2
  have e8 : s3.1 30 = nI n2 := congrArg (fun t : ST => t.1 30) q3
  refine lv_iload_n hx hb dX12_due_33 rfl (lv_at hl 0 rfl) ?_
  subst hPQ
  exact x_iret E h ⟨hR0.trans hR.symm, (⟨n2, e8, (by omega)⟩), hI3, hF3⟩ dX12_due_34
set_option maxHeartbeats 4000000 in
set_option maxRecDepth 100000 in
theorem aX12_due_1 (l : Launch) (g : CX) (σ : ST) (hI : INV σ) (F25 : Nat) (eF25 : σ.1 25 = nI F25) (F26 : Nat) (eF26 : σ.1 26 = nI F26) (F29 : Nat) (eF29 : σ.1 29 = nI F29) (eF30 : σ.1 30 = (-9)) (hh0 : F25 ≤ 200) (hh1 : F26 ≤ 200) : XM l g yX12_due wsX12_due { frames := 0, cells := 0, slots := 0, locals := 0 } [.ref (g.2.1 79), .int 0] σ (XQi g (fun r σ' => fX12_due_0 0 σ = (r, σ') ∧ ((∃ s n : Nat, σ'.1 30 = nI s ∧ s ≤ 200 ∧ n = F29 ∧ r = nI n)) ∧ INV σ' ∧ Fr [(30, 30)] [] σ σ')) := by
  refine x_met (own := RX12) (cc := cX12_due) (maxL := 3) (ret := (some .int)) (lv := [(0, .ref (g.2.1 79)), (1, .int 0)]) (by decide) rfl rfl (Nat.le_of_ble_eq_true rfl) rfl ?_
  intro p e s m args below meth c ls E h hl
  have hx := E.1
  have hb := E.2.1
  have hown := E.2.2.2.1
  have hts := E.2.2.2.2.1
  have hF : Fr [(30, 30)] [] σ σ := Fr.refl σ
  obtain ⟨R, hR0⟩ : ∃ R, fX12_due_0 0 σ = R := ⟨_, rfl⟩
  have hR : fX12_due_0b0 0 σ = R := hR0
  have hwX12 : ∀ w ∈ wsX120, w ∈ wsX12_due := by decide +kernel
  generalize hPQ : XQi g (fun r σ' => fX12_due_0 0 σ = (r, σ') ∧ ((∃ s n : Nat, σ'.1 30 = nI s ∧ s ≤ 200 ∧ n = F29 ∧ r = nI n)) ∧ INV σ' ∧ Fr [(30, 30)] [] σ σ') = PQz
  refine lv_aload_n hx hb dX12_due_0 rfl (lv_at hl 0 rfl) ?_
  refine x_getI E h (fi_mo_value g) rfl hwX12 (by decide) (by decide +kernel) (v := nI F29) eF29 dX12_due_1 ?_
  replace hR := bd_to hR eF29
  refine lv_istore_n (lv' := [(2, .int (nI F29)), (0, .ref (g.2.1 79)), (1, .int 0)]) hx hb dX12_due_4 rfl hl (by decide) rfl (fun ls hl => ?_)
  refine lv_aload_n hx hb dX12_due_5 rfl (lv_at hl 1 rfl) ?_
  refine x_getI E h (fi_mo_fault g) rfl hwX12 (by decide) (by decide +kernel) (v := (-9)) eF30 dX12_due_6 ?_
  replace hR := bd_to hR eF30
  refine lv_bipush (v := (-9)) hx hb dX12_due_9 (by decide) ?_
  replace hR := it_t hR (by decide)
  refine lv_icmp_ne (tgt := 33) hx hb dX12_due_11 (by decide) (fun c => absurd (by decide) c) (fun _ => ?_)
  refine lv_iload_n hx hb dX12_due_14 rfl (lv_at hl 2 rfl) ?_
  replace hR := it_t hR (by decide)
  refine lv_if_eq (tgt := 25) hx hb dX12_due_15 (by decide) (fun _ => ?_) (fun c => absurd (by decide) c)
  refine lv_aload_n hx hb dX12_due_25 rfl (lv_at hl 1 rfl) ?_
  refine lv_aload_n hx hb dX12_due_26 rfl (lv_at hl 1 rfl) ?_
  obtain ⟨n1, b1, e1⟩ := hI.1 27 200 rfl
  refine x_getI E h (fi_mo_start g) rfl hwX12 (by decide) (by decide +kernel) (v := nI n1) e1 dX12_due_27 ?_
  replace hR := bd_to hR e1
  refine y_putI E h hI hF (ty := .int) (v := nI n1) (fi_mo_fault g) rfl hwX12 tyX12_ok nmX12 (by decide) (by decide +kernel) (by decide +kernel) (by decide +kernel) rfl rfl (ba_none rfl) rfl dX12_due_30 (fun s2 H locs q2 hI2 hF2 h => ?_)
  replace hR := bd_to hR q2.symm
  have e3 : s2.1 25 = nI F25 := (congrArg (fun t : ST => t.1 25) q2).trans eF25
  have e4 : s2.1 26 = nI F26 := (congrArg (fun t : ST => t.1 26) q2).trans eF26
  have e5 : s2.1 29 = nI F29 := (congrArg (fun t : ST => t.1 29) q2).trans eF29
  have e6 : s2.1 27 = nI n1 := (congrArg (fun t : ST => t.1 27) q2).trans e1
  have e7 : s2.1 30 = nI n1 := congrArg (fun t : ST => t.1 30) q2
  refine lv_iload_n hx hb dX12_due_33 rfl (lv_at hl 0 rfl) ?_
  subst hPQ
  exact x_iret E h ⟨hR0.trans hR.symm, (⟨n1, F29, e7, (by omega), (by omega), rfl⟩), hI2, hF2⟩ dX12_due_34
set_option maxHeartbeats 4000000 in
set_option maxRecDepth 100000 in
theorem aX12_due_2 (l : Launch) (g : CX) (σ : ST) (hI : INV σ) (F25 : Nat) (eF25 : σ.1 25 = nI F25) (F26 : Nat) (eF26 : σ.1 26 = nI F26) (F29 : Nat) (eF29 : σ.1 29 = nI F29) (eF30 : σ.1 30 = (-9)) (hh0 : F25 ≤ 200) (hh1 : F26 ≤ 200) : XM l g yX12_due wsX12_due { frames := 4, cells := 0, slots := 0, locals := 92 } [.ref (g.2.1 79), .int 1] σ (XQi g (fun r σ' => fX12_due_0 1 σ = (r, σ') ∧ ((∃ a n : Nat, σ'.1 26 = nI a ∧ F26 ≤ a ∧ a ≤ 200 ∧ NX σ' ∧ (σ'.1 28 = 3 → F26 < a) ∧ n = F29 ∧ r = nI n)) ∧ INV σ' ∧ Fr [(26, 29)] [] σ σ')) := by
  refine x_met (own := RX12) (cc := cX12_due) (maxL := 3) (ret := (some .int)) (lv := [(0, .ref (g.2.1 79)), (1, .int 1)]) (by decide) rfl rfl (Nat.le_of_ble_eq_true rfl) rfl ?_
  intro p e s m args below meth c ls E h hl
  have hx := E.1
  have hb := E.2.1
  have hown := E.2.2.2.1
  have hts := E.2.2.2.2.1
  have hF : Fr [(26, 29)] [] σ σ := Fr.refl σ
  obtain ⟨R, hR0⟩ : ∃ R, fX12_due_0 1 σ = R := ⟨_, rfl⟩
  have hR : fX12_due_0b0 1 σ = R := hR0
  have hwX12 : ∀ w ∈ wsX120, w ∈ wsX12_due := by decide +kernel
  generalize hPQ : XQi g (fun r σ' => fX12_due_0 1 σ = (r, σ') ∧ ((∃ a n : Nat, σ'.1 26 = nI a ∧ F26 ≤ a ∧ a ≤ 200 ∧ NX σ' ∧ (σ'.1 28 = 3 → F26 < a) ∧ n = F29 ∧ r = nI n)) ∧ INV σ' ∧ Fr [(26, 29)] [] σ σ') = PQz
  refine lv_aload_n hx hb dX12_due_0 rfl (lv_at hl 0 rfl) ?_
  refine x_getI E h (fi_mo_value g) rfl hwX12 (by decide) (by decide +kernel) (v := nI F29) eF29 dX12_due_1 ?_
  replace hR := bd_to hR eF29
  refine lv_istore_n (lv' := [(2, .int (nI F29)), (0, .ref (g.2.1 79)), (1, .int 1)]) hx hb dX12_due_4 rfl hl (by decide) rfl (fun ls hl => ?_)
  refine lv_aload_n hx hb dX12_due_5 rfl (lv_at hl 1 rfl) ?_
  refine x_getI E h (fi_mo_fault g) rfl hwX12 (by decide) (by decide +kernel) (v := (-9)) eF30 dX12_due_6 ?_
  replace hR := bd_to hR eF30
  refine lv_bipush (v := (-9)) hx hb dX12_due_9 (by decide) ?_
  replace hR := it_t hR (by decide)
  refine lv_icmp_ne (tgt := 33) hx hb dX12_due_11 (by decide) (fun c => absurd (by decide) c) (fun _ => ?_)
  refine lv_iload_n hx hb dX12_due_14 rfl (lv_at hl 2 rfl) ?_
  replace hR := it_f hR (by decide)
  refine lv_if_eq (tgt := 25) hx hb dX12_due_15 (by decide) (fun c => absurd c (by decide)) (fun _ => ?_)
  refine lv_aload_n hx hb dX12_due_18 rfl (lv_at hl 1 rfl) ?_
  refine x_vv E h (na := 0) (As := []) (aX12_next_0 l g σ hI F25 eF25 F26 eF26 (by omega) (by omega)) (oc_mo g) rfl gX12_due_X12_next rfl ⟨rfl, rfl⟩ rfl (by decide +kernel) ⟨Nat.le_of_ble_eq_true rfl, Nat.le_of_ble_eq_true rfl⟩ hl.1 rfl (Nat.le_of_ble_eq_true rfl) dX12_due_19 ⟨Nat.le_of_ble_eq_true rfl, Nat.le_of_ble_eq_true rfl⟩ (fun s1 H locs q1 h => ?_)
  obtain ⟨x1, d1, hI1, f1⟩ := q1
  replace hR := bd_to hR x1
  have hF1 := hF.call f1 (I := [(26, 29)]) (J := []) rfl rfl
  have e2 : s1.1 25 = nI F25 := ((f1.1 25 rfl)).trans eF25
  have e3 : s1.1 30 = (-9) := ((f1.1 30 rfl)).trans eF30
  rcases d1 with ⟨m1_0a, u1_0_0, u1_0_1, u1_0_2, u1_0_3, u1_0_4⟩
  refine lv_goto (tgt := 33) hx hb dX12_due_22 (by decide) ?_
  refine lv_iload_n hx hb dX12_due_33 rfl (lv_at hl 0 rfl) ?_
  subst hPQ
  exact x_iret E h ⟨hR0.trans hR.symm, (⟨m1_0a, F29, u1_0_0, (by omega), (by omega), u1_0_3, u1_0_4, (by omega), rfl⟩), hI1, hF1⟩ dX12_due_34
set_option maxHeartbeats 4000000 in
set_option maxRecDepth 100000 in
theorem aX12_due_3 (l : Launch) (g : CX) (σ : ST) (hI : INV σ) (F25 : Nat) (eF25 : σ.1 25 = nI F25) (F26 : Nat) (eF26 : σ.1 26 = nI F26) (F30 : Nat) (eF30 : σ.1 30 = nI F30) (hh0 : F25 ≤ 200) (hh1 : F26 ≤ 200) (hh2 : F30 ≤ 200) : XM l g yX12_due wsX12_due { frames := 0, cells := 0, slots := 0, locals := 0 } [.ref (g.2.1 79), .int 0] σ (XQi g (fun r σ' => fX12_due_0 0 σ = (r, σ') ∧ INV σ' ∧ Fr [] [] σ σ')) := by
  refine x_met (own := RX12) (cc := cX12_due) (maxL := 3) (ret := (some .int)) (lv := [(0, .ref (g.2.1 79)), (1, .int 0)]) (by decide) rfl rfl (Nat.le_of_ble_eq_true rfl) rfl ?_
  intro p e s m args below meth c ls E h hl
  have hx := E.1
  have hb := E.2.1
  have hown := E.2.2.2.1
  have hts := E.2.2.2.2.1
  have hF : Fr [] [] σ σ := Fr.refl σ
  obtain ⟨R, hR0⟩ : ∃ R, fX12_due_0 0 σ = R := ⟨_, rfl⟩
  have hR : fX12_due_0b0 0 σ = R := hR0
  have hwX12 : ∀ w ∈ wsX120, w ∈ wsX12_due := by decide +kernel
  generalize hPQ : XQi g (fun r σ' => fX12_due_0 0 σ = (r, σ') ∧ INV σ' ∧ Fr [] [] σ σ') = PQz
  refine lv_aload_n hx hb dX12_due_0 rfl (lv_at hl 0 rfl) ?_
  obtain ⟨x1, e1⟩ : ∃ x, σ.1 29 = x := ⟨_, rfl⟩
  refine x_getI E h (fi_mo_value g) rfl hwX12 (by decide) (by decide +kernel) (v := x1) e1 dX12_due_1 ?_
  replace hR := bd_to hR e1
  refine lv_istore_n (lv' := [(2, .int x1), (0, .ref (g.2.1 79)), (1, .int 0)]) hx hb dX12_due_4 rfl hl (by decide) rfl (fun ls hl => ?_)
  refine lv_aload_n hx hb dX12_due_5 rfl (lv_at hl 1 rfl) ?_
  refine x_getI E h (fi_mo_fault g) rfl hwX12 (by decide) (by decide +kernel) (v := nI F30) eF30 dX12_due_6 ?_
  replace hR := bd_to hR eF30
  refine lv_bipush (v := (-9)) hx hb dX12_due_9 (by decide) ?_
  replace hR := it_f hR (y_neq F30 (by omega) (by decide))
  refine lv_icmp_ne (tgt := 33) hx hb dX12_due_11 (by decide) (fun _ => ?_) (fun c => absurd c (y_neq F30 (by omega) (by decide)))
  refine lv_iload_n hx hb dX12_due_33 rfl (lv_at hl 0 rfl) ?_
  subst hPQ
  exact x_iret E h ⟨hR0.trans hR.symm, hI, hF⟩ dX12_due_34
set_option maxHeartbeats 4000000 in
set_option maxRecDepth 100000 in
theorem aX12_due_4 (l : Launch) (g : CX) (σ : ST) (hI : INV σ) (F25 : Nat) (eF25 : σ.1 25 = nI F25) (F26 : Nat) (eF26 : σ.1 26 = nI F26) (F30 : Nat) (eF30 : σ.1 30 = nI F30) (hh0 : F25 ≤ 200) (hh1 : F26 ≤ 200) (hh2 : F30 ≤ 200) : XM l g yX12_due wsX12_due { frames := 0, cells := 0, slots := 0, locals := 0 } [.ref (g.2.1 79), .int 1] σ (XQi g (fun r σ' => fX12_due_0 1 σ = (r, σ') ∧ INV σ' ∧ Fr [] [] σ σ')) := by
  refine x_met (own := RX12) (cc := cX12_due) (maxL := 3) (ret := (some .int)) (lv := [(0, .ref (g.2.1 79)), (1, .int 1)]) (by decide) rfl rfl (Nat.le_of_ble_eq_true rfl) rfl ?_
  intro p e s m args below meth c ls E h hl
  have hx := E.1
  have hb := E.2.1
  have hown := E.2.2.2.1
  have hts := E.2.2.2.2.1
  have hF : Fr [] [] σ σ := Fr.refl σ
  obtain ⟨R, hR0⟩ : ∃ R, fX12_due_0 1 σ = R := ⟨_, rfl⟩
  have hR : fX12_due_0b0 1 σ = R := hR0
  have hwX12 : ∀ w ∈ wsX120, w ∈ wsX12_due := by decide +kernel
  generalize hPQ : XQi g (fun r σ' => fX12_due_0 1 σ = (r, σ') ∧ INV σ' ∧ Fr [] [] σ σ') = PQz
  refine lv_aload_n hx hb dX12_due_0 rfl (lv_at hl 0 rfl) ?_
  obtain ⟨x1, e1⟩ : ∃ x, σ.1 29 = x := ⟨_, rfl⟩
  refine x_getI E h (fi_mo_value g) rfl hwX12 (by decide) (by decide +kernel) (v := x1) e1 dX12_due_1 ?_
  replace hR := bd_to hR e1
  refine lv_istore_n (lv' := [(2, .int x1), (0, .ref (g.2.1 79)), (1, .int 1)]) hx hb dX12_due_4 rfl hl (by decide) rfl (fun ls hl => ?_)
  refine lv_aload_n hx hb dX12_due_5 rfl (lv_at hl 1 rfl) ?_
  refine x_getI E h (fi_mo_fault g) rfl hwX12 (by decide) (by decide +kernel) (v := nI F30) eF30 dX12_due_6 ?_
  replace hR := bd_to hR eF30
  refine lv_bipush (v := (-9)) hx hb dX12_due_9 (by decide) ?_
  replace hR := it_f hR (y_neq F30 (by omega) (by decide))
  refine lv_icmp_ne (tgt := 33) hx hb dX12_due_11 (by decide) (fun _ => ?_) (fun c => absurd c (y_neq F30 (by omega) (by decide)))
  refine lv_iload_n hx hb dX12_due_33 rfl (lv_at hl 0 rfl) ?_
  subst hPQ
  exact x_iret E h ⟨hR0.trans hR.symm, hI, hF⟩ dX12_due_34
set_option maxHeartbeats 4000000 in
set_option maxRecDepth 100000 in
theorem aX12_most_0 (l : Launch) (g : CX) (σ : ST) (hI : INV σ) (p0 : Int32) : XM l g yX12_most wsX12_most { frames := 0, cells := 0, slots := 0, locals := 0 } [.int p0] σ (XQi g (fun r σ' => fX12_most_0 p0 σ = r ∧ σ = σ')) := by
  refine x_met (own := RX12) (cc := cX12_most) (maxL := 1) (ret := (some .int)) (lv := [(0, .int p0)]) (by decide) rfl rfl (Nat.le_of_ble_eq_true rfl) rfl ?_
  intro p e s m args below meth c ls E h hl
  have hx := E.1
  have hb := E.2.1
  have hown := E.2.2.2.1
  have hts := E.2.2.2.2.1
  obtain ⟨R, hR0⟩ : ∃ R, fX12_most_0 p0 σ = R := ⟨_, rfl⟩
  have hR : fX12_most_0b0 p0 σ = R := hR0
  generalize hPQ : XQi g (fun r σ' => fX12_most_0 p0 σ = r ∧ σ = σ') = PQz
  refine lv_iload_n hx hb dX12_most_0 rfl (lv_at hl 0 rfl) ?_
  refine lv_if_eq (tgt := 9) hx hb dX12_most_1 (by decide) (fun c1 => ?_) (fun c1 => ?_)
  · skip
    replace hR := it_t hR c1
    refine lv_sipush (v := 999) hx hb dX12_most_9 (by decide) ?_
    refine lv_goto (tgt := 29) hx hb dX12_most_12 (by decide) ?_
    replace hR : fX12_most_0b29 999 σ = R := hR
    subst hPQ
    exact x_iret E h ⟨hR0.trans hR.symm, rfl⟩ dX12_most_29
  · skip
    replace hR := it_f hR c1
    refine lv_iload_n hx hb dX12_most_4 rfl (lv_at hl 0 rfl) ?_
    refine lv_iconst (v := 4) hx hb dX12_most_5 (by decide) ?_
    refine lv_icmp_ne (tgt := 15) hx hb dX12_most_6 (by decide) (fun c4 => ?_) (fun c4 => ?_)
    · skip
      replace hR := it_f hR c4
      refine lv_iload_n hx hb dX12_most_15 rfl (lv_at hl 0 rfl) ?_
      refine lv_iconst (v := 3) hx hb dX12_most_16 (by decide) ?_
      refine lv_icmp_ne (tgt := 26) hx hb dX12_most_17 (by decide) (fun c6 => ?_) (fun c6 => ?_)
      · skip
        replace hR := it_f hR c6
        refine lv_sipush (v := 399) hx hb dX12_most_26 (by decide) ?_
        replace hR : fX12_most_0b29 399 σ = R := hR
        subst hPQ
        exact x_iret E h ⟨hR0.trans hR.symm, rfl⟩ dX12_most_29
      · skip
        replace hR := it_t hR c6
        refine lv_sipush (v := 9999) hx hb dX12_most_20 (by decide) ?_
        refine lv_goto (tgt := 29) hx hb dX12_most_23 (by decide) ?_
        replace hR : fX12_most_0b29 9999 σ = R := hR
        subst hPQ
        exact x_iret E h ⟨hR0.trans hR.symm, rfl⟩ dX12_most_29
    · skip
      replace hR := it_t hR c4
      refine lv_sipush (v := 999) hx hb dX12_most_9 (by decide) ?_
      refine lv_goto (tgt := 29) hx hb dX12_most_12 (by decide) ?_
      replace hR : fX12_most_0b29 999 σ = R := hR
      subst hPQ
      exact x_iret E h ⟨hR0.trans hR.symm, rfl⟩ dX12_most_29
set_option maxHeartbeats 4000000 in
set_option maxRecDepth 100000 in
theorem aX12_due_5 (l : Launch) (g : CX) (σ : ST) (hI : INV σ) (F25 : Nat) (eF25 : σ.1 25 = nI F25) (F26 : Nat) (eF26 : σ.1 26 = nI F26) (eF30 : σ.1 30 = (-9)) (hh0 : F25 ≤ 200) (hh1 : F26 ≤ 200) : XM l g yX12_due wsX12_due { frames := 4, cells := 0, slots := 0, locals := 92 } [.ref (g.2.1 79), .int 1] σ (XQi g (fun r σ' => fX12_due_0 1 σ = (r, σ') ∧ ((∃ a : Nat, σ'.1 26 = nI a ∧ F26 ≤ a ∧ a ≤ 200 ∧ NX σ' ∧ (σ'.1 28 = 3 → F26 < a))) ∧ INV σ' ∧ Fr [(26, 29)] [] σ σ')) := by
  refine x_met (own := RX12) (cc := cX12_due) (maxL := 3) (ret := (some .int)) (lv := [(0, .ref (g.2.1 79)), (1, .int 1)]) (by decide) rfl rfl (Nat.le_of_ble_eq_true rfl) rfl ?_
  intro p e s m args below meth c ls E h hl
  have hx := E.1
  have hb := E.2.1
  have hown := E.2.2.2.1
  have hts := E.2.2.2.2.1
  have hF : Fr [(26, 29)] [] σ σ := Fr.refl σ
  obtain ⟨R, hR0⟩ : ∃ R, fX12_due_0 1 σ = R := ⟨_, rfl⟩
  have hR : fX12_due_0b0 1 σ = R := hR0
  have hwX12 : ∀ w ∈ wsX120, w ∈ wsX12_due := by decide +kernel
  generalize hPQ : XQi g (fun r σ' => fX12_due_0 1 σ = (r, σ') ∧ ((∃ a : Nat, σ'.1 26 = nI a ∧ F26 ≤ a ∧ a ≤ 200 ∧ NX σ' ∧ (σ'.1 28 = 3 → F26 < a))) ∧ INV σ' ∧ Fr [(26, 29)] [] σ σ') = PQz
  refine lv_aload_n hx hb dX12_due_0 rfl (lv_at hl 0 rfl) ?_
  obtain ⟨x1, e1⟩ : ∃ x, σ.1 29 = x := ⟨_, rfl⟩
  refine x_getI E h (fi_mo_value g) rfl hwX12 (by decide) (by decide +kernel) (v := x1) e1 dX12_due_1 ?_
  replace hR := bd_to hR e1
  refine lv_istore_n (lv' := [(2, .int x1), (0, .ref (g.2.1 79)), (1, .int 1)]) hx hb dX12_due_4 rfl hl (by decide) rfl (fun ls hl => ?_)
  refine lv_aload_n hx hb dX12_due_5 rfl (lv_at hl 1 rfl) ?_
  refine x_getI E h (fi_mo_fault g) rfl hwX12 (by decide) (by decide +kernel) (v := (-9)) eF30 dX12_due_6 ?_
  replace hR := bd_to hR eF30
  refine lv_bipush (v := (-9)) hx hb dX12_due_9 (by decide) ?_
  replace hR := it_t hR (by decide)
  refine lv_icmp_ne (tgt := 33) hx hb dX12_due_11 (by decide) (fun c => absurd (by decide) c) (fun _ => ?_)
  refine lv_iload_n hx hb dX12_due_14 rfl (lv_at hl 2 rfl) ?_
  replace hR := it_f hR (by decide)
  refine lv_if_eq (tgt := 25) hx hb dX12_due_15 (by decide) (fun c => absurd c (by decide)) (fun _ => ?_)
  refine lv_aload_n hx hb dX12_due_18 rfl (lv_at hl 1 rfl) ?_
  refine x_vv E h (na := 0) (As := []) (aX12_next_0 l g σ hI F25 eF25 F26 eF26 (by omega) (by omega)) (oc_mo g) rfl gX12_due_X12_next rfl ⟨rfl, rfl⟩ rfl (by decide +kernel) ⟨Nat.le_of_ble_eq_true rfl, Nat.le_of_ble_eq_true rfl⟩ hl.1 rfl (Nat.le_of_ble_eq_true rfl) dX12_due_19 ⟨Nat.le_of_ble_eq_true rfl, Nat.le_of_ble_eq_true rfl⟩ (fun s2 H locs q2 h => ?_)
  obtain ⟨x2, d2, hI2, f2⟩ := q2
  replace hR := bd_to hR x2
  have hF2 := hF.call f2 (I := [(26, 29)]) (J := []) rfl rfl
  have e3 : s2.1 25 = nI F25 := ((f2.1 25 rfl)).trans eF25
  have e4 : s2.1 30 = (-9) := ((f2.1 30 rfl)).trans eF30
  rcases d2 with ⟨m2_0a, u2_0_0, u2_0_1, u2_0_2, u2_0_3, u2_0_4⟩
  refine lv_goto (tgt := 33) hx hb dX12_due_22 (by decide) ?_
  refine lv_iload_n hx hb dX12_due_33 rfl (lv_at hl 0 rfl) ?_
  subst hPQ
  exact x_iret E h ⟨hR0.trans hR.symm, (⟨m2_0a, u2_0_0, (by omega), (by omega), u2_0_3, u2_0_4⟩), hI2, hF2⟩ dX12_due_34
set_option maxHeartbeats 4000000 in
set_option maxRecDepth 100000 in
theorem aX12_rules_0 (l : Launch) (g : CX) (σ : ST) (hI : INV σ)  : XM l g yX12_rules wsX12_rules { frames := 5, cells := 0, slots := 0, locals := 114 } [.ref (g.2.1 79)] σ (XQi g (fun r σ' => fX12_rules_0 σ = (r, σ') ∧ INV σ' ∧ Fr [(25, 30)] [(66, 66)] σ σ')) := by
  refine x_met (own := RX12) (cc := cX12_rules) (maxL := 5) (ret := (some .int)) (lv := [(0, .ref (g.2.1 79))]) (by decide) rfl rfl (Nat.le_of_ble_eq_true rfl) rfl ?_
  intro p e s m args below meth c ls E h hl
  have hx := E.1
  have hb := E.2.1
  have hown := E.2.2.2.1
  have hts := E.2.2.2.2.1
  have hF : Fr [(25, 30)] [(66, 66)] σ σ := Fr.refl σ
  obtain ⟨R, hR0⟩ : ∃ R, fX12_rules_0 σ = R := ⟨_, rfl⟩
  have hR : fX12_rules_0b0 σ = R := hR0
  have hwX12 : ∀ w ∈ wsX120, w ∈ wsX12_rules := by decide +kernel
  generalize hPQ : XQi g (fun r σ' => fX12_rules_0 σ = (r, σ') ∧ INV σ' ∧ Fr [(25, 30)] [(66, 66)] σ σ') = PQz
  refine lv_aload_n hx hb dX12_rules_0 rfl (lv_at hl 0 rfl) ?_
  refine lv_iconst (v := 0) hx hb dX12_rules_1 (by decide) ?_
  refine y_putI E h hI hF (ty := .int) (v := nI 0) (fi_mo_at g) rfl hwX12 tyX12_ok nmX12 (by decide) (by decide +kernel) (by decide +kernel) (by decide +kernel) rfl rfl (ba_some rfl (Bd.mk (n := 0) (by omega))) rfl dX12_rules_2 (fun s1 H locs q1 hI1 hF1 h => ?_)
  replace hR := bd_to hR q1.symm
  have e2 : s1.1 26 = nI 0 := congrArg (fun t : ST => t.1 26) q1
  refine lv_aload_n hx hb dX12_rules_5 rfl (lv_at hl 0 rfl) ?_
  refine lv_bipush (v := (-9)) hx hb dX12_rules_6 (by decide) ?_
  refine y_putI E h hI1 hF1 (ty := .int) (v := (-9)) (fi_mo_fault g) rfl hwX12 tyX12_ok nmX12 (by decide) (by decide +kernel) (by decide +kernel) (by decide +kernel) rfl rfl (ba_none rfl) rfl dX12_rules_8 (fun s3 H locs q3 hI3 hF3 h => ?_)
  replace hR := bd_to hR q3.symm
  have e4 : s3.1 26 = 0 := (congrArg (fun t : ST => t.1 26) q3).trans e2
  have e5 : s3.1 30 = (-9) := congrArg (fun t : ST => t.1 30) q3
  refine lv_iconst (v := 0) hx hb dX12_rules_11 (by decide) ?_
  refine lv_istore_n (lv' := [(1, .int 0), (0, .ref (g.2.1 79))]) hx hb dX12_rules_12 rfl hl (by decide) rfl (fun ls hl => ?_)
  refine lv_iconst (v := 0) hx hb dX12_rules_13 (by decide) ?_
  refine lv_istore_n (lv' := [(2, .int 0), (1, .int 0), (0, .ref (g.2.1 79))]) hx hb dX12_rules_14 rfl hl (by decide) rfl (fun ls hl => ?_)
  refine lv_aload_n hx hb dX12_rules_15 rfl (lv_at hl 2 rfl) ?_
  refine lv_bipush (v := 6) hx hb dX12_rules_16 (by decide) ?_
  refine x_vv E h (na := 1) (As := [.int 6]) (aX12_atFirst_0 l g s3 hI3) (oc_mo g) rfl gX12_rules_X12_atFirst rfl ⟨rfl, rfl⟩ rfl (by decide +kernel) ⟨Nat.le_of_ble_eq_true rfl, Nat.le_of_ble_eq_true rfl⟩ hl.1 rfl (Nat.le_of_ble_eq_true rfl) dX12_rules_18 ⟨Nat.le_of_ble_eq_true rfl, Nat.le_of_ble_eq_true rfl⟩ (fun s6 H locs q6 h => ?_)
  obtain ⟨x6, hI6, f6⟩ := q6
  replace hR := bd_to hR x6
  have hF6 := hF3.call f6 (I := [(25, 30)]) (J := [(66, 66)]) rfl rfl
  have e7 : s6.1 26 = 0 := ((f6.1 26 rfl)).trans e4
  have e8 : s6.1 30 = (-9) := ((f6.1 30 rfl)).trans e5
  refine lv_aload_n hx hb dX12_rules_21 rfl (lv_at hl 2 rfl) ?_
  obtain ⟨n9, b9, e9⟩ := hI6.1 25 200 rfl
  refine x_vv E h (na := 0) (As := []) (aX12_next_0 l g s6 hI6 n9 e9 0 e7 (by omega) (by omega)) (oc_mo g) rfl gX12_rules_X12_next rfl ⟨rfl, rfl⟩ rfl (by decide +kernel) ⟨Nat.le_of_ble_eq_true rfl, Nat.le_of_ble_eq_true rfl⟩ hl.1 rfl (Nat.le_of_ble_eq_true rfl) dX12_rules_22 ⟨Nat.le_of_ble_eq_true rfl, Nat.le_of_ble_eq_true rfl⟩ (fun s10 H locs q10 h => ?_)
  obtain ⟨x10, d10, hI10, f10⟩ := q10
  replace hR := bd_to hR x10
  have hF10 := hF6.call f10 (I := [(25, 30)]) (J := [(66, 66)]) rfl rfl
  have e11 : s10.1 30 = (-9) := ((f10.1 30 rfl)).trans e8
  have e12 : s10.1 25 = nI n9 := ((f10.1 25 rfl)).trans e9
  rcases d10 with ⟨m10_0a, u10_0_0, u10_0_1, u10_0_2, u10_0_3, u10_0_4⟩
  have loop25_13 : ∀ (fu : Nat) (t13 : ST) (f13_26 : Nat) (i13_2 : Int32) (i13_1 : Int32), INV t13 → Fr [(25, 30)] [(66, 66)] σ t13 → t13.1 25 = nI n9 → t13.1 26 = nI f13_26 → f13_26 ≤ 200 → NX t13 → fX12_rules_0l25 fu i13_1 i13_2 t13 = R → 200 - f13_26 + 1 < fu → ∀ (H : Heap) (locs : List Loc) (ls : Array Slot), HW g t13 s H locs → lv_has ls 5 [(2, .int i13_2), (1, .int i13_1), (0, .ref (g.2.1 79))] → W p l e { frames := 5, cells := 0, slots := 0, locals := 114 } s m args below meth c H locs 0 0 (MQ below PQz args s 0 0 (Aw g)) (F0 m 25 ls []) := by
    intro fu13
    induction fu13 with
    | zero => intro t13 f13_26 i13_2 i13_1 hI_13 hF_13 e14 ef13_26 pp13_0 nx_13 hR13 hm; exact absurd hm (Nat.not_lt_zero _)
    | succ fu13 ih =>
      have ih13 := ih
      clear ih
      intro t13 f13_26 i13_2 i13_1 hI_13 hF_13 e14 ef13_26 pp13_0 nx_13 hR13 hm13 H locs ls h hl
      replace hR13 : fX12_rules_0b25 (fX12_rules_0l25 fu13) i13_1 i13_2 t13 = R := hR13
      refine lv_aload_n hx hb dX12_rules_25 rfl (lv_at hl 2 rfl) ?_
      obtain ⟨x15, e15⟩ : ∃ x, t13.1 30 = x := ⟨_, rfl⟩
      refine x_getI E h (fi_mo_fault g) rfl hwX12 (by decide) (by decide +kernel) (v := x15) e15 dX12_rules_26 ?_
      replace hR13 := bd_to hR13 e15
      refine lv_bipush (v := (-9)) hx hb dX12_rules_29 (by decide) ?_
      refine lv_icmp_ne (tgt := 150) hx hb dX12_rules_31 (by decide) (fun c16 => ?_) (fun c16 => ?_)
      · skip
        replace hR13 := it_f hR13 c16
        refine lv_aload_n hx hb dX12_rules_150 rfl (lv_at hl 2 rfl) ?_
        refine x_getI E h (fi_mo_fault g) rfl hwX12 (by decide) (by decide +kernel) (v := x15) e15 dX12_rules_151 ?_
        replace hR13 := bd_to hR13 e15
        refine lv_bipush (v := (-9)) hx hb dX12_rules_154 (by decide) ?_
        replace hR13 := it_f hR13 c16
        refine lv_icmp_eq (tgt := 167) hx hb dX12_rules_156 (by decide) (fun c => absurd c c16) (fun _ => ?_)
        refine lv_bipush (v := (-10)) hx hb dX12_rules_159 (by decide) ?_
        refine lv_aload_n hx hb dX12_rules_161 rfl (lv_at hl 2 rfl) ?_
        refine x_getI E h (fi_mo_fault g) rfl hwX12 (by decide) (by decide +kernel) (v := x15) e15 dX12_rules_162 ?_
        replace hR13 := bd_to hR13 e15
        refine lv_isub hx hb dX12_rules_165 ?_
        refine lv_topi (fun x18 e18 => ?_)
        replace hR13 := bd_to hR13 e18.symm
        subst hPQ
        exact x_iret E h ⟨hR0.trans hR13.symm, hI_13, hF_13⟩ dX12_rules_166
      · skip
        replace hR13 := it_t hR13 c16
        subst c16
        refine lv_aload_n hx hb dX12_rules_34 rfl (lv_at hl 2 rfl) ?_
        obtain ⟨x20, e20⟩ : ∃ x, t13.1 28 = x := ⟨_, rfl⟩
        refine x_getI E h (fi_mo_sort g) rfl hwX12 (by decide) (by decide +kernel) (v := x20) e20 dX12_rules_35 ?_
        replace hR13 := bd_to hR13 e20
        refine lv_if_eq (tgt := 150) hx hb dX12_rules_38 (by decide) (fun c21 => ?_) (fun c21 => ?_)
        · skip
          replace hR13 := it_t hR13 c21
          subst c21
          refine lv_aload_n hx hb dX12_rules_150 rfl (lv_at hl 2 rfl) ?_
          refine x_getI E h (fi_mo_fault g) rfl hwX12 (by decide) (by decide +kernel) (v := (-9)) e15 dX12_rules_151 ?_
          replace hR13 := bd_to hR13 e15
          refine lv_bipush (v := (-9)) hx hb dX12_rules_154 (by decide) ?_
          replace hR13 := it_t hR13 (by decide)
          refine lv_icmp_eq (tgt := 167) hx hb dX12_rules_156 (by decide) (fun _ => ?_) (fun c => absurd (by decide) c)
          refine lv_iconst (v := 0) hx hb dX12_rules_167 (by decide) ?_
          refine lv_istore_n (lv' := [(3, .int 0), (2, .int i13_2), (1, .int i13_1), (0, .ref (g.2.1 79))]) hx hb dX12_rules_168 rfl hl (by decide) rfl (fun ls hl => ?_)
          have loop169_23 : ∀ (fu : Nat) (t23 : ST) (i23_3 : Nat), INV t23 → Fr [(25, 30)] [(66, 66)] σ t23 → t23.1 25 = nI n9 → t23.1 26 = nI f13_26 → t23.1 30 = (-9) → t23.1 28 = 0 → i23_3 ≤ 6 → fX12_rules_0l169 fu i13_2 (nI i23_3) t23 = R → 6 - i23_3 < fu → ∀ (H : Heap) (locs : List Loc) (ls : Array Slot), HW g t23 s H locs → lv_has ls 5 [(3, .int (nI i23_3)), (2, .int i13_2), (1, .int i13_1), (0, .ref (g.2.1 79))] → W p l e { frames := 5, cells := 0, slots := 0, locals := 114 } s m args below meth c H locs 0 0 (MQ below PQz args s 0 0 (Aw g)) (F0 m 169 ls []) := by
            intro fu23
            induction fu23 with
            | zero => intro t23 i23_3 hI_23 hF_23 e24 e25 e26 e27 bi23_3 hR23 hm; exact absurd hm (Nat.not_lt_zero _)
            | succ fu23 ih =>
              have ih23 := ih
              clear ih
              intro t23 i23_3 hI_23 hF_23 e24 e25 e26 e27 bi23_3 hR23 hm23 H locs ls h hl
              replace hR23 : fX12_rules_0b169 (fX12_rules_0l169 fu23) i13_2 (nI i23_3) t23 = R := hR23
              refine lv_iload_n hx hb dX12_rules_169 rfl (lv_at hl 0 rfl) ?_
              refine lv_bipush (v := 6) hx hb dX12_rules_170 (by decide) ?_
              refine lv_icmp_ge (tgt := 196) hx hb dX12_rules_172 (by decide) (fun c28 => ?_) (fun c28 => ?_)
              · skip
                replace hR23 := it_t hR23 c28
                have b29 : 6 ≤ i23_3 := y_le (a := 6) (b := i23_3) (by omega) (by omega) c28
                refine lv_aload_n hx hb dX12_rules_196 rfl (lv_at hl 3 rfl) ?_
                refine lv_iconst (v := 0) hx hb dX12_rules_197 (by decide) ?_
                refine y_putI E h hI_23 hF_23 (ty := .int) (v := nI 0) (fi_mo_typed g) rfl hwX12 tyX12_ok nmX12 (by decide) (by decide +kernel) (by decide +kernel) (by decide +kernel) rfl rfl (ba_some rfl (Bd.mk (n := 0) (by omega))) rfl dX12_rules_198 (fun s30 H locs q30 hI30 hF30 h => ?_)
                replace hR23 := bd_to hR23 q30.symm
                have e31 : s30.1 26 = nI f13_26 := (congrArg (fun t : ST => t.1 26) q30).trans e25
                have e32 : s30.1 30 = (-9) := (congrArg (fun t : ST => t.1 30) q30).trans e26
                have e33 : s30.1 28 = 0 := (congrArg (fun t : ST => t.1 28) q30).trans e27
                have e34 : s30.1 25 = nI 0 := congrArg (fun t : ST => t.1 25) q30
                refine lv_iload_n hx hb dX12_rules_201 rfl (lv_at hl 1 rfl) ?_
                subst hPQ
                exact x_iret E h ⟨hR0.trans hR23.symm, hI30, hF30⟩ dX12_rules_202
              · skip
                replace hR23 := it_f hR23 c28
                have b35 : i23_3 < 6 := y_nle (a := 6) (b := i23_3) (by omega) (by omega) c28
                refine lv_aload_n hx hb dX12_rules_175 rfl (lv_at hl 3 rfl) ?_
                refine x_getR E h (fr_mo_rule g) rfl hwX12 (by decide) (by decide +kernel) dX12_rules_176 ?_
                refine lv_iload_n hx hb dX12_rules_179 rfl (lv_at hl 0 rfl) ?_
                refine lv_aload_n hx hb dX12_rules_180 rfl (lv_at hl 3 rfl) ?_
                refine x_getR E h (fr_mo_rule g) rfl hwX12 (by decide) (by decide +kernel) dX12_rules_181 ?_
                refine lv_bipush (v := 6) hx hb dX12_rules_184 (by decide) ?_
                refine lv_iload_n hx hb dX12_rules_186 rfl (lv_at hl 0 rfl) ?_
                refine lv_iadd hx hb dX12_rules_187 ?_
                refine x_topI (v2 := nI (6 + i23_3)) (nI_add 6 i23_3) ?_
                replace hR23 := bd_to hR23 (nI_add 6 i23_3)
                refine x_ldI E h (ia_mo_rule g) (i := nI (6 + i23_3)) (vp_in_nI (by omega) (by decide)) (v := t23.2.2 66 (6 + i23_3)) (congrArg (t23.2.2 66) (nI_clamp (n := 6 + i23_3) (by omega))) dX12_rules_188 ?_
                replace hR23 := bd_to hR23 (congrArg (t23.2.2 66) (nI_clamp (n := 6 + i23_3) (by omega)))
                refine y_stI E h hI_23 hF_23 (ia_mo_rule g) (i := nI i23_3) (vp_in_nI (by omega) (by decide)) (j := i23_3) (nI_clamp (by omega)) (ba_none rfl) rfl dX12_rules_189 (fun s36 H locs q36 hI36 hF36 h => ?_)
                replace hR23 := st_to hR23 (nI_clamp (n := i23_3) (by omega)) q36
                have e37 : s36.1 25 = nI n9 := (congrArg (fun t : ST => t.1 25) q36).trans e24
                have e38 : s36.1 26 = nI f13_26 := (congrArg (fun t : ST => t.1 26) q36).trans e25
                have e39 : s36.1 30 = (-9) := (congrArg (fun t : ST => t.1 30) q36).trans e26
                have e40 : s36.1 28 = 0 := (congrArg (fun t : ST => t.1 28) q36).trans e27
                replace hR23 := bd_to hR23 (nI_add i23_3 1)
                refine lv_iinc (v := (nI (i23_3 + 1))) (lv' := [(3, .int (nI (i23_3 + 1))), (2, .int i13_2), (1, .int i13_1), (0, .ref (g.2.1 79))]) hx hb dX12_rules_190 hl (k := 0) rfl (nI_add i23_3 1) (by decide) rfl (fun ls hl => ?_)
                refine lv_goto (tgt := 169) hx hb dX12_rules_193 (by decide) ?_
                exact ih23 s36 (i23_3 + 1) hI36 hF36 e37 e38 e39 e40 (by omega) hR23 (by omega) _ _ _ h (lv_sub hl [0, 1, 2, 3] rfl)
          exact loop169_23 4096 t13 0 hI_13 hF_13 e14 ef13_26 e15 e20 (Nat.zero_le _) hR13 (by omega) _ _ _ h (lv_sub hl [0, 1, 2, 3] rfl)
        · skip
          replace hR13 := it_f hR13 c21
          refine lv_aload_n hx hb dX12_rules_41 rfl (lv_at hl 2 rfl) ?_
          refine lv_aload_n hx hb dX12_rules_42 rfl (lv_at hl 2 rfl) ?_
          refine x_getI E h (fi_mo_sort g) rfl hwX12 (by decide) (by decide +kernel) (v := x20) e20 dX12_rules_43 ?_
          replace hR13 := bd_to hR13 e20
          refine lv_iconst (v := 1) hx hb dX12_rules_46 (by decide) ?_
          refine lv_icmp_ne (tgt := 65) hx hb dX12_rules_47 (by decide) (fun c42 => ?_) (fun c42 => ?_)
          · skip
            replace hR13 := it_f hR13 c42
            refine lv_iconst (v := 0) hx hb dX12_rules_65 (by decide) ?_
            replace hR13 : fX12_rules_0b66 (fX12_rules_0l25 fu13) i13_1 i13_2 0 t13 = R := hR13
            refine x_vi E h (na := 1) (As := [.int 0]) (aX12_due_0 l g t13 hI_13 n9 e14 f13_26 ef13_26 e15 (by omega) (by omega)) (oc_mo g) rfl gX12_rules_X12_due rfl ⟨rfl, rfl⟩ rfl (by decide +kernel) ⟨Nat.le_of_ble_eq_true rfl, Nat.le_of_ble_eq_true rfl⟩ hl.1 rfl (Nat.le_of_ble_eq_true rfl) dX12_rules_66 ⟨Nat.le_of_ble_eq_true rfl, Nat.le_of_ble_eq_true rfl⟩ (fun r44 s44 H locs q44 h => ?_)
            obtain ⟨x44, d44, hI44, f44⟩ := q44
            replace hR13 := bp_to hR13 x44
            have hF44 := hF_13.call f44 (I := [(25, 30)]) (J := [(66, 66)]) rfl rfl
            have e45 : s44.1 25 = nI n9 := ((f44.1 25 rfl)).trans e14
            have e46 : s44.1 26 = nI f13_26 := ((f44.1 26 rfl)).trans ef13_26
            have e47 : s44.1 28 = x20 := ((f44.1 28 rfl)).trans e20
            have a48 : NX s44 := NX.eq nx_13 (f44.1 28 rfl) (f44.1 29 rfl)
            rcases d44 with ⟨m44_0s, u44_0_0, u44_0_1⟩
            refine lv_istore_n (lv' := [(3, .int r44), (2, .int i13_2), (1, .int i13_1), (0, .ref (g.2.1 79))]) hx hb dX12_rules_69 rfl hl (by decide) rfl (fun ls hl => ?_)
            refine lv_aload_n hx hb dX12_rules_70 rfl (lv_at hl 3 rfl) ?_
            refine x_getI E h (fi_mo_fault g) rfl hwX12 (by decide) (by decide +kernel) (v := nI m44_0s) u44_0_0 dX12_rules_71 ?_
            replace hR13 := bd_to hR13 u44_0_0
            refine lv_bipush (v := (-9)) hx hb dX12_rules_74 (by decide) ?_
            replace hR13 := it_f hR13 (y_neq m44_0s (by omega) (by decide))
            refine lv_icmp_ne (tgt := 147) hx hb dX12_rules_76 (by decide) (fun _ => ?_) (fun c => absurd c (y_neq m44_0s (by omega) (by decide)))
            refine lv_goto (tgt := 25) hx hb dX12_rules_147 (by decide) ?_
            obtain ⟨fu49, rfl⟩ : ∃ z, fu13 = z + 1 := ⟨fu13 - 1, by omega⟩
            replace hR13 : fX12_rules_0b25 (fX12_rules_0l25 fu49) i13_1 i13_2 s44 = R := hR13
            refine lv_aload_n hx hb dX12_rules_25 rfl (lv_at hl 3 rfl) ?_
            refine x_getI E h (fi_mo_fault g) rfl hwX12 (by decide) (by decide +kernel) (v := nI m44_0s) u44_0_0 dX12_rules_26 ?_
            replace hR13 := bd_to hR13 u44_0_0
            refine lv_bipush (v := (-9)) hx hb dX12_rules_29 (by decide) ?_
            replace hR13 := it_f hR13 (y_neq m44_0s (by omega) (by decide))
            refine lv_icmp_ne (tgt := 150) hx hb dX12_rules_31 (by decide) (fun _ => ?_) (fun c => absurd c (y_neq m44_0s (by omega) (by decide)))
            refine lv_aload_n hx hb dX12_rules_150 rfl (lv_at hl 3 rfl) ?_
            refine x_getI E h (fi_mo_fault g) rfl hwX12 (by decide) (by decide +kernel) (v := nI m44_0s) u44_0_0 dX12_rules_151 ?_
            replace hR13 := bd_to hR13 u44_0_0
            refine lv_bipush (v := (-9)) hx hb dX12_rules_154 (by decide) ?_
            replace hR13 := it_f hR13 (y_neq m44_0s (by omega) (by decide))
            refine lv_icmp_eq (tgt := 167) hx hb dX12_rules_156 (by decide) (fun c => absurd c (y_neq m44_0s (by omega) (by decide))) (fun _ => ?_)
            refine lv_bipush (v := (-10)) hx hb dX12_rules_159 (by decide) ?_
            refine lv_aload_n hx hb dX12_rules_161 rfl (lv_at hl 3 rfl) ?_
            refine x_getI E h (fi_mo_fault g) rfl hwX12 (by decide) (by decide +kernel) (v := nI m44_0s) u44_0_0 dX12_rules_162 ?_
            replace hR13 := bd_to hR13 u44_0_0
            refine lv_isub hx hb dX12_rules_165 ?_
            refine lv_topi (fun x50 e50 => ?_)
            replace hR13 := bd_to hR13 e50.symm
            subst hPQ
            exact x_iret E h ⟨hR0.trans hR13.symm, hI44, hF44⟩ dX12_rules_166
          · skip
            replace hR13 := it_t hR13 c42
            subst c42
            obtain ⟨w52, b52, e52⟩ := nx_13 e20
            refine lv_iload_n hx hb dX12_rules_50 rfl (lv_at hl 1 rfl) ?_
            refine lv_aload_n hx hb dX12_rules_51 rfl (lv_at hl 2 rfl) ?_
            refine x_getI E h (fi_mo_value g) rfl hwX12 (by decide) (by decide +kernel) (v := nI w52) e52 dX12_rules_52 ?_
            replace hR13 := bd_to hR13 e52
            refine lv_ishr hx hb dX12_rules_55 ?_
            refine lv_topi (fun x53 e53 => ?_)
            replace hR13 := bd_to hR13 e53.symm
            refine lv_iconst (v := 1) hx hb dX12_rules_56 (by decide) ?_
            refine lv_iand hx hb dX12_rules_57 ?_
            obtain ⟨n54, b54, e54⟩ := pk_andE x53 (m := 1) 1 (by decide)
            refine x_topI (v2 := nI n54) e54 ?_
            replace hR13 := bd_to hR13 e54
            refine lv_if_ne (tgt := 65) hx hb dX12_rules_58 (by decide) (fun c55 => ?_) (fun c55 => ?_)
            · skip
              replace hR13 := it_f hR13 c55
              have b56 : ¬ n54 = 0 := y_ne (a := n54) (b := 0) (by omega) (by omega) c55
              refine lv_iconst (v := 0) hx hb dX12_rules_65 (by decide) ?_
              replace hR13 : fX12_rules_0b66 (fX12_rules_0l25 fu13) i13_1 i13_2 0 t13 = R := hR13
              refine x_vi E h (na := 1) (As := [.int 0]) (aX12_due_1 l g t13 hI_13 n9 e14 f13_26 ef13_26 w52 e52 e15 (by omega) (by omega)) (oc_mo g) rfl gX12_rules_X12_due rfl ⟨rfl, rfl⟩ rfl (by decide +kernel) ⟨Nat.le_of_ble_eq_true rfl, Nat.le_of_ble_eq_true rfl⟩ hl.1 rfl (Nat.le_of_ble_eq_true rfl) dX12_rules_66 ⟨Nat.le_of_ble_eq_true rfl, Nat.le_of_ble_eq_true rfl⟩ (fun r57 s57 H locs q57 h => ?_)
              obtain ⟨x57, d57, hI57, f57⟩ := q57
              replace hR13 := bp_to hR13 x57
              have hF57 := hF_13.call f57 (I := [(25, 30)]) (J := [(66, 66)]) rfl rfl
              have e58 : s57.1 25 = nI n9 := ((f57.1 25 rfl)).trans e14
              have e59 : s57.1 26 = nI f13_26 := ((f57.1 26 rfl)).trans ef13_26
              have e60 : s57.1 28 = 1 := ((f57.1 28 rfl)).trans e20
              have e61 : s57.1 29 = nI w52 := ((f57.1 29 rfl)).trans e52
              have a62 : NX s57 := NX.eq nx_13 (f57.1 28 rfl) (f57.1 29 rfl)
              rcases d57 with ⟨m57_0s, m57_0n, u57_0_0, u57_0_1, u57_0_2, rfl⟩
              refine lv_istore_n (lv' := [(3, .int (nI m57_0n)), (2, .int i13_2), (1, .int i13_1), (0, .ref (g.2.1 79))]) hx hb dX12_rules_69 rfl hl (by decide) rfl (fun ls hl => ?_)
              refine lv_aload_n hx hb dX12_rules_70 rfl (lv_at hl 3 rfl) ?_
              refine x_getI E h (fi_mo_fault g) rfl hwX12 (by decide) (by decide +kernel) (v := nI m57_0s) u57_0_0 dX12_rules_71 ?_
              replace hR13 := bd_to hR13 u57_0_0
              refine lv_bipush (v := (-9)) hx hb dX12_rules_74 (by decide) ?_
              replace hR13 := it_f hR13 (y_neq m57_0s (by omega) (by decide))
              refine lv_icmp_ne (tgt := 147) hx hb dX12_rules_76 (by decide) (fun _ => ?_) (fun c => absurd c (y_neq m57_0s (by omega) (by decide)))
              refine lv_goto (tgt := 25) hx hb dX12_rules_147 (by decide) ?_
              obtain ⟨fu63, rfl⟩ : ∃ z, fu13 = z + 1 := ⟨fu13 - 1, by omega⟩
              replace hR13 : fX12_rules_0b25 (fX12_rules_0l25 fu63) i13_1 i13_2 s57 = R := hR13
              refine lv_aload_n hx hb dX12_rules_25 rfl (lv_at hl 3 rfl) ?_
              refine x_getI E h (fi_mo_fault g) rfl hwX12 (by decide) (by decide +kernel) (v := nI m57_0s) u57_0_0 dX12_rules_26 ?_
              replace hR13 := bd_to hR13 u57_0_0
              refine lv_bipush (v := (-9)) hx hb dX12_rules_29 (by decide) ?_
              replace hR13 := it_f hR13 (y_neq m57_0s (by omega) (by decide))
              refine lv_icmp_ne (tgt := 150) hx hb dX12_rules_31 (by decide) (fun _ => ?_) (fun c => absurd c (y_neq m57_0s (by omega) (by decide)))
              refine lv_aload_n hx hb dX12_rules_150 rfl (lv_at hl 3 rfl) ?_
              refine x_getI E h (fi_mo_fault g) rfl hwX12 (by decide) (by decide +kernel) (v := nI m57_0s) u57_0_0 dX12_rules_151 ?_
              replace hR13 := bd_to hR13 u57_0_0
              refine lv_bipush (v := (-9)) hx hb dX12_rules_154 (by decide) ?_
              replace hR13 := it_f hR13 (y_neq m57_0s (by omega) (by decide))
              refine lv_icmp_eq (tgt := 167) hx hb dX12_rules_156 (by decide) (fun c => absurd c (y_neq m57_0s (by omega) (by decide))) (fun _ => ?_)
              refine lv_bipush (v := (-10)) hx hb dX12_rules_159 (by decide) ?_
              refine lv_aload_n hx hb dX12_rules_161 rfl (lv_at hl 3 rfl) ?_
              refine x_getI E h (fi_mo_fault g) rfl hwX12 (by decide) (by decide +kernel) (v := nI m57_0s) u57_0_0 dX12_rules_162 ?_
              replace hR13 := bd_to hR13 u57_0_0
              refine lv_isub hx hb dX12_rules_165 ?_
              refine lv_topi (fun x64 e64 => ?_)
              replace hR13 := bd_to hR13 e64.symm
              subst hPQ
              exact x_iret E h ⟨hR0.trans hR13.symm, hI57, hF57⟩ dX12_rules_166
            · skip
              replace hR13 := it_t hR13 c55
              have b65 : n54 = 0 := y_eq (a := n54) (b := 0) (by omega) (by omega) c55
              refine lv_iconst (v := 1) hx hb dX12_rules_61 (by decide) ?_
              refine lv_goto (tgt := 66) hx hb dX12_rules_62 (by decide) ?_
              replace hR13 : fX12_rules_0b66 (fX12_rules_0l25 fu13) i13_1 i13_2 1 t13 = R := hR13
              refine x_vi E h (na := 1) (As := [.int 1]) (aX12_due_2 l g t13 hI_13 n9 e14 f13_26 ef13_26 w52 e52 e15 (by omega) (by omega)) (oc_mo g) rfl gX12_rules_X12_due rfl ⟨rfl, rfl⟩ rfl (by decide +kernel) ⟨Nat.le_of_ble_eq_true rfl, Nat.le_of_ble_eq_true rfl⟩ hl.1 rfl (Nat.le_of_ble_eq_true rfl) dX12_rules_66 ⟨Nat.le_of_ble_eq_true rfl, Nat.le_of_ble_eq_true rfl⟩ (fun r66 s66 H locs q66 h => ?_)
              obtain ⟨x66, d66, hI66, f66⟩ := q66
              replace hR13 := bp_to hR13 x66
              have hF66 := hF_13.call f66 (I := [(25, 30)]) (J := [(66, 66)]) rfl rfl
              have e67 : s66.1 25 = nI n9 := ((f66.1 25 rfl)).trans e14
              have e68 : s66.1 30 = (-9) := ((f66.1 30 rfl)).trans e15
              rcases d66 with ⟨m66_0a, m66_0n, u66_0_0, u66_0_1, u66_0_2, u66_0_3, u66_0_4, u66_0_5, rfl⟩
              refine lv_istore_n (lv' := [(3, .int (nI m66_0n)), (2, .int i13_2), (1, .int i13_1), (0, .ref (g.2.1 79))]) hx hb dX12_rules_69 rfl hl (by decide) rfl (fun ls hl => ?_)
              refine lv_aload_n hx hb dX12_rules_70 rfl (lv_at hl 3 rfl) ?_
              refine x_getI E h (fi_mo_fault g) rfl hwX12 (by decide) (by decide +kernel) (v := (-9)) e68 dX12_rules_71 ?_
              replace hR13 := bd_to hR13 e68
              refine lv_bipush (v := (-9)) hx hb dX12_rules_74 (by decide) ?_
              replace hR13 := it_t hR13 (by decide)
              refine lv_icmp_ne (tgt := 147) hx hb dX12_rules_76 (by decide) (fun c => absurd (by decide) c) (fun _ => ?_)
              refine lv_iload_n hx hb dX12_rules_79 rfl (lv_at hl 2 rfl) ?_
              refine lv_iconst (v := 1) hx hb dX12_rules_80 (by decide) ?_
              refine lv_iload_n hx hb dX12_rules_81 rfl (lv_at hl 0 rfl) ?_
              refine lv_ishl hx hb dX12_rules_82 ?_
              refine x_topI (v2 := nI (2 ^ m66_0n)) (y_shl1 (p := m66_0n) (by omega)) ?_
              replace hR13 := bd_to hR13 (y_shl1 (p := m66_0n) (by omega))
              have b70 := y_pow (p := m66_0n) (by omega)
              refine lv_ior hx hb dX12_rules_83 ?_
              refine lv_topi (fun x71 e71 => ?_)
              replace hR13 := bd_to hR13 e71.symm
              refine lv_istore_n (lv' := [(1, .int x71), (3, .int (nI m66_0n)), (2, .int i13_2), (0, .ref (g.2.1 79))]) hx hb dX12_rules_84 rfl hl (by decide) rfl (fun ls hl => ?_)
              refine lv_aload_n hx hb dX12_rules_85 rfl (lv_at hl 3 rfl) ?_
              refine lv_aload_n hx hb dX12_rules_86 rfl (lv_at hl 3 rfl) ?_
              obtain ⟨x72, e72⟩ : ∃ x, s66.1 28 = x := ⟨_, rfl⟩
              refine x_getI E h (fi_mo_sort g) rfl hwX12 (by decide) (by decide +kernel) (v := x72) e72 dX12_rules_87 ?_
              replace hR13 := bd_to hR13 e72
              refine lv_iconst (v := 2) hx hb dX12_rules_90 (by decide) ?_
              refine lv_icmp_ne (tgt := 109) hx hb dX12_rules_91 (by decide) (fun c73 => ?_) (fun c73 => ?_)
              · skip
                replace hR13 := it_f hR13 c73
                refine lv_iconst (v := 0) hx hb dX12_rules_109 (by decide) ?_
                replace hR13 : fX12_rules_0b110 (fX12_rules_0l25 fu13) x71 i13_2 (nI m66_0n) 0 s66 = R := hR13
                refine x_vi E h (na := 1) (As := [.int 0]) (aX12_due_0 l g s66 hI66 n9 e67 m66_0a u66_0_0 e68 (by omega) (by omega)) (oc_mo g) rfl gX12_rules_X12_due rfl ⟨rfl, rfl⟩ rfl (by decide +kernel) ⟨Nat.le_of_ble_eq_true rfl, Nat.le_of_ble_eq_true rfl⟩ hl.1 rfl (Nat.le_of_ble_eq_true rfl) dX12_rules_110 ⟨Nat.le_of_ble_eq_true rfl, Nat.le_of_ble_eq_true rfl⟩ (fun r75 s75 H locs q75 h => ?_)
                obtain ⟨x75, d75, hI75, f75⟩ := q75
                replace hR13 := bp_to hR13 x75
                have hF75 := hF66.call f75 (I := [(25, 30)]) (J := [(66, 66)]) rfl rfl
                have e76 : s75.1 25 = nI n9 := ((f75.1 25 rfl)).trans e67
                have e77 : s75.1 26 = nI m66_0a := ((f75.1 26 rfl)).trans u66_0_0
                have e78 : s75.1 28 = x72 := ((f75.1 28 rfl)).trans e72
                have a79 : NX s75 := NX.eq u66_0_3 (f75.1 28 rfl) (f75.1 29 rfl)
                rcases d75 with ⟨m75_0s, u75_0_0, u75_0_1⟩
                refine lv_istore (lv' := [(4, .int r75), (1, .int x71), (3, .int (nI m66_0n)), (2, .int i13_2), (0, .ref (g.2.1 79))]) hx hb dX12_rules_113 hl (by decide) rfl (fun ls hl => ?_)
                refine lv_aload_n hx hb dX12_rules_115 rfl (lv_at hl 4 rfl) ?_
                refine lv_aload_n hx hb dX12_rules_116 rfl (lv_at hl 4 rfl) ?_
                refine x_getI E h (fi_mo_sort g) rfl hwX12 (by decide) (by decide +kernel) (v := x72) e78 dX12_rules_117 ?_
                replace hR13 := bd_to hR13 e78
                refine lv_iconst (v := 3) hx hb dX12_rules_120 (by decide) ?_
                refine lv_icmp_ne (tgt := 128) hx hb dX12_rules_121 (by decide) (fun c80 => ?_) (fun c80 => ?_)
                · skip
                  replace hR13 := it_f hR13 c80
                  refine lv_iconst (v := 0) hx hb dX12_rules_128 (by decide) ?_
                  replace hR13 : fX12_rules_0b129 (fX12_rules_0l25 fu13) x71 i13_2 (nI m66_0n) r75 0 s75 = R := hR13
                  refine x_vi E h (na := 1) (As := [.int 0]) (aX12_due_3 l g s75 hI75 n9 e76 m66_0a e77 m75_0s u75_0_0 (by omega) (by omega) (by omega)) (oc_mo g) rfl gX12_rules_X12_due rfl ⟨rfl, rfl⟩ rfl (by decide +kernel) ⟨Nat.le_of_ble_eq_true rfl, Nat.le_of_ble_eq_true rfl⟩ hl.1 rfl (Nat.le_of_ble_eq_true rfl) dX12_rules_129 ⟨Nat.le_of_ble_eq_true rfl, Nat.le_of_ble_eq_true rfl⟩ (fun r82 s82 H locs q82 h => ?_)
                  obtain ⟨x82, hI82, f82⟩ := q82
                  replace hR13 := bp_to hR13 x82
                  have hF82 := hF75.call f82 (I := [(25, 30)]) (J := [(66, 66)]) rfl rfl
                  have e83 : s82.1 25 = nI n9 := ((f82.1 25 rfl)).trans e76
                  have e84 : s82.1 26 = nI m66_0a := ((f82.1 26 rfl)).trans e77
                  have e85 : s82.1 28 = x72 := ((f82.1 28 rfl)).trans e78
                  have e86 : s82.1 30 = nI m75_0s := ((f82.1 30 rfl)).trans u75_0_0
                  have a87 : NX s82 := NX.eq a79 (f82.1 28 rfl) (f82.1 29 rfl)
                  refine lv_pop hx hb dX12_rules_132 rfl ?_
                  refine lv_aload_n hx hb dX12_rules_133 rfl (lv_at hl 4 rfl) ?_
                  refine x_getR E h (fr_mo_rule g) rfl hwX12 (by decide) (by decide +kernel) dX12_rules_134 ?_
                  refine lv_bipush (v := 6) hx hb dX12_rules_137 (by decide) ?_
                  refine lv_iload_n hx hb dX12_rules_139 rfl (lv_at hl 2 rfl) ?_
                  refine lv_iadd hx hb dX12_rules_140 ?_
                  refine x_topI (v2 := nI (6 + m66_0n)) (nI_add 6 m66_0n) ?_
                  replace hR13 := bd_to hR13 (nI_add 6 m66_0n)
                  refine lv_iload hx hb dX12_rules_141 (lv_at hl 0 rfl) ?_
                  refine y_stI E h hI82 hF82 (ia_mo_rule g) (i := nI (6 + m66_0n)) (vp_in_nI (by omega) (by decide)) (j := (6 + m66_0n)) (nI_clamp (by omega)) (ba_none rfl) rfl dX12_rules_143 (fun s88 H locs q88 hI88 hF88 h => ?_)
                  replace hR13 := st_to hR13 (nI_clamp (n := 6 + m66_0n) (by omega)) q88
                  have e89 : s88.1 25 = nI n9 := (congrArg (fun t : ST => t.1 25) q88).trans e83
                  have e90 : s88.1 26 = nI m66_0a := (congrArg (fun t : ST => t.1 26) q88).trans e84
                  have e91 : s88.1 28 = x72 := (congrArg (fun t : ST => t.1 28) q88).trans e85
                  have e92 : s88.1 30 = nI m75_0s := (congrArg (fun t : ST => t.1 30) q88).trans e86
                  have a93 : NX s88 := NX.eq a87 ((congrArg (fun t : ST => t.1 28) q88).trans rfl) ((congrArg (fun t : ST => t.1 29) q88).trans rfl)
                  obtain ⟨z94, e94⟩ : ∃ y : Int32, y = i13_2 + 1 := ⟨_, rfl⟩
                  replace hR13 := bd_to hR13 e94.symm
                  refine lv_iinc (v := z94) (lv' := [(2, .int z94), (4, .int r75), (1, .int x71), (3, .int (nI m66_0n)), (0, .ref (g.2.1 79))]) hx hb dX12_rules_144 hl (k := 3) rfl e94.symm (by decide) rfl (fun ls hl => ?_)
                  refine lv_goto (tgt := 25) hx hb dX12_rules_147 (by decide) ?_
                  obtain ⟨fu95, rfl⟩ : ∃ z, fu13 = z + 1 := ⟨fu13 - 1, by omega⟩
                  replace hR13 : fX12_rules_0b25 (fX12_rules_0l25 fu95) x71 z94 s88 = R := hR13
                  refine lv_aload_n hx hb dX12_rules_25 rfl (lv_at hl 4 rfl) ?_
                  refine x_getI E h (fi_mo_fault g) rfl hwX12 (by decide) (by decide +kernel) (v := nI m75_0s) e92 dX12_rules_26 ?_
                  replace hR13 := bd_to hR13 e92
                  refine lv_bipush (v := (-9)) hx hb dX12_rules_29 (by decide) ?_
                  replace hR13 := it_f hR13 (y_neq m75_0s (by omega) (by decide))
                  refine lv_icmp_ne (tgt := 150) hx hb dX12_rules_31 (by decide) (fun _ => ?_) (fun c => absurd c (y_neq m75_0s (by omega) (by decide)))
                  refine lv_aload_n hx hb dX12_rules_150 rfl (lv_at hl 4 rfl) ?_
                  refine x_getI E h (fi_mo_fault g) rfl hwX12 (by decide) (by decide +kernel) (v := nI m75_0s) e92 dX12_rules_151 ?_
                  replace hR13 := bd_to hR13 e92
                  refine lv_bipush (v := (-9)) hx hb dX12_rules_154 (by decide) ?_
                  replace hR13 := it_f hR13 (y_neq m75_0s (by omega) (by decide))
                  refine lv_icmp_eq (tgt := 167) hx hb dX12_rules_156 (by decide) (fun c => absurd c (y_neq m75_0s (by omega) (by decide))) (fun _ => ?_)
                  refine lv_bipush (v := (-10)) hx hb dX12_rules_159 (by decide) ?_
                  refine lv_aload_n hx hb dX12_rules_161 rfl (lv_at hl 4 rfl) ?_
                  refine x_getI E h (fi_mo_fault g) rfl hwX12 (by decide) (by decide +kernel) (v := nI m75_0s) e92 dX12_rules_162 ?_
                  replace hR13 := bd_to hR13 e92
                  refine lv_isub hx hb dX12_rules_165 ?_
                  refine lv_topi (fun x96 e96 => ?_)
                  replace hR13 := bd_to hR13 e96.symm
                  subst hPQ
                  exact x_iret E h ⟨hR0.trans hR13.symm, hI88, hF88⟩ dX12_rules_166
                · skip
                  replace hR13 := it_t hR13 c80
                  subst c80
                  refine lv_iconst (v := 1) hx hb dX12_rules_124 (by decide) ?_
                  refine lv_goto (tgt := 129) hx hb dX12_rules_125 (by decide) ?_
                  replace hR13 : fX12_rules_0b129 (fX12_rules_0l25 fu13) x71 i13_2 (nI m66_0n) r75 1 s75 = R := hR13
                  refine x_vi E h (na := 1) (As := [.int 1]) (aX12_due_4 l g s75 hI75 n9 e76 m66_0a e77 m75_0s u75_0_0 (by omega) (by omega) (by omega)) (oc_mo g) rfl gX12_rules_X12_due rfl ⟨rfl, rfl⟩ rfl (by decide +kernel) ⟨Nat.le_of_ble_eq_true rfl, Nat.le_of_ble_eq_true rfl⟩ hl.1 rfl (Nat.le_of_ble_eq_true rfl) dX12_rules_129 ⟨Nat.le_of_ble_eq_true rfl, Nat.le_of_ble_eq_true rfl⟩ (fun r98 s98 H locs q98 h => ?_)
                  obtain ⟨x98, hI98, f98⟩ := q98
                  replace hR13 := bp_to hR13 x98
                  have hF98 := hF75.call f98 (I := [(25, 30)]) (J := [(66, 66)]) rfl rfl
                  have e99 : s98.1 25 = nI n9 := ((f98.1 25 rfl)).trans e76
                  have e100 : s98.1 26 = nI m66_0a := ((f98.1 26 rfl)).trans e77
                  have e101 : s98.1 28 = 3 := ((f98.1 28 rfl)).trans e78
                  have e102 : s98.1 30 = nI m75_0s := ((f98.1 30 rfl)).trans u75_0_0
                  have a103 : NX s98 := NX.eq a79 (f98.1 28 rfl) (f98.1 29 rfl)
                  refine lv_pop hx hb dX12_rules_132 rfl ?_
                  refine lv_aload_n hx hb dX12_rules_133 rfl (lv_at hl 4 rfl) ?_
                  refine x_getR E h (fr_mo_rule g) rfl hwX12 (by decide) (by decide +kernel) dX12_rules_134 ?_
                  refine lv_bipush (v := 6) hx hb dX12_rules_137 (by decide) ?_
                  refine lv_iload_n hx hb dX12_rules_139 rfl (lv_at hl 2 rfl) ?_
                  refine lv_iadd hx hb dX12_rules_140 ?_
                  refine x_topI (v2 := nI (6 + m66_0n)) (nI_add 6 m66_0n) ?_
                  replace hR13 := bd_to hR13 (nI_add 6 m66_0n)
                  refine lv_iload hx hb dX12_rules_141 (lv_at hl 0 rfl) ?_
                  refine y_stI E h hI98 hF98 (ia_mo_rule g) (i := nI (6 + m66_0n)) (vp_in_nI (by omega) (by decide)) (j := (6 + m66_0n)) (nI_clamp (by omega)) (ba_none rfl) rfl dX12_rules_143 (fun s104 H locs q104 hI104 hF104 h => ?_)
                  replace hR13 := st_to hR13 (nI_clamp (n := 6 + m66_0n) (by omega)) q104
                  have e105 : s104.1 25 = nI n9 := (congrArg (fun t : ST => t.1 25) q104).trans e99
                  have e106 : s104.1 26 = nI m66_0a := (congrArg (fun t : ST => t.1 26) q104).trans e100
                  have e107 : s104.1 28 = 3 := (congrArg (fun t : ST => t.1 28) q104).trans e101
                  have e108 : s104.1 30 = nI m75_0s := (congrArg (fun t : ST => t.1 30) q104).trans e102
                  have a109 : NX s104 := NX.eq a103 ((congrArg (fun t : ST => t.1 28) q104).trans rfl) ((congrArg (fun t : ST => t.1 29) q104).trans rfl)
                  obtain ⟨z110, e110⟩ : ∃ y : Int32, y = i13_2 + 1 := ⟨_, rfl⟩
                  replace hR13 := bd_to hR13 e110.symm
                  refine lv_iinc (v := z110) (lv' := [(2, .int z110), (4, .int r75), (1, .int x71), (3, .int (nI m66_0n)), (0, .ref (g.2.1 79))]) hx hb dX12_rules_144 hl (k := 3) rfl e110.symm (by decide) rfl (fun ls hl => ?_)
                  refine lv_goto (tgt := 25) hx hb dX12_rules_147 (by decide) ?_
                  obtain ⟨fu111, rfl⟩ : ∃ z, fu13 = z + 1 := ⟨fu13 - 1, by omega⟩
                  replace hR13 : fX12_rules_0b25 (fX12_rules_0l25 fu111) x71 z110 s104 = R := hR13
                  refine lv_aload_n hx hb dX12_rules_25 rfl (lv_at hl 4 rfl) ?_
                  refine x_getI E h (fi_mo_fault g) rfl hwX12 (by decide) (by decide +kernel) (v := nI m75_0s) e108 dX12_rules_26 ?_
                  replace hR13 := bd_to hR13 e108
                  refine lv_bipush (v := (-9)) hx hb dX12_rules_29 (by decide) ?_
                  replace hR13 := it_f hR13 (y_neq m75_0s (by omega) (by decide))
                  refine lv_icmp_ne (tgt := 150) hx hb dX12_rules_31 (by decide) (fun _ => ?_) (fun c => absurd c (y_neq m75_0s (by omega) (by decide)))
                  refine lv_aload_n hx hb dX12_rules_150 rfl (lv_at hl 4 rfl) ?_
                  refine x_getI E h (fi_mo_fault g) rfl hwX12 (by decide) (by decide +kernel) (v := nI m75_0s) e108 dX12_rules_151 ?_
                  replace hR13 := bd_to hR13 e108
                  refine lv_bipush (v := (-9)) hx hb dX12_rules_154 (by decide) ?_
                  replace hR13 := it_f hR13 (y_neq m75_0s (by omega) (by decide))
                  refine lv_icmp_eq (tgt := 167) hx hb dX12_rules_156 (by decide) (fun c => absurd c (y_neq m75_0s (by omega) (by decide))) (fun _ => ?_)
                  refine lv_bipush (v := (-10)) hx hb dX12_rules_159 (by decide) ?_
                  refine lv_aload_n hx hb dX12_rules_161 rfl (lv_at hl 4 rfl) ?_
                  refine x_getI E h (fi_mo_fault g) rfl hwX12 (by decide) (by decide +kernel) (v := nI m75_0s) e108 dX12_rules_162 ?_
                  replace hR13 := bd_to hR13 e108
                  refine lv_isub hx hb dX12_rules_165 ?_
                  refine lv_topi (fun x112 e112 => ?_)
                  replace hR13 := bd_to hR13 e112.symm
                  subst hPQ
                  exact x_iret E h ⟨hR0.trans hR13.symm, hI104, hF104⟩ dX12_rules_166
              · skip
                replace hR13 := it_t hR13 c73
                subst c73
                refine lv_aload_n hx hb dX12_rules_94 rfl (lv_at hl 3 rfl) ?_
                obtain ⟨x114, e114⟩ : ∃ x, s66.1 29 = x := ⟨_, rfl⟩
                refine x_getI E h (fi_mo_value g) rfl hwX12 (by decide) (by decide +kernel) (v := x114) e114 dX12_rules_95 ?_
                replace hR13 := bd_to hR13 e114
                refine lv_iload_n hx hb dX12_rules_98 rfl (lv_at hl 1 rfl) ?_
                refine x_si E h (na := 1) (As := [.int (nI m66_0n)]) (aX12_most_0 l g s66 hI66 (nI m66_0n)) gX12_rules_X12_most rfl ⟨rfl, rfl⟩ rfl (by decide +kernel) ⟨Nat.le_of_ble_eq_true rfl, Nat.le_of_ble_eq_true rfl⟩ hl.1 rfl (Nat.le_of_ble_eq_true rfl) dX12_rules_99 ⟨Nat.le_of_ble_eq_true rfl, Nat.le_of_ble_eq_true rfl⟩ (fun r115 s115 H locs q115 h => ?_)
                obtain ⟨x115, rfl⟩ := q115
                replace hR13 := bd_to hR13 x115
                refine lv_icmp_gt (tgt := 109) hx hb dX12_rules_102 (by decide) (fun c116 => ?_) (fun c116 => ?_)
                · skip
                  replace hR13 := it_t hR13 c116
                  refine lv_iconst (v := 0) hx hb dX12_rules_109 (by decide) ?_
                  replace hR13 : fX12_rules_0b110 (fX12_rules_0l25 fu13) x71 i13_2 (nI m66_0n) 0 s66 = R := hR13
                  refine x_vi E h (na := 1) (As := [.int 0]) (aX12_due_0 l g s66 hI66 n9 e67 m66_0a u66_0_0 e68 (by omega) (by omega)) (oc_mo g) rfl gX12_rules_X12_due rfl ⟨rfl, rfl⟩ rfl (by decide +kernel) ⟨Nat.le_of_ble_eq_true rfl, Nat.le_of_ble_eq_true rfl⟩ hl.1 rfl (Nat.le_of_ble_eq_true rfl) dX12_rules_110 ⟨Nat.le_of_ble_eq_true rfl, Nat.le_of_ble_eq_true rfl⟩ (fun r118 s118 H locs q118 h => ?_)
                  obtain ⟨x118, d118, hI118, f118⟩ := q118
                  replace hR13 := bp_to hR13 x118
                  have hF118 := hF66.call f118 (I := [(25, 30)]) (J := [(66, 66)]) rfl rfl
                  have e119 : s118.1 25 = nI n9 := ((f118.1 25 rfl)).trans e67
                  have e120 : s118.1 26 = nI m66_0a := ((f118.1 26 rfl)).trans u66_0_0
                  have e121 : s118.1 28 = 2 := ((f118.1 28 rfl)).trans e72
                  have e122 : s118.1 29 = x114 := ((f118.1 29 rfl)).trans e114
                  have a123 : NX s118 := NX.eq u66_0_3 (f118.1 28 rfl) (f118.1 29 rfl)
                  rcases d118 with ⟨m118_0s, u118_0_0, u118_0_1⟩
                  refine lv_istore (lv' := [(4, .int r118), (1, .int x71), (3, .int (nI m66_0n)), (2, .int i13_2), (0, .ref (g.2.1 79))]) hx hb dX12_rules_113 hl (by decide) rfl (fun ls hl => ?_)
                  refine lv_aload_n hx hb dX12_rules_115 rfl (lv_at hl 4 rfl) ?_
                  refine lv_aload_n hx hb dX12_rules_116 rfl (lv_at hl 4 rfl) ?_
                  refine x_getI E h (fi_mo_sort g) rfl hwX12 (by decide) (by decide +kernel) (v := 2) e121 dX12_rules_117 ?_
                  replace hR13 := bd_to hR13 e121
                  refine lv_iconst (v := 3) hx hb dX12_rules_120 (by decide) ?_
                  replace hR13 := it_f hR13 (by decide)
                  refine lv_icmp_ne (tgt := 128) hx hb dX12_rules_121 (by decide) (fun _ => ?_) (fun c => absurd c (by decide))
                  refine lv_iconst (v := 0) hx hb dX12_rules_128 (by decide) ?_
                  replace hR13 : fX12_rules_0b129 (fX12_rules_0l25 fu13) x71 i13_2 (nI m66_0n) r118 0 s118 = R := hR13
                  refine x_vi E h (na := 1) (As := [.int 0]) (aX12_due_3 l g s118 hI118 n9 e119 m66_0a e120 m118_0s u118_0_0 (by omega) (by omega) (by omega)) (oc_mo g) rfl gX12_rules_X12_due rfl ⟨rfl, rfl⟩ rfl (by decide +kernel) ⟨Nat.le_of_ble_eq_true rfl, Nat.le_of_ble_eq_true rfl⟩ hl.1 rfl (Nat.le_of_ble_eq_true rfl) dX12_rules_129 ⟨Nat.le_of_ble_eq_true rfl, Nat.le_of_ble_eq_true rfl⟩ (fun r124 s124 H locs q124 h => ?_)
                  obtain ⟨x124, hI124, f124⟩ := q124
                  replace hR13 := bp_to hR13 x124
                  have hF124 := hF118.call f124 (I := [(25, 30)]) (J := [(66, 66)]) rfl rfl
                  have e125 : s124.1 25 = nI n9 := ((f124.1 25 rfl)).trans e119
                  have e126 : s124.1 26 = nI m66_0a := ((f124.1 26 rfl)).trans e120
                  have e127 : s124.1 28 = 2 := ((f124.1 28 rfl)).trans e121
                  have e128 : s124.1 29 = x114 := ((f124.1 29 rfl)).trans e122
                  have e129 : s124.1 30 = nI m118_0s := ((f124.1 30 rfl)).trans u118_0_0
                  have a130 : NX s124 := NX.eq a123 (f124.1 28 rfl) (f124.1 29 rfl)
                  refine lv_pop hx hb dX12_rules_132 rfl ?_
                  refine lv_aload_n hx hb dX12_rules_133 rfl (lv_at hl 4 rfl) ?_
                  refine x_getR E h (fr_mo_rule g) rfl hwX12 (by decide) (by decide +kernel) dX12_rules_134 ?_
                  refine lv_bipush (v := 6) hx hb dX12_rules_137 (by decide) ?_
                  refine lv_iload_n hx hb dX12_rules_139 rfl (lv_at hl 2 rfl) ?_
                  refine lv_iadd hx hb dX12_rules_140 ?_
                  refine x_topI (v2 := nI (6 + m66_0n)) (nI_add 6 m66_0n) ?_
                  replace hR13 := bd_to hR13 (nI_add 6 m66_0n)
                  refine lv_iload hx hb dX12_rules_141 (lv_at hl 0 rfl) ?_
                  refine y_stI E h hI124 hF124 (ia_mo_rule g) (i := nI (6 + m66_0n)) (vp_in_nI (by omega) (by decide)) (j := (6 + m66_0n)) (nI_clamp (by omega)) (ba_none rfl) rfl dX12_rules_143 (fun s131 H locs q131 hI131 hF131 h => ?_)
                  replace hR13 := st_to hR13 (nI_clamp (n := 6 + m66_0n) (by omega)) q131
                  have e132 : s131.1 25 = nI n9 := (congrArg (fun t : ST => t.1 25) q131).trans e125
                  have e133 : s131.1 26 = nI m66_0a := (congrArg (fun t : ST => t.1 26) q131).trans e126
                  have e134 : s131.1 28 = 2 := (congrArg (fun t : ST => t.1 28) q131).trans e127
                  have e135 : s131.1 29 = x114 := (congrArg (fun t : ST => t.1 29) q131).trans e128
                  have e136 : s131.1 30 = nI m118_0s := (congrArg (fun t : ST => t.1 30) q131).trans e129
                  have a137 : NX s131 := NX.eq a130 ((congrArg (fun t : ST => t.1 28) q131).trans rfl) ((congrArg (fun t : ST => t.1 29) q131).trans rfl)
                  obtain ⟨z138, e138⟩ : ∃ y : Int32, y = i13_2 + 1 := ⟨_, rfl⟩
                  replace hR13 := bd_to hR13 e138.symm
                  refine lv_iinc (v := z138) (lv' := [(2, .int z138), (4, .int r118), (1, .int x71), (3, .int (nI m66_0n)), (0, .ref (g.2.1 79))]) hx hb dX12_rules_144 hl (k := 3) rfl e138.symm (by decide) rfl (fun ls hl => ?_)
                  refine lv_goto (tgt := 25) hx hb dX12_rules_147 (by decide) ?_
                  obtain ⟨fu139, rfl⟩ : ∃ z, fu13 = z + 1 := ⟨fu13 - 1, by omega⟩
                  replace hR13 : fX12_rules_0b25 (fX12_rules_0l25 fu139) x71 z138 s131 = R := hR13
                  refine lv_aload_n hx hb dX12_rules_25 rfl (lv_at hl 4 rfl) ?_
                  refine x_getI E h (fi_mo_fault g) rfl hwX12 (by decide) (by decide +kernel) (v := nI m118_0s) e136 dX12_rules_26 ?_
                  replace hR13 := bd_to hR13 e136
                  refine lv_bipush (v := (-9)) hx hb dX12_rules_29 (by decide) ?_
                  replace hR13 := it_f hR13 (y_neq m118_0s (by omega) (by decide))
                  refine lv_icmp_ne (tgt := 150) hx hb dX12_rules_31 (by decide) (fun _ => ?_) (fun c => absurd c (y_neq m118_0s (by omega) (by decide)))
                  refine lv_aload_n hx hb dX12_rules_150 rfl (lv_at hl 4 rfl) ?_
                  refine x_getI E h (fi_mo_fault g) rfl hwX12 (by decide) (by decide +kernel) (v := nI m118_0s) e136 dX12_rules_151 ?_
                  replace hR13 := bd_to hR13 e136
                  refine lv_bipush (v := (-9)) hx hb dX12_rules_154 (by decide) ?_
                  replace hR13 := it_f hR13 (y_neq m118_0s (by omega) (by decide))
                  refine lv_icmp_eq (tgt := 167) hx hb dX12_rules_156 (by decide) (fun c => absurd c (y_neq m118_0s (by omega) (by decide))) (fun _ => ?_)
                  refine lv_bipush (v := (-10)) hx hb dX12_rules_159 (by decide) ?_
                  refine lv_aload_n hx hb dX12_rules_161 rfl (lv_at hl 4 rfl) ?_
                  refine x_getI E h (fi_mo_fault g) rfl hwX12 (by decide) (by decide +kernel) (v := nI m118_0s) e136 dX12_rules_162 ?_
                  replace hR13 := bd_to hR13 e136
                  refine lv_isub hx hb dX12_rules_165 ?_
                  refine lv_topi (fun x140 e140 => ?_)
                  replace hR13 := bd_to hR13 e140.symm
                  subst hPQ
                  exact x_iret E h ⟨hR0.trans hR13.symm, hI131, hF131⟩ dX12_rules_166
                · skip
                  replace hR13 := it_f hR13 c116
                  refine lv_iconst (v := 1) hx hb dX12_rules_105 (by decide) ?_
                  refine lv_goto (tgt := 110) hx hb dX12_rules_106 (by decide) ?_
                  replace hR13 : fX12_rules_0b110 (fX12_rules_0l25 fu13) x71 i13_2 (nI m66_0n) 1 s66 = R := hR13
                  refine x_vi E h (na := 1) (As := [.int 1]) (aX12_due_5 l g s66 hI66 n9 e67 m66_0a u66_0_0 e68 (by omega) (by omega)) (oc_mo g) rfl gX12_rules_X12_due rfl ⟨rfl, rfl⟩ rfl (by decide +kernel) ⟨Nat.le_of_ble_eq_true rfl, Nat.le_of_ble_eq_true rfl⟩ hl.1 rfl (Nat.le_of_ble_eq_true rfl) dX12_rules_110 ⟨Nat.le_of_ble_eq_true rfl, Nat.le_of_ble_eq_true rfl⟩ (fun r142 s142 H locs q142 h => ?_)
                  obtain ⟨x142, d142, hI142, f142⟩ := q142
                  replace hR13 := bp_to hR13 x142
                  have hF142 := hF66.call f142 (I := [(25, 30)]) (J := [(66, 66)]) rfl rfl
                  have e143 : s142.1 25 = nI n9 := ((f142.1 25 rfl)).trans e67
                  have e144 : s142.1 30 = (-9) := ((f142.1 30 rfl)).trans e68
                  rcases d142 with ⟨m142_0a, u142_0_0, u142_0_1, u142_0_2, u142_0_3, u142_0_4⟩
                  refine lv_istore (lv' := [(4, .int r142), (1, .int x71), (3, .int (nI m66_0n)), (2, .int i13_2), (0, .ref (g.2.1 79))]) hx hb dX12_rules_113 hl (by decide) rfl (fun ls hl => ?_)
                  refine lv_aload_n hx hb dX12_rules_115 rfl (lv_at hl 4 rfl) ?_
                  refine lv_aload_n hx hb dX12_rules_116 rfl (lv_at hl 4 rfl) ?_
                  obtain ⟨x146, e146⟩ : ∃ x, s142.1 28 = x := ⟨_, rfl⟩
                  refine x_getI E h (fi_mo_sort g) rfl hwX12 (by decide) (by decide +kernel) (v := x146) e146 dX12_rules_117 ?_
                  replace hR13 := bd_to hR13 e146
                  refine lv_iconst (v := 3) hx hb dX12_rules_120 (by decide) ?_
                  refine lv_icmp_ne (tgt := 128) hx hb dX12_rules_121 (by decide) (fun c147 => ?_) (fun c147 => ?_)
                  · skip
                    replace hR13 := it_f hR13 c147
                    refine lv_iconst (v := 0) hx hb dX12_rules_128 (by decide) ?_
                    replace hR13 : fX12_rules_0b129 (fX12_rules_0l25 fu13) x71 i13_2 (nI m66_0n) r142 0 s142 = R := hR13
                    refine x_vi E h (na := 1) (As := [.int 0]) (aX12_due_0 l g s142 hI142 n9 e143 m142_0a u142_0_0 e144 (by omega) (by omega)) (oc_mo g) rfl gX12_rules_X12_due rfl ⟨rfl, rfl⟩ rfl (by decide +kernel) ⟨Nat.le_of_ble_eq_true rfl, Nat.le_of_ble_eq_true rfl⟩ hl.1 rfl (Nat.le_of_ble_eq_true rfl) dX12_rules_129 ⟨Nat.le_of_ble_eq_true rfl, Nat.le_of_ble_eq_true rfl⟩ (fun r149 s149 H locs q149 h => ?_)
                    obtain ⟨x149, d149, hI149, f149⟩ := q149
                    replace hR13 := bp_to hR13 x149
                    have hF149 := hF142.call f149 (I := [(25, 30)]) (J := [(66, 66)]) rfl rfl
                    have e150 : s149.1 25 = nI n9 := ((f149.1 25 rfl)).trans e143
                    have e151 : s149.1 26 = nI m142_0a := ((f149.1 26 rfl)).trans u142_0_0
                    have e152 : s149.1 28 = x146 := ((f149.1 28 rfl)).trans e146
                    have a153 : NX s149 := NX.eq u142_0_3 (f149.1 28 rfl) (f149.1 29 rfl)
                    rcases d149 with ⟨m149_0s, u149_0_0, u149_0_1⟩
                    refine lv_pop hx hb dX12_rules_132 rfl ?_
                    refine lv_aload_n hx hb dX12_rules_133 rfl (lv_at hl 4 rfl) ?_
                    refine x_getR E h (fr_mo_rule g) rfl hwX12 (by decide) (by decide +kernel) dX12_rules_134 ?_
                    refine lv_bipush (v := 6) hx hb dX12_rules_137 (by decide) ?_
                    refine lv_iload_n hx hb dX12_rules_139 rfl (lv_at hl 2 rfl) ?_
                    refine lv_iadd hx hb dX12_rules_140 ?_
                    refine x_topI (v2 := nI (6 + m66_0n)) (nI_add 6 m66_0n) ?_
                    replace hR13 := bd_to hR13 (nI_add 6 m66_0n)
                    refine lv_iload hx hb dX12_rules_141 (lv_at hl 0 rfl) ?_
                    refine y_stI E h hI149 hF149 (ia_mo_rule g) (i := nI (6 + m66_0n)) (vp_in_nI (by omega) (by decide)) (j := (6 + m66_0n)) (nI_clamp (by omega)) (ba_none rfl) rfl dX12_rules_143 (fun s154 H locs q154 hI154 hF154 h => ?_)
                    replace hR13 := st_to hR13 (nI_clamp (n := 6 + m66_0n) (by omega)) q154
                    have e155 : s154.1 25 = nI n9 := (congrArg (fun t : ST => t.1 25) q154).trans e150
                    have e156 : s154.1 26 = nI m142_0a := (congrArg (fun t : ST => t.1 26) q154).trans e151
                    have e157 : s154.1 28 = x146 := (congrArg (fun t : ST => t.1 28) q154).trans e152
                    have e158 : s154.1 30 = nI m149_0s := (congrArg (fun t : ST => t.1 30) q154).trans u149_0_0
                    have a159 : NX s154 := NX.eq a153 ((congrArg (fun t : ST => t.1 28) q154).trans rfl) ((congrArg (fun t : ST => t.1 29) q154).trans rfl)
                    obtain ⟨z160, e160⟩ : ∃ y : Int32, y = i13_2 + 1 := ⟨_, rfl⟩
                    replace hR13 := bd_to hR13 e160.symm
                    refine lv_iinc (v := z160) (lv' := [(2, .int z160), (4, .int r142), (1, .int x71), (3, .int (nI m66_0n)), (0, .ref (g.2.1 79))]) hx hb dX12_rules_144 hl (k := 3) rfl e160.symm (by decide) rfl (fun ls hl => ?_)
                    refine lv_goto (tgt := 25) hx hb dX12_rules_147 (by decide) ?_
                    obtain ⟨fu161, rfl⟩ : ∃ z, fu13 = z + 1 := ⟨fu13 - 1, by omega⟩
                    replace hR13 : fX12_rules_0b25 (fX12_rules_0l25 fu161) x71 z160 s154 = R := hR13
                    refine lv_aload_n hx hb dX12_rules_25 rfl (lv_at hl 4 rfl) ?_
                    refine x_getI E h (fi_mo_fault g) rfl hwX12 (by decide) (by decide +kernel) (v := nI m149_0s) e158 dX12_rules_26 ?_
                    replace hR13 := bd_to hR13 e158
                    refine lv_bipush (v := (-9)) hx hb dX12_rules_29 (by decide) ?_
                    replace hR13 := it_f hR13 (y_neq m149_0s (by omega) (by decide))
                    refine lv_icmp_ne (tgt := 150) hx hb dX12_rules_31 (by decide) (fun _ => ?_) (fun c => absurd c (y_neq m149_0s (by omega) (by decide)))
                    refine lv_aload_n hx hb dX12_rules_150 rfl (lv_at hl 4 rfl) ?_
                    refine x_getI E h (fi_mo_fault g) rfl hwX12 (by decide) (by decide +kernel) (v := nI m149_0s) e158 dX12_rules_151 ?_
                    replace hR13 := bd_to hR13 e158
                    refine lv_bipush (v := (-9)) hx hb dX12_rules_154 (by decide) ?_
                    replace hR13 := it_f hR13 (y_neq m149_0s (by omega) (by decide))
                    refine lv_icmp_eq (tgt := 167) hx hb dX12_rules_156 (by decide) (fun c => absurd c (y_neq m149_0s (by omega) (by decide))) (fun _ => ?_)
                    refine lv_bipush (v := (-10)) hx hb dX12_rules_159 (by decide) ?_
                    refine lv_aload_n hx hb dX12_rules_161 rfl (lv_at hl 4 rfl) ?_
                    refine x_getI E h (fi_mo_fault g) rfl hwX12 (by decide) (by decide +kernel) (v := nI m149_0s) e158 dX12_rules_162 ?_
                    replace hR13 := bd_to hR13 e158
                    refine lv_isub hx hb dX12_rules_165 ?_
                    refine lv_topi (fun x162 e162 => ?_)
                    replace hR13 := bd_to hR13 e162.symm
                    subst hPQ
                    exact x_iret E h ⟨hR0.trans hR13.symm, hI154, hF154⟩ dX12_rules_166
                  · skip
                    replace hR13 := it_t hR13 c147
                    subst c147
                    have b164 := u142_0_4 e146
                    refine lv_iconst (v := 1) hx hb dX12_rules_124 (by decide) ?_
                    refine lv_goto (tgt := 129) hx hb dX12_rules_125 (by decide) ?_
                    replace hR13 : fX12_rules_0b129 (fX12_rules_0l25 fu13) x71 i13_2 (nI m66_0n) r142 1 s142 = R := hR13
                    refine x_vi E h (na := 1) (As := [.int 1]) (aX12_due_5 l g s142 hI142 n9 e143 m142_0a u142_0_0 e144 (by omega) (by omega)) (oc_mo g) rfl gX12_rules_X12_due rfl ⟨rfl, rfl⟩ rfl (by decide +kernel) ⟨Nat.le_of_ble_eq_true rfl, Nat.le_of_ble_eq_true rfl⟩ hl.1 rfl (Nat.le_of_ble_eq_true rfl) dX12_rules_129 ⟨Nat.le_of_ble_eq_true rfl, Nat.le_of_ble_eq_true rfl⟩ (fun r165 s165 H locs q165 h => ?_)
                    obtain ⟨x165, d165, hI165, f165⟩ := q165
                    replace hR13 := bp_to hR13 x165
                    have hF165 := hF142.call f165 (I := [(25, 30)]) (J := [(66, 66)]) rfl rfl
                    have e166 : s165.1 25 = nI n9 := ((f165.1 25 rfl)).trans e143
                    have e167 : s165.1 30 = (-9) := ((f165.1 30 rfl)).trans e144
                    rcases d165 with ⟨m165_0a, u165_0_0, u165_0_1, u165_0_2, u165_0_3, u165_0_4⟩
                    refine lv_pop hx hb dX12_rules_132 rfl ?_
                    refine lv_aload_n hx hb dX12_rules_133 rfl (lv_at hl 4 rfl) ?_
                    refine x_getR E h (fr_mo_rule g) rfl hwX12 (by decide) (by decide +kernel) dX12_rules_134 ?_
                    refine lv_bipush (v := 6) hx hb dX12_rules_137 (by decide) ?_
                    refine lv_iload_n hx hb dX12_rules_139 rfl (lv_at hl 2 rfl) ?_
                    refine lv_iadd hx hb dX12_rules_140 ?_
                    refine x_topI (v2 := nI (6 + m66_0n)) (nI_add 6 m66_0n) ?_
                    replace hR13 := bd_to hR13 (nI_add 6 m66_0n)
                    refine lv_iload hx hb dX12_rules_141 (lv_at hl 0 rfl) ?_
                    refine y_stI E h hI165 hF165 (ia_mo_rule g) (i := nI (6 + m66_0n)) (vp_in_nI (by omega) (by decide)) (j := (6 + m66_0n)) (nI_clamp (by omega)) (ba_none rfl) rfl dX12_rules_143 (fun s169 H locs q169 hI169 hF169 h => ?_)
                    replace hR13 := st_to hR13 (nI_clamp (n := 6 + m66_0n) (by omega)) q169
                    have e170 : s169.1 25 = nI n9 := (congrArg (fun t : ST => t.1 25) q169).trans e166
                    have e171 : s169.1 30 = (-9) := (congrArg (fun t : ST => t.1 30) q169).trans e167
                    have e172 : s169.1 26 = nI m165_0a := (congrArg (fun t : ST => t.1 26) q169).trans u165_0_0
                    have a173 : NX s169 := NX.eq u165_0_3 ((congrArg (fun t : ST => t.1 28) q169).trans rfl) ((congrArg (fun t : ST => t.1 29) q169).trans rfl)
                    obtain ⟨z174, e174⟩ : ∃ y : Int32, y = i13_2 + 1 := ⟨_, rfl⟩
                    replace hR13 := bd_to hR13 e174.symm
                    refine lv_iinc (v := z174) (lv' := [(2, .int z174), (4, .int r142), (1, .int x71), (3, .int (nI m66_0n)), (0, .ref (g.2.1 79))]) hx hb dX12_rules_144 hl (k := 3) rfl e174.symm (by decide) rfl (fun ls hl => ?_)
                    refine lv_goto (tgt := 25) hx hb dX12_rules_147 (by decide) ?_
                    exact ih13 s169 m165_0a z174 x71 hI169 hF169 e170 e172 (by omega) a173 hR13 (by omega) _ _ _ h (lv_sub hl [0, 2, 4] rfl)
  exact loop25_13 4096 s10 m10_0a 0 0 hI10 hF10 e12 u10_0_0 (by omega) u10_0_3 hR (by omega) _ _ _ h (lv_sub hl [0, 1, 2] rfl)
set_option maxHeartbeats 4000000 in
set_option maxRecDepth 100000 in
theorem aX12_rule_0 (l : Launch) (g : CX) (σ : ST) (hI : INV σ) (p1 : Int32) : XM l g yX12_rule wsX12_rule { frames := 1, cells := 0, slots := 0, locals := 22 } [.ref (g.2.1 79), .int p1] σ (XQi g (fun r σ' => fX12_rule_0 p1 σ = r ∧ σ = σ')) := by
  refine x_met (own := RX12) (cc := cX12_rule) (maxL := 2) (ret := (some .int)) (lv := [(0, .ref (g.2.1 79)), (1, .int p1)]) (by decide) rfl rfl (Nat.le_of_ble_eq_true rfl) rfl ?_
  intro p e s m args below meth c ls E h hl
  have hx := E.1
  have hb := E.2.1
  have hown := E.2.2.2.1
  have hts := E.2.2.2.2.1
  obtain ⟨R, hR0⟩ : ∃ R, fX12_rule_0 p1 σ = R := ⟨_, rfl⟩
  have hR : fX12_rule_0b0 p1 σ = R := hR0
  have hwX12 : ∀ w ∈ wsX120, w ∈ wsX12_rule := by decide +kernel
  generalize hPQ : XQi g (fun r σ' => fX12_rule_0 p1 σ = r ∧ σ = σ') = PQz
  refine lv_iload_n hx hb dX12_rule_0 rfl (lv_at hl 1 rfl) ?_
  refine lv_iconst (v := 0) hx hb dX12_rule_1 (by decide) ?_
  refine lv_iconst (v := 5) hx hb dX12_rule_2 (by decide) ?_
  refine x_si E h (na := 3) (As := [.int p1, .int 0, .int 5]) (aX12_in_0 l g σ hI p1 0 5) gX12_rule_X12_in rfl ⟨rfl, rfl⟩ rfl (by decide +kernel) ⟨Nat.le_of_ble_eq_true rfl, Nat.le_of_ble_eq_true rfl⟩ hl.1 rfl (Nat.le_of_ble_eq_true rfl) dX12_rule_3 ⟨Nat.le_of_ble_eq_true rfl, Nat.le_of_ble_eq_true rfl⟩ (fun r1 s1 H locs q1 h => ?_)
  obtain ⟨x1, d1, rfl⟩ := q1
  replace hR := bd_to hR x1
  rcases d1 with ⟨rfl, u1_0_0, u1_0_1⟩ | ⟨rfl, u1_1_0⟩
  · skip
    obtain ⟨n2, b2, rfl⟩ := y_rnlt (N := 5) (y_lo1 u1_0_0 (by decide)) u1_0_1 (by omega)
    have b3 : 0 ≤ n2 := y_nlt (a := n2) (b := 0) (by omega) (by omega) u1_0_0
    have b4 : n2 ≤ 5 := y_nlt (a := 5) (b := n2) (by omega) (by omega) u1_0_1
    replace hR := it_f hR (by decide)
    refine lv_if_eq (tgt := 18) hx hb dX12_rule_6 (by decide) (fun c => absurd c (by decide)) (fun _ => ?_)
    refine lv_aload_n hx hb dX12_rule_9 rfl (lv_at hl 0 rfl) ?_
    refine x_getR E h (fr_mo_rule g) rfl hwX12 (by decide) (by decide +kernel) dX12_rule_10 ?_
    refine lv_iload_n hx hb dX12_rule_13 rfl (lv_at hl 1 rfl) ?_
    refine x_ldI E h (ia_mo_rule g) (i := nI n2) (vp_in_nI (by omega) (by decide)) (v := σ.2.2 66 n2) (congrArg (σ.2.2 66) (nI_clamp (n := n2) (by omega))) dX12_rule_14 ?_
    replace hR := bd_to hR (congrArg (σ.2.2 66) (nI_clamp (n := n2) (by omega)))
    refine lv_goto (tgt := 19) hx hb dX12_rule_15 (by decide) ?_
    subst hPQ
    exact x_iret E h ⟨hR0.trans hR.symm, rfl⟩ dX12_rule_19
  · skip
    replace hR := it_t hR (by decide)
    refine lv_if_eq (tgt := 18) hx hb dX12_rule_6 (by decide) (fun _ => ?_) (fun c => absurd (by decide) c)
    refine lv_iconst (v := (-1)) hx hb dX12_rule_18 (by decide) ?_
    replace hR : fX12_rule_0b19 (-1) σ = R := hR
    subst hPQ
    exact x_iret E h ⟨hR0.trans hR.symm, rfl⟩ dX12_rule_19
set_option maxHeartbeats 4000000 in
set_option maxRecDepth 100000 in
theorem aX12_addRow_0 (l : Launch) (g : CX) (σ : ST) (hI : INV σ) (p1 : Int32) (p2 : Int32) (p3 : Int32) (p4 : Int32) (p5 : Int32) (F31 : Nat) (eF31 : σ.1 31 = nI F31) (hh0 : F31 < 48) : XM l g yX12_addRow wsX12_addRow { frames := 0, cells := 0, slots := 0, locals := 0 } [.ref (g.2.1 79), .int p1, .int p2, .int p3, .int p4, .int p5] σ (XQv g (fun σ' => fX12_addRow_0 p1 p2 p3 p4 p5 σ = σ' ∧ ((∃ m : Nat, σ'.1 31 = nI m ∧ m = F31 + 1)) ∧ INV σ' ∧ Fr [(31, 31)] [(68, 71)] σ σ')) := by
  refine x_met (own := RX12) (cc := cX12_addRow) (maxL := 6) (ret := none) (lv := [(0, .ref (g.2.1 79)), (1, .int p1), (2, .int p2), (3, .int p3), (4, .int p4), (5, .int p5)]) (by decide) rfl rfl (Nat.le_of_ble_eq_true rfl) rfl ?_
  intro p e s m args below meth c ls E h hl
  have hx := E.1
  have hb := E.2.1
  have hown := E.2.2.2.1
  have hts := E.2.2.2.2.1
  have hF : Fr [(31, 31)] [(68, 71)] σ σ := Fr.refl σ
  obtain ⟨R, hR0⟩ : ∃ R, fX12_addRow_0 p1 p2 p3 p4 p5 σ = R := ⟨_, rfl⟩
  have hR : fX12_addRow_0b0 p1 p2 p3 p4 p5 σ = R := hR0
  have hwX12 : ∀ w ∈ wsX120, w ∈ wsX12_addRow := by decide +kernel
  generalize hPQ : XQv g (fun σ' => fX12_addRow_0 p1 p2 p3 p4 p5 σ = σ' ∧ ((∃ m : Nat, σ'.1 31 = nI m ∧ m = F31 + 1)) ∧ INV σ' ∧ Fr [(31, 31)] [(68, 71)] σ σ') = PQz
  refine lv_aload_n hx hb dX12_addRow_0 rfl (lv_at hl 0 rfl) ?_
  refine x_getR E h (fr_mo_number g) rfl hwX12 (by decide) (by decide +kernel) dX12_addRow_1 ?_
  refine lv_iconst (v := 4) hx hb dX12_addRow_4 (by decide) ?_
  refine lv_aload_n hx hb dX12_addRow_5 rfl (lv_at hl 0 rfl) ?_
  refine x_getI E h (fi_mo_rows g) rfl hwX12 (by decide) (by decide +kernel) (v := nI F31) eF31 dX12_addRow_6 ?_
  replace hR := bd_to hR eF31
  refine lv_imul hx hb dX12_addRow_9 ?_
  refine x_topI (v2 := nI (4 * F31)) (pk_mul 4 F31) ?_
  replace hR := bd_to hR (pk_mul 4 F31)
  refine lv_iload_n hx hb dX12_addRow_10 rfl (lv_at hl 1 rfl) ?_
  refine y_stI E h hI hF (ia_mo_number g) (i := nI (4 * F31)) (vp_in_nI (by omega) (by decide)) (j := (4 * F31)) (nI_clamp (by omega)) (ba_none rfl) rfl dX12_addRow_11 (fun s1 H locs q1 hI1 hF1 h => ?_)
  replace hR := st_to hR (nI_clamp (n := 4 * F31) (by omega)) q1
  have e2 : s1.1 31 = nI F31 := (congrArg (fun t : ST => t.1 31) q1).trans eF31
  refine lv_aload_n hx hb dX12_addRow_12 rfl (lv_at hl 0 rfl) ?_
  refine x_getR E h (fr_mo_number g) rfl hwX12 (by decide) (by decide +kernel) dX12_addRow_13 ?_
  refine lv_iconst (v := 4) hx hb dX12_addRow_16 (by decide) ?_
  refine lv_aload_n hx hb dX12_addRow_17 rfl (lv_at hl 0 rfl) ?_
  refine x_getI E h (fi_mo_rows g) rfl hwX12 (by decide) (by decide +kernel) (v := nI F31) e2 dX12_addRow_18 ?_
  replace hR := bd_to hR e2
  refine lv_imul hx hb dX12_addRow_21 ?_
  refine x_topI (v2 := nI (4 * F31)) (pk_mul 4 F31) ?_
  replace hR := bd_to hR (pk_mul 4 F31)
  refine lv_iconst (v := 1) hx hb dX12_addRow_22 (by decide) ?_
  refine lv_iadd hx hb dX12_addRow_23 ?_
  refine x_topI (v2 := nI ((4 * F31) + 1)) (nI_add (4 * F31) 1) ?_
  replace hR := bd_to hR (nI_add (4 * F31) 1)
  refine lv_iload_n hx hb dX12_addRow_24 rfl (lv_at hl 2 rfl) ?_
  refine y_stI E h hI1 hF1 (ia_mo_number g) (i := nI ((4 * F31) + 1)) (vp_in_nI (by omega) (by decide)) (j := ((4 * F31) + 1)) (nI_clamp (by omega)) (ba_none rfl) rfl dX12_addRow_25 (fun s3 H locs q3 hI3 hF3 h => ?_)
  replace hR := st_to hR (nI_clamp (n := (4 * F31) + 1) (by omega)) q3
  have e4 : s3.1 31 = nI F31 := (congrArg (fun t : ST => t.1 31) q3).trans e2
  refine lv_aload_n hx hb dX12_addRow_26 rfl (lv_at hl 0 rfl) ?_
  refine x_getR E h (fr_mo_number g) rfl hwX12 (by decide) (by decide +kernel) dX12_addRow_27 ?_
  refine lv_iconst (v := 4) hx hb dX12_addRow_30 (by decide) ?_
  refine lv_aload_n hx hb dX12_addRow_31 rfl (lv_at hl 0 rfl) ?_
  refine x_getI E h (fi_mo_rows g) rfl hwX12 (by decide) (by decide +kernel) (v := nI F31) e4 dX12_addRow_32 ?_
  replace hR := bd_to hR e4
  refine lv_imul hx hb dX12_addRow_35 ?_
  refine x_topI (v2 := nI (4 * F31)) (pk_mul 4 F31) ?_
  replace hR := bd_to hR (pk_mul 4 F31)
  refine lv_iconst (v := 2) hx hb dX12_addRow_36 (by decide) ?_
  refine lv_iadd hx hb dX12_addRow_37 ?_
  refine x_topI (v2 := nI ((4 * F31) + 2)) (nI_add (4 * F31) 2) ?_
  replace hR := bd_to hR (nI_add (4 * F31) 2)
  refine lv_iload_n hx hb dX12_addRow_38 rfl (lv_at hl 3 rfl) ?_
  refine y_stI E h hI3 hF3 (ia_mo_number g) (i := nI ((4 * F31) + 2)) (vp_in_nI (by omega) (by decide)) (j := ((4 * F31) + 2)) (nI_clamp (by omega)) (ba_none rfl) rfl dX12_addRow_39 (fun s5 H locs q5 hI5 hF5 h => ?_)
  replace hR := st_to hR (nI_clamp (n := (4 * F31) + 2) (by omega)) q5
  have e6 : s5.1 31 = nI F31 := (congrArg (fun t : ST => t.1 31) q5).trans e4
  refine lv_aload_n hx hb dX12_addRow_40 rfl (lv_at hl 0 rfl) ?_
  refine x_getR E h (fr_mo_number g) rfl hwX12 (by decide) (by decide +kernel) dX12_addRow_41 ?_
  refine lv_iconst (v := 4) hx hb dX12_addRow_44 (by decide) ?_
  refine lv_aload_n hx hb dX12_addRow_45 rfl (lv_at hl 0 rfl) ?_
  refine x_getI E h (fi_mo_rows g) rfl hwX12 (by decide) (by decide +kernel) (v := nI F31) e6 dX12_addRow_46 ?_
  replace hR := bd_to hR e6
  refine lv_imul hx hb dX12_addRow_49 ?_
  refine x_topI (v2 := nI (4 * F31)) (pk_mul 4 F31) ?_
  replace hR := bd_to hR (pk_mul 4 F31)
  refine lv_iconst (v := 3) hx hb dX12_addRow_50 (by decide) ?_
  refine lv_iadd hx hb dX12_addRow_51 ?_
  refine x_topI (v2 := nI ((4 * F31) + 3)) (nI_add (4 * F31) 3) ?_
  replace hR := bd_to hR (nI_add (4 * F31) 3)
  refine lv_iload hx hb dX12_addRow_52 (lv_at hl 4 rfl) ?_
  refine y_stI E h hI5 hF5 (ia_mo_number g) (i := nI ((4 * F31) + 3)) (vp_in_nI (by omega) (by decide)) (j := ((4 * F31) + 3)) (nI_clamp (by omega)) (ba_none rfl) rfl dX12_addRow_54 (fun s7 H locs q7 hI7 hF7 h => ?_)
  replace hR := st_to hR (nI_clamp (n := (4 * F31) + 3) (by omega)) q7
  have e8 : s7.1 31 = nI F31 := (congrArg (fun t : ST => t.1 31) q7).trans e6
  refine lv_aload_n hx hb dX12_addRow_55 rfl (lv_at hl 0 rfl) ?_
  refine x_getR E h (fr_mo_isDeaf g) rfl hwX12 (by decide) (by decide +kernel) dX12_addRow_56 ?_
  refine lv_aload_n hx hb dX12_addRow_59 rfl (lv_at hl 0 rfl) ?_
  refine x_getI E h (fi_mo_rows g) rfl hwX12 (by decide) (by decide +kernel) (v := nI F31) e8 dX12_addRow_60 ?_
  replace hR := bd_to hR e8
  refine lv_iload hx hb dX12_addRow_63 (lv_at hl 5 rfl) ?_
  refine y_stZ E h hI7 hF7 (ia_mo_isDeaf g) (i := nI F31) (vp_in_nI (by omega) (by decide)) (j := F31) (nI_clamp (by omega)) (ba_none rfl) rfl dX12_addRow_65 (fun s9 H locs q9 hI9 hF9 h => ?_)
  replace hR := st_to hR (nI_clamp (n := F31) (by omega)) q9
  have e10 : s9.1 31 = nI F31 := (congrArg (fun t : ST => t.1 31) q9).trans e8
  refine lv_aload_n hx hb dX12_addRow_66 rfl (lv_at hl 0 rfl) ?_
  refine x_getR E h (fr_mo_isOut g) rfl hwX12 (by decide) (by decide +kernel) dX12_addRow_67 ?_
  refine lv_aload_n hx hb dX12_addRow_70 rfl (lv_at hl 0 rfl) ?_
  refine x_getI E h (fi_mo_rows g) rfl hwX12 (by decide) (by decide +kernel) (v := nI F31) e10 dX12_addRow_71 ?_
  replace hR := bd_to hR e10
  refine lv_iconst (v := 0) hx hb dX12_addRow_74 (by decide) ?_
  refine y_stZ E h hI9 hF9 (ia_mo_isOut g) (i := nI F31) (vp_in_nI (by omega) (by decide)) (j := F31) (nI_clamp (by omega)) (ba_none rfl) rfl dX12_addRow_75 (fun s11 H locs q11 hI11 hF11 h => ?_)
  replace hR := st_to hR (nI_clamp (n := F31) (by omega)) q11
  have e12 : s11.1 31 = nI F31 := (congrArg (fun t : ST => t.1 31) q11).trans e10
  refine lv_aload_n hx hb dX12_addRow_76 rfl (lv_at hl 0 rfl) ?_
  refine x_getR E h (fr_mo_truth g) rfl hwX12 (by decide) (by decide +kernel) dX12_addRow_77 ?_
  refine lv_aload_n hx hb dX12_addRow_80 rfl (lv_at hl 0 rfl) ?_
  refine x_getI E h (fi_mo_rows g) rfl hwX12 (by decide) (by decide +kernel) (v := nI F31) e12 dX12_addRow_81 ?_
  replace hR := bd_to hR e12
  refine lv_iconst (v := 0) hx hb dX12_addRow_84 (by decide) ?_
  refine y_stI E h hI11 hF11 (ia_mo_truth g) (i := nI F31) (vp_in_nI (by omega) (by decide)) (j := F31) (nI_clamp (by omega)) (ba_some rfl (Bd.mk (n := 0) (by omega))) rfl dX12_addRow_85 (fun s13 H locs q13 hI13 hF13 h => ?_)
  replace hR := st_to hR (nI_clamp (n := F31) (by omega)) q13
  have e14 : s13.1 31 = nI F31 := (congrArg (fun t : ST => t.1 31) q13).trans e12
  refine lv_aload_n hx hb dX12_addRow_86 rfl (lv_at hl 0 rfl) ?_
  refine lv_dup hx hb dX12_addRow_87 rfl ?_
  refine x_getI E h (fi_mo_rows g) rfl hwX12 (by decide) (by decide +kernel) (v := nI F31) e14 dX12_addRow_88 ?_
  replace hR := bd_to hR e14
  refine lv_iconst (v := 1) hx hb dX12_addRow_91 (by decide) ?_
  refine lv_iadd hx hb dX12_addRow_92 ?_
  refine x_topI (v2 := nI (F31 + 1)) (nI_add F31 1) ?_
  replace hR := bd_to hR (nI_add F31 1)
  refine y_putI E h hI13 hF13 (ty := .int) (v := nI (F31 + 1)) (fi_mo_rows g) rfl hwX12 tyX12_ok nmX12 (by decide) (by decide +kernel) (by decide +kernel) (by decide +kernel) rfl rfl (ba_some rfl (Bd.mk (n := (F31 + 1)) (by omega))) rfl dX12_addRow_93 (fun s15 H locs q15 hI15 hF15 h => ?_)
  replace hR := bd_to hR q15.symm
  have e16 : s15.1 31 = nI (F31 + 1) := congrArg (fun t : ST => t.1 31) q15
  subst hPQ
  exact x_vret E h ⟨hR0.trans hR.symm, (⟨(F31 + 1), e16, (by omega)⟩), hI15, hF15⟩ dX12_addRow_96
set_option maxHeartbeats 4000000 in
set_option maxRecDepth 100000 in
theorem aX12_row_0 (l : Launch) (g : CX) (σ : ST) (hI : INV σ) (p1 : Int32) (p2 : Int32) (p3 : Int32) (p4 : Int32) : XM l g yX12_row wsX12_row { frames := 1, cells := 0, slots := 0, locals := 25 } [.ref (g.2.1 79), .int p1, .int p2, .int p3, .int p4] σ (XQi g (fun r σ' => fX12_row_0 p1 p2 p3 p4 σ = (r, σ') ∧ INV σ' ∧ Fr [(31, 31)] [(68, 71)] σ σ')) := by
  refine x_met (own := RX12) (cc := cX12_row) (maxL := 5) (ret := (some .int)) (lv := [(0, .ref (g.2.1 79)), (1, .int p1), (2, .int p2), (3, .int p3), (4, .int p4)]) (by decide) rfl rfl (Nat.le_of_ble_eq_true rfl) rfl ?_
  intro p e s m args below meth c ls E h hl
  have hx := E.1
  have hb := E.2.1
  have hown := E.2.2.2.1
  have hts := E.2.2.2.2.1
  have hF : Fr [(31, 31)] [(68, 71)] σ σ := Fr.refl σ
  obtain ⟨R, hR0⟩ : ∃ R, fX12_row_0 p1 p2 p3 p4 σ = R := ⟨_, rfl⟩
  have hR : fX12_row_0b0 p1 p2 p3 p4 σ = R := hR0
  have hwX12 : ∀ w ∈ wsX120, w ∈ wsX12_row := by decide +kernel
  generalize hPQ : XQi g (fun r σ' => fX12_row_0 p1 p2 p3 p4 σ = (r, σ') ∧ INV σ' ∧ Fr [(31, 31)] [(68, 71)] σ σ') = PQz
  refine lv_iload_n hx hb dX12_row_0 rfl (lv_at hl 1 rfl) ?_
  refine lv_iconst (v := 0) hx hb dX12_row_1 (by decide) ?_
  refine lv_bipush (v := 99) hx hb dX12_row_2 (by decide) ?_
  refine x_si E h (na := 3) (As := [.int p1, .int 0, .int 99]) (aX12_in_0 l g σ hI p1 0 99) gX12_row_X12_in rfl ⟨rfl, rfl⟩ rfl (by decide +kernel) ⟨Nat.le_of_ble_eq_true rfl, Nat.le_of_ble_eq_true rfl⟩ hl.1 rfl (Nat.le_of_ble_eq_true rfl) dX12_row_4 ⟨Nat.le_of_ble_eq_true rfl, Nat.le_of_ble_eq_true rfl⟩ (fun r1 s1 H locs q1 h => ?_)
  obtain ⟨x1, d1, rfl⟩ := q1
  replace hR := bd_to hR x1
  rcases d1 with ⟨rfl, u1_0_0, u1_0_1⟩ | ⟨rfl, u1_1_0⟩
  · skip
    obtain ⟨n2, b2, rfl⟩ := y_rnlt (N := 99) (y_lo1 u1_0_0 (by decide)) u1_0_1 (by omega)
    have b3 : 0 ≤ n2 := y_nlt (a := n2) (b := 0) (by omega) (by omega) u1_0_0
    have b4 : n2 ≤ 99 := y_nlt (a := 99) (b := n2) (by omega) (by omega) u1_0_1
    replace hR := it_f hR (by decide)
    refine lv_if_eq (tgt := 41) hx hb dX12_row_7 (by decide) (fun c => absurd c (by decide)) (fun _ => ?_)
    refine lv_iload_n hx hb dX12_row_10 rfl (lv_at hl 2 rfl) ?_
    refine lv_iconst (v := 0) hx hb dX12_row_11 (by decide) ?_
    refine lv_bipush (v := 99) hx hb dX12_row_12 (by decide) ?_
    refine x_si E h (na := 3) (As := [.int p2, .int 0, .int 99]) (aX12_in_0 l g σ hI p2 0 99) gX12_row_X12_in rfl ⟨rfl, rfl⟩ rfl (by decide +kernel) ⟨Nat.le_of_ble_eq_true rfl, Nat.le_of_ble_eq_true rfl⟩ hl.1 rfl (Nat.le_of_ble_eq_true rfl) dX12_row_14 ⟨Nat.le_of_ble_eq_true rfl, Nat.le_of_ble_eq_true rfl⟩ (fun r5 s5 H locs q5 h => ?_)
    obtain ⟨x5, d5, rfl⟩ := q5
    replace hR := bd_to hR x5
    rcases d5 with ⟨rfl, u5_0_0, u5_0_1⟩ | ⟨rfl, u5_1_0⟩
    · skip
      obtain ⟨n6, b6, rfl⟩ := y_rnlt (N := 99) (y_lo1 u5_0_0 (by decide)) u5_0_1 (by omega)
      have b7 : 0 ≤ n6 := y_nlt (a := n6) (b := 0) (by omega) (by omega) u5_0_0
      have b8 : n6 ≤ 99 := y_nlt (a := 99) (b := n6) (by omega) (by omega) u5_0_1
      replace hR := it_f hR (by decide)
      refine lv_if_eq (tgt := 41) hx hb dX12_row_17 (by decide) (fun c => absurd c (by decide)) (fun _ => ?_)
      refine lv_iload_n hx hb dX12_row_20 rfl (lv_at hl 3 rfl) ?_
      refine lv_iconst (v := 0) hx hb dX12_row_21 (by decide) ?_
      refine lv_bipush (v := 99) hx hb dX12_row_22 (by decide) ?_
      refine x_si E h (na := 3) (As := [.int p3, .int 0, .int 99]) (aX12_in_0 l g σ hI p3 0 99) gX12_row_X12_in rfl ⟨rfl, rfl⟩ rfl (by decide +kernel) ⟨Nat.le_of_ble_eq_true rfl, Nat.le_of_ble_eq_true rfl⟩ hl.1 rfl (Nat.le_of_ble_eq_true rfl) dX12_row_24 ⟨Nat.le_of_ble_eq_true rfl, Nat.le_of_ble_eq_true rfl⟩ (fun r9 s9 H locs q9 h => ?_)
      obtain ⟨x9, d9, rfl⟩ := q9
      replace hR := bd_to hR x9
      rcases d9 with ⟨rfl, u9_0_0, u9_0_1⟩ | ⟨rfl, u9_1_0⟩
      · skip
        obtain ⟨n10, b10, rfl⟩ := y_rnlt (N := 99) (y_lo1 u9_0_0 (by decide)) u9_0_1 (by omega)
        have b11 : 0 ≤ n10 := y_nlt (a := n10) (b := 0) (by omega) (by omega) u9_0_0
        have b12 : n10 ≤ 99 := y_nlt (a := 99) (b := n10) (by omega) (by omega) u9_0_1
        replace hR := it_f hR (by decide)
        refine lv_if_eq (tgt := 41) hx hb dX12_row_27 (by decide) (fun c => absurd c (by decide)) (fun _ => ?_)
        refine lv_iload hx hb dX12_row_30 (lv_at hl 4 rfl) ?_
        refine lv_iconst (v := 0) hx hb dX12_row_32 (by decide) ?_
        refine lv_bipush (v := 99) hx hb dX12_row_33 (by decide) ?_
        refine x_si E h (na := 3) (As := [.int p4, .int 0, .int 99]) (aX12_in_0 l g σ hI p4 0 99) gX12_row_X12_in rfl ⟨rfl, rfl⟩ rfl (by decide +kernel) ⟨Nat.le_of_ble_eq_true rfl, Nat.le_of_ble_eq_true rfl⟩ hl.1 rfl (Nat.le_of_ble_eq_true rfl) dX12_row_35 ⟨Nat.le_of_ble_eq_true rfl, Nat.le_of_ble_eq_true rfl⟩ (fun r13 s13 H locs q13 h => ?_)
        obtain ⟨x13, d13, rfl⟩ := q13
        replace hR := bd_to hR x13
        rcases d13 with ⟨rfl, u13_0_0, u13_0_1⟩ | ⟨rfl, u13_1_0⟩
        · skip
          obtain ⟨n14, b14, rfl⟩ := y_rnlt (N := 99) (y_lo1 u13_0_0 (by decide)) u13_0_1 (by omega)
          have b15 : 0 ≤ n14 := y_nlt (a := n14) (b := 0) (by omega) (by omega) u13_0_0
          have b16 : n14 ≤ 99 := y_nlt (a := 99) (b := n14) (by omega) (by omega) u13_0_1
          replace hR := it_f hR (by decide)
          refine lv_if_ne (tgt := 43) hx hb dX12_row_38 (by decide) (fun _ => ?_) (fun c => absurd c (by decide))
          refine lv_aload_n hx hb dX12_row_43 rfl (lv_at hl 0 rfl) ?_
          obtain ⟨n17, b17, e17⟩ := hI.1 31 48 rfl
          refine x_getI E h (fi_mo_rows g) rfl hwX12 (by decide) (by decide +kernel) (v := nI n17) e17 dX12_row_44 ?_
          replace hR := bd_to hR e17
          refine lv_bipush (v := 48) hx hb dX12_row_47 (by decide) ?_
          refine lv_icmp_ne (tgt := 55) hx hb dX12_row_49 (by decide) (fun c18 => ?_) (fun c18 => ?_)
          · skip
            replace hR := it_f hR c18
            have b19 : ¬ n17 = 48 := y_ne (a := n17) (b := 48) (by omega) (by omega) c18
            refine lv_aload_n hx hb dX12_row_55 rfl (lv_at hl 0 rfl) ?_
            refine lv_iload_n hx hb dX12_row_56 rfl (lv_at hl 1 rfl) ?_
            refine lv_iload_n hx hb dX12_row_57 rfl (lv_at hl 2 rfl) ?_
            refine lv_iload_n hx hb dX12_row_58 rfl (lv_at hl 3 rfl) ?_
            refine lv_iload hx hb dX12_row_59 (lv_at hl 4 rfl) ?_
            refine lv_iconst (v := 0) hx hb dX12_row_61 (by decide) ?_
            refine x_vv E h (na := 5) (As := [.int (nI n2), .int (nI n6), .int (nI n10), .int (nI n14), .int 0]) (aX12_addRow_0 l g σ hI (nI n2) (nI n6) (nI n10) (nI n14) 0 n17 e17 (by omega)) (oc_mo g) rfl gX12_row_X12_addRow rfl ⟨rfl, rfl⟩ rfl (by decide +kernel) ⟨Nat.le_of_ble_eq_true rfl, Nat.le_of_ble_eq_true rfl⟩ hl.1 rfl (Nat.le_of_ble_eq_true rfl) dX12_row_62 ⟨Nat.le_of_ble_eq_true rfl, Nat.le_of_ble_eq_true rfl⟩ (fun s20 H locs q20 h => ?_)
            obtain ⟨x20, d20, hI20, f20⟩ := q20
            replace hR := bd_to hR x20
            have hF20 := hF.call f20 (I := [(31, 31)]) (J := [(68, 71)]) rfl rfl
            rcases d20 with ⟨m20_0m, u20_0_0, u20_0_1⟩
            refine lv_aload_n hx hb dX12_row_65 rfl (lv_at hl 0 rfl) ?_
            refine x_getI E h (fi_mo_rows g) rfl hwX12 (by decide) (by decide +kernel) (v := nI m20_0m) u20_0_0 dX12_row_66 ?_
            replace hR := bd_to hR u20_0_0
            refine lv_iconst (v := 1) hx hb dX12_row_69 (by decide) ?_
            refine lv_isub hx hb dX12_row_70 ?_
            replace hR := bd_to hR rfl
            subst hPQ
            exact x_iret E h ⟨hR0.trans hR.symm, hI20, hF20⟩ dX12_row_71
          · skip
            replace hR := it_t hR c18
            have b21 : n17 = 48 := y_eq (a := n17) (b := 48) (by omega) (by omega) c18
            refine lv_bipush (v := (-3)) hx hb dX12_row_52 (by decide) ?_
            subst hPQ
            exact x_iret E h ⟨hR0.trans hR.symm, hI, hF⟩ dX12_row_54
        · skip
          replace hR := it_t hR (by decide)
          refine lv_if_ne (tgt := 43) hx hb dX12_row_38 (by decide) (fun c => absurd (by decide) c) (fun _ => ?_)
          refine lv_iconst (v := (-1)) hx hb dX12_row_41 (by decide) ?_
          subst hPQ
          exact x_iret E h ⟨hR0.trans hR.symm, hI, hF⟩ dX12_row_42
      · skip
        replace hR := it_t hR (by decide)
        refine lv_if_eq (tgt := 41) hx hb dX12_row_27 (by decide) (fun _ => ?_) (fun c => absurd (by decide) c)
        refine lv_iconst (v := (-1)) hx hb dX12_row_41 (by decide) ?_
        subst hPQ
        exact x_iret E h ⟨hR0.trans hR.symm, hI, hF⟩ dX12_row_42
    · skip
      replace hR := it_t hR (by decide)
      refine lv_if_eq (tgt := 41) hx hb dX12_row_17 (by decide) (fun _ => ?_) (fun c => absurd (by decide) c)
      refine lv_iconst (v := (-1)) hx hb dX12_row_41 (by decide) ?_
      subst hPQ
      exact x_iret E h ⟨hR0.trans hR.symm, hI, hF⟩ dX12_row_42
  · skip
    replace hR := it_t hR (by decide)
    refine lv_if_eq (tgt := 41) hx hb dX12_row_7 (by decide) (fun _ => ?_) (fun c => absurd (by decide) c)
    refine lv_iconst (v := (-1)) hx hb dX12_row_41 (by decide) ?_
    subst hPQ
    exact x_iret E h ⟨hR0.trans hR.symm, hI, hF⟩ dX12_row_42
set_option maxHeartbeats 4000000 in
set_option maxRecDepth 100000 in
theorem aX12_deaf_0 (l : Launch) (g : CX) (σ : ST) (hI : INV σ) (p1 : Int32) : XM l g yX12_deaf wsX12_deaf { frames := 1, cells := 0, slots := 0, locals := 25 } [.ref (g.2.1 79), .int p1] σ (XQi g (fun r σ' => fX12_deaf_0 p1 σ = (r, σ') ∧ INV σ' ∧ Fr [(31, 31)] [(68, 71)] σ σ')) := by
  refine x_met (own := RX12) (cc := cX12_deaf) (maxL := 3) (ret := (some .int)) (lv := [(0, .ref (g.2.1 79)), (1, .int p1)]) (by decide) rfl rfl (Nat.le_of_ble_eq_true rfl) rfl ?_
  intro p e s m args below meth c ls E h hl
  have hx := E.1
  have hb := E.2.1
  have hown := E.2.2.2.1
  have hts := E.2.2.2.2.1
  have hF : Fr [(31, 31)] [(68, 71)] σ σ := Fr.refl σ
  obtain ⟨R, hR0⟩ : ∃ R, fX12_deaf_0 p1 σ = R := ⟨_, rfl⟩
  have hR : fX12_deaf_0b0 p1 σ = R := hR0
  have hwX12 : ∀ w ∈ wsX120, w ∈ wsX12_deaf := by decide +kernel
  generalize hPQ : XQi g (fun r σ' => fX12_deaf_0 p1 σ = (r, σ') ∧ INV σ' ∧ Fr [(31, 31)] [(68, 71)] σ σ') = PQz
  refine lv_iload_n hx hb dX12_deaf_0 rfl (lv_at hl 1 rfl) ?_
  refine lv_iconst (v := 1) hx hb dX12_deaf_1 (by decide) ?_
  refine lv_bipush (v := 9) hx hb dX12_deaf_2 (by decide) ?_
  refine x_si E h (na := 3) (As := [.int p1, .int 1, .int 9]) (aX12_in_0 l g σ hI p1 1 9) gX12_deaf_X12_in rfl ⟨rfl, rfl⟩ rfl (by decide +kernel) ⟨Nat.le_of_ble_eq_true rfl, Nat.le_of_ble_eq_true rfl⟩ hl.1 rfl (Nat.le_of_ble_eq_true rfl) dX12_deaf_4 ⟨Nat.le_of_ble_eq_true rfl, Nat.le_of_ble_eq_true rfl⟩ (fun r1 s1 H locs q1 h => ?_)
  obtain ⟨x1, d1, rfl⟩ := q1
  replace hR := bd_to hR x1
  rcases d1 with ⟨rfl, u1_0_0, u1_0_1⟩ | ⟨rfl, u1_1_0⟩
  · skip
    obtain ⟨n2, b2, rfl⟩ := y_rnlt (N := 9) (y_lo1 u1_0_0 (by decide)) u1_0_1 (by omega)
    have b3 : 1 ≤ n2 := y_nlt (a := n2) (b := 1) (by omega) (by omega) u1_0_0
    have b4 : n2 ≤ 9 := y_nlt (a := 9) (b := n2) (by omega) (by omega) u1_0_1
    replace hR := it_f hR (by decide)
    refine lv_if_ne (tgt := 12) hx hb dX12_deaf_7 (by decide) (fun _ => ?_) (fun c => absurd c (by decide))
    refine lv_aload_n hx hb dX12_deaf_12 rfl (lv_at hl 0 rfl) ?_
    obtain ⟨n5, b5, e5⟩ := hI.1 31 48 rfl
    refine x_getI E h (fi_mo_rows g) rfl hwX12 (by decide) (by decide +kernel) (v := nI n5) e5 dX12_deaf_13 ?_
    replace hR := bd_to hR e5
    refine lv_iload_n hx hb dX12_deaf_16 rfl (lv_at hl 1 rfl) ?_
    refine lv_iadd hx hb dX12_deaf_17 ?_
    refine x_topI (v2 := nI (n5 + n2)) (nI_add n5 n2) ?_
    replace hR := bd_to hR (nI_add n5 n2)
    refine lv_bipush (v := 48) hx hb dX12_deaf_18 (by decide) ?_
    refine lv_icmp_le (tgt := 26) hx hb dX12_deaf_20 (by decide) (fun c6 => ?_) (fun c6 => ?_)
    · skip
      replace hR := it_t hR c6
      have b7 : (n5 + n2) ≤ 48 := y_le (a := (n5 + n2)) (b := 48) (by omega) (by omega) c6
      refine lv_iconst (v := 0) hx hb dX12_deaf_26 (by decide) ?_
      refine lv_istore_n (lv' := [(2, .int 0), (0, .ref (g.2.1 79)), (1, .int (nI n2))]) hx hb dX12_deaf_27 rfl hl (by decide) rfl (fun ls hl => ?_)
      have loop28_8 : ∀ (fu : Nat) (t8 : ST) (f8_31 : Nat) (i8_2 : Nat), INV t8 → Fr [(31, 31)] [(68, 71)] σ t8 → t8.1 31 = nI f8_31 → i8_2 ≤ n2 → f8_31 = n5 + i8_2 → fX12_deaf_0l28 fu (nI n2) (nI i8_2) t8 = R → n2 - i8_2 < fu → ∀ (H : Heap) (locs : List Loc) (ls : Array Slot), HW g t8 s H locs → lv_has ls 3 [(2, .int (nI i8_2)), (0, .ref (g.2.1 79)), (1, .int (nI n2))] → W p l e { frames := 1, cells := 0, slots := 0, locals := 25 } s m args below meth c H locs 0 0 (MQ below PQz args s 0 0 (Aw g)) (F0 m 28 ls []) := by
        intro fu8
        induction fu8 with
        | zero => intro t8 f8_31 i8_2 hI_8 hF_8 ef8_31 bi8_2 pp8_0 hR8 hm; exact absurd hm (Nat.not_lt_zero _)
        | succ fu8 ih =>
          have ih8 := ih
          clear ih
          intro t8 f8_31 i8_2 hI_8 hF_8 ef8_31 bi8_2 pp8_0 hR8 hm8 H locs ls h hl
          replace hR8 : fX12_deaf_0b28 (fX12_deaf_0l28 fu8) (nI n2) (nI i8_2) t8 = R := hR8
          refine lv_iload_n hx hb dX12_deaf_28 rfl (lv_at hl 0 rfl) ?_
          refine lv_iload_n hx hb dX12_deaf_29 rfl (lv_at hl 2 rfl) ?_
          refine lv_icmp_ge (tgt := 48) hx hb dX12_deaf_30 (by decide) (fun c9 => ?_) (fun c9 => ?_)
          · skip
            replace hR8 := it_t hR8 c9
            have b10 : n2 ≤ i8_2 := y_le (a := n2) (b := i8_2) (by omega) (by omega) c9
            refine lv_aload_n hx hb dX12_deaf_48 rfl (lv_at hl 1 rfl) ?_
            refine x_getI E h (fi_mo_rows g) rfl hwX12 (by decide) (by decide +kernel) (v := nI f8_31) ef8_31 dX12_deaf_49 ?_
            replace hR8 := bd_to hR8 ef8_31
            subst hPQ
            exact x_iret E h ⟨hR0.trans hR8.symm, hI_8, hF_8⟩ dX12_deaf_52
          · skip
            replace hR8 := it_f hR8 c9
            have b11 : i8_2 < n2 := y_nle (a := n2) (b := i8_2) (by omega) (by omega) c9
            refine lv_aload_n hx hb dX12_deaf_33 rfl (lv_at hl 1 rfl) ?_
            refine lv_iconst (v := 0) hx hb dX12_deaf_34 (by decide) ?_
            refine lv_iconst (v := 0) hx hb dX12_deaf_35 (by decide) ?_
            refine lv_iconst (v := 0) hx hb dX12_deaf_36 (by decide) ?_
            refine lv_iconst (v := 0) hx hb dX12_deaf_37 (by decide) ?_
            refine lv_iconst (v := 1) hx hb dX12_deaf_38 (by decide) ?_
            refine x_vv E h (na := 5) (As := [.int 0, .int 0, .int 0, .int 0, .int 1]) (aX12_addRow_0 l g t8 hI_8 0 0 0 0 1 f8_31 ef8_31 (by omega)) (oc_mo g) rfl gX12_deaf_X12_addRow rfl ⟨rfl, rfl⟩ rfl (by decide +kernel) ⟨Nat.le_of_ble_eq_true rfl, Nat.le_of_ble_eq_true rfl⟩ hl.1 rfl (Nat.le_of_ble_eq_true rfl) dX12_deaf_39 ⟨Nat.le_of_ble_eq_true rfl, Nat.le_of_ble_eq_true rfl⟩ (fun s12 H locs q12 h => ?_)
            obtain ⟨x12, d12, hI12, f12⟩ := q12
            replace hR8 := bd_to hR8 x12
            have hF12 := hF_8.call f12 (I := [(31, 31)]) (J := [(68, 71)]) rfl rfl
            rcases d12 with ⟨m12_0m, u12_0_0, u12_0_1⟩
            replace hR8 := bd_to hR8 (nI_add i8_2 1)
            refine lv_iinc (v := (nI (i8_2 + 1))) (lv' := [(2, .int (nI (i8_2 + 1))), (0, .ref (g.2.1 79)), (1, .int (nI n2))]) hx hb dX12_deaf_42 hl (k := 0) rfl (nI_add i8_2 1) (by decide) rfl (fun ls hl => ?_)
            refine lv_goto (tgt := 28) hx hb dX12_deaf_45 (by decide) ?_
            exact ih8 s12 m12_0m (i8_2 + 1) hI12 hF12 u12_0_0 (by omega) (by omega) hR8 (by omega) _ _ _ h (lv_sub hl [0, 1, 2] rfl)
      exact loop28_8 4096 σ n5 0 hI hF e5 (Nat.zero_le _) (by omega) hR (by omega) _ _ _ h (lv_sub hl [0, 1, 2] rfl)
    · skip
      replace hR := it_f hR c6
      have b13 : 48 < (n5 + n2) := y_nle (a := (n5 + n2)) (b := 48) (by omega) (by omega) c6
      refine lv_bipush (v := (-3)) hx hb dX12_deaf_23 (by decide) ?_
      subst hPQ
      exact x_iret E h ⟨hR0.trans hR.symm, hI, hF⟩ dX12_deaf_25
  · skip
    replace hR := it_t hR (by decide)
    refine lv_if_ne (tgt := 12) hx hb dX12_deaf_7 (by decide) (fun c => absurd (by decide) c) (fun _ => ?_)
    refine lv_iconst (v := (-1)) hx hb dX12_deaf_10 (by decide) ?_
    subst hPQ
    exact x_iret E h ⟨hR0.trans hR.symm, hI, hF⟩ dX12_deaf_11
set_option maxHeartbeats 4000000 in
set_option maxRecDepth 100000 in
theorem aX12_isRow_0 (l : Launch) (g : CX) (σ : ST) (hI : INV σ) (p1 : Int32) : XM l g yX12_isRow wsX12_isRow { frames := 1, cells := 0, slots := 0, locals := 22 } [.ref (g.2.1 79), .int p1] σ (XQi g (fun r σ' => fX12_isRow_0 p1 σ = r ∧ ((1 = r ∧ ∃ n R : Nat, σ.1 31 = nI R ∧ n < R ∧ R ≤ 48 ∧ p1 = nI n) ∨ (0 = r)) ∧ σ = σ')) := by
  refine x_met (own := RX12) (cc := cX12_isRow) (maxL := 2) (ret := (some .boolean)) (lv := [(0, .ref (g.2.1 79)), (1, .int p1)]) (by decide) rfl rfl (Nat.le_of_ble_eq_true rfl) rfl ?_
  intro p e s m args below meth c ls E h hl
  have hx := E.1
  have hb := E.2.1
  have hown := E.2.2.2.1
  have hts := E.2.2.2.2.1
  obtain ⟨R, hR0⟩ : ∃ R, fX12_isRow_0 p1 σ = R := ⟨_, rfl⟩
  have hR : fX12_isRow_0b0 p1 σ = R := hR0
  have hwX12 : ∀ w ∈ wsX120, w ∈ wsX12_isRow := by decide +kernel
  generalize hPQ : XQi g (fun r σ' => fX12_isRow_0 p1 σ = r ∧ ((1 = r ∧ ∃ n R : Nat, σ.1 31 = nI R ∧ n < R ∧ R ≤ 48 ∧ p1 = nI n) ∨ (0 = r)) ∧ σ = σ') = PQz
  refine lv_iload_n hx hb dX12_isRow_0 rfl (lv_at hl 1 rfl) ?_
  refine lv_iconst (v := 0) hx hb dX12_isRow_1 (by decide) ?_
  refine lv_aload_n hx hb dX12_isRow_2 rfl (lv_at hl 0 rfl) ?_
  obtain ⟨n1, b1, e1⟩ := hI.1 31 48 rfl
  refine x_getI E h (fi_mo_rows g) rfl hwX12 (by decide) (by decide +kernel) (v := nI n1) e1 dX12_isRow_3 ?_
  replace hR := bd_to hR e1
  refine lv_iconst (v := 1) hx hb dX12_isRow_6 (by decide) ?_
  refine lv_isub hx hb dX12_isRow_7 ?_
  replace hR := bd_to hR rfl
  refine x_si E h (na := 3) (As := [.int p1, .int 0, .int (nI n1 - 1)]) (aX12_in_0 l g σ hI p1 0 (nI n1 - 1)) gX12_isRow_X12_in rfl ⟨rfl, rfl⟩ rfl (by decide +kernel) ⟨Nat.le_of_ble_eq_true rfl, Nat.le_of_ble_eq_true rfl⟩ hl.1 rfl (Nat.le_of_ble_eq_true rfl) dX12_isRow_8 ⟨Nat.le_of_ble_eq_true rfl, Nat.le_of_ble_eq_true rfl⟩ (fun r2 s2 H locs q2 h => ?_)
  obtain ⟨x2, d2, rfl⟩ := q2
  replace hR := bd_to hR x2
  rcases d2 with ⟨rfl, u2_0_0, u2_0_1⟩ | ⟨rfl, u2_1_0⟩
  · skip
    obtain ⟨n3, b3, rfl⟩ := y_rnltM (N := n1) (y_lo1 u2_0_0 (by decide)) u2_0_1 (by omega)
    have b4 : 0 ≤ n3 := y_nlt (a := n3) (b := 0) (by omega) (by omega) u2_0_0
    subst hPQ
    exact x_zret E h rfl ⟨hR0.trans hR.symm, (Or.inl ⟨rfl, n3, n1, e1, (by omega), (by omega), rfl⟩), rfl⟩ dX12_isRow_11
  · skip
    subst hPQ
    exact x_zret E h rfl ⟨hR0.trans hR.symm, (Or.inr (rfl)), rfl⟩ dX12_isRow_11
set_option maxHeartbeats 4000000 in
set_option maxRecDepth 100000 in
theorem aX12_areRows_0 (l : Launch) (g : CX) (σ : ST) (hI : INV σ) (p1 : Int32) (p2 : Int32) : XM l g yX12_areRows wsX12_areRows { frames := 2, cells := 0, slots := 0, locals := 43 } [.ref (g.2.1 79), .int p1, .int p2] σ (XQi g (fun r σ' => fX12_areRows_0 p1 p2 σ = r ∧ ((1 = r ∧ ∃ f t R : Nat, σ.1 31 = nI R ∧ f ≤ t ∧ t < R ∧ R ≤ 48 ∧ p1 = nI f ∧ p2 = nI t) ∨ (0 = r)) ∧ σ = σ')) := by
  refine x_met (own := RX12) (cc := cX12_areRows) (maxL := 3) (ret := (some .boolean)) (lv := [(0, .ref (g.2.1 79)), (1, .int p1), (2, .int p2)]) (by decide) rfl rfl (Nat.le_of_ble_eq_true rfl) rfl ?_
  intro p e s m args below meth c ls E h hl
  have hx := E.1
  have hb := E.2.1
  have hown := E.2.2.2.1
  have hts := E.2.2.2.2.1
  obtain ⟨R, hR0⟩ : ∃ R, fX12_areRows_0 p1 p2 σ = R := ⟨_, rfl⟩
  have hR : fX12_areRows_0b0 p1 p2 σ = R := hR0
  have hwX12 : ∀ w ∈ wsX120, w ∈ wsX12_areRows := by decide +kernel
  generalize hPQ : XQi g (fun r σ' => fX12_areRows_0 p1 p2 σ = r ∧ ((1 = r ∧ ∃ f t R : Nat, σ.1 31 = nI R ∧ f ≤ t ∧ t < R ∧ R ≤ 48 ∧ p1 = nI f ∧ p2 = nI t) ∨ (0 = r)) ∧ σ = σ') = PQz
  refine lv_aload_n hx hb dX12_areRows_0 rfl (lv_at hl 0 rfl) ?_
  refine lv_iload_n hx hb dX12_areRows_1 rfl (lv_at hl 1 rfl) ?_
  refine x_vi E h (na := 1) (As := [.int p1]) (aX12_isRow_0 l g σ hI p1) (oc_mo g) rfl gX12_areRows_X12_isRow rfl ⟨rfl, rfl⟩ rfl (by decide +kernel) ⟨Nat.le_of_ble_eq_true rfl, Nat.le_of_ble_eq_true rfl⟩ hl.1 rfl (Nat.le_of_ble_eq_true rfl) dX12_areRows_2 ⟨Nat.le_of_ble_eq_true rfl, Nat.le_of_ble_eq_true rfl⟩ (fun r1 s1 H locs q1 h => ?_)
  obtain ⟨x1, d1, rfl⟩ := q1
  replace hR := bd_to hR x1
  rcases d1 with ⟨rfl, m1_0n, m1_0R, u1_0_0, u1_0_1, u1_0_2, rfl⟩ | rfl
  · skip
    replace hR := it_f hR (by decide)
    refine lv_if_eq (tgt := 26) hx hb dX12_areRows_5 (by decide) (fun c => absurd c (by decide)) (fun _ => ?_)
    refine lv_iload_n hx hb dX12_areRows_8 rfl (lv_at hl 2 rfl) ?_
    refine lv_iload_n hx hb dX12_areRows_9 rfl (lv_at hl 1 rfl) ?_
    refine lv_aload_n hx hb dX12_areRows_10 rfl (lv_at hl 0 rfl) ?_
    refine x_getI E h (fi_mo_rows g) rfl hwX12 (by decide) (by decide +kernel) (v := nI m1_0R) u1_0_0 dX12_areRows_11 ?_
    replace hR := bd_to hR u1_0_0
    refine lv_iconst (v := 1) hx hb dX12_areRows_14 (by decide) ?_
    refine lv_isub hx hb dX12_areRows_15 ?_
    replace hR := bd_to hR rfl
    refine x_si E h (na := 3) (As := [.int p2, .int (nI m1_0n), .int (nI m1_0R - 1)]) (aX12_in_0 l g σ hI p2 (nI m1_0n) (nI m1_0R - 1)) gX12_areRows_X12_in rfl ⟨rfl, rfl⟩ rfl (by decide +kernel) ⟨Nat.le_of_ble_eq_true rfl, Nat.le_of_ble_eq_true rfl⟩ hl.1 rfl (Nat.le_of_ble_eq_true rfl) dX12_areRows_16 ⟨Nat.le_of_ble_eq_true rfl, Nat.le_of_ble_eq_true rfl⟩ (fun r2 s2 H locs q2 h => ?_)
    obtain ⟨x2, d2, rfl⟩ := q2
    replace hR := bd_to hR x2
    rcases d2 with ⟨rfl, u2_0_0, u2_0_1⟩ | ⟨rfl, u2_1_0⟩
    · skip
      obtain ⟨n3, b3, rfl⟩ := y_rnltM (N := m1_0R) (y_lo4 u2_0_0 (by omega)) u2_0_1 (by omega)
      have b4 : m1_0n ≤ n3 := y_nlt (a := n3) (b := m1_0n) (by omega) (by omega) u2_0_0
      replace hR := it_f hR (by decide)
      refine lv_if_eq (tgt := 26) hx hb dX12_areRows_19 (by decide) (fun c => absurd c (by decide)) (fun _ => ?_)
      refine lv_iconst (v := 1) hx hb dX12_areRows_22 (by decide) ?_
      refine lv_goto (tgt := 27) hx hb dX12_areRows_23 (by decide) ?_
      replace hR : fX12_areRows_0b27 1 σ = R := hR
      subst hPQ
      exact x_zret E h rfl ⟨hR0.trans hR.symm, (Or.inl ⟨rfl, m1_0n, n3, m1_0R, u1_0_0, (by omega), (by omega), (by omega), rfl, rfl⟩), rfl⟩ dX12_areRows_27
    · skip
      replace hR := it_t hR (by decide)
      refine lv_if_eq (tgt := 26) hx hb dX12_areRows_19 (by decide) (fun _ => ?_) (fun c => absurd (by decide) c)
      refine lv_iconst (v := 0) hx hb dX12_areRows_26 (by decide) ?_
      replace hR : fX12_areRows_0b27 0 σ = R := hR
      subst hPQ
      exact x_zret E h rfl ⟨hR0.trans hR.symm, (Or.inr (rfl)), rfl⟩ dX12_areRows_27
  · skip
    replace hR := it_t hR (by decide)
    refine lv_if_eq (tgt := 26) hx hb dX12_areRows_5 (by decide) (fun _ => ?_) (fun c => absurd (by decide) c)
    refine lv_iconst (v := 0) hx hb dX12_areRows_26 (by decide) ?_
    replace hR : fX12_areRows_0b27 0 σ = R := hR
    subst hPQ
    exact x_zret E h rfl ⟨hR0.trans hR.symm, (Or.inr (rfl)), rfl⟩ dX12_areRows_27
set_option maxHeartbeats 4000000 in
set_option maxRecDepth 100000 in
theorem aX12_out_0 (l : Launch) (g : CX) (σ : ST) (hI : INV σ) (p1 : Int32) (p2 : Int32) (p3 : Int32) : XM l g yX12_out wsX12_out { frames := 3, cells := 0, slots := 0, locals := 65 } [.ref (g.2.1 79), .int p1, .int p2, .int p3] σ (XQi g (fun r σ' => fX12_out_0 p1 p2 p3 σ = (r, σ') ∧ INV σ' ∧ Fr [] [(70, 70)] σ σ')) := by
  refine x_met (own := RX12) (cc := cX12_out) (maxL := 6) (ret := (some .int)) (lv := [(0, .ref (g.2.1 79)), (1, .int p1), (2, .int p2), (3, .int p3)]) (by decide) rfl rfl (Nat.le_of_ble_eq_true rfl) rfl ?_
  intro p e s m args below meth c ls E h hl
  have hx := E.1
  have hb := E.2.1
  have hown := E.2.2.2.1
  have hts := E.2.2.2.2.1
  have hF : Fr [] [(70, 70)] σ σ := Fr.refl σ
  obtain ⟨R, hR0⟩ : ∃ R, fX12_out_0 p1 p2 p3 σ = R := ⟨_, rfl⟩
  have hR : fX12_out_0b0 p1 p2 p3 σ = R := hR0
  have hwX12 : ∀ w ∈ wsX120, w ∈ wsX12_out := by decide +kernel
  generalize hPQ : XQi g (fun r σ' => fX12_out_0 p1 p2 p3 σ = (r, σ') ∧ INV σ' ∧ Fr [] [(70, 70)] σ σ') = PQz
  refine lv_aload_n hx hb dX12_out_0 rfl (lv_at hl 0 rfl) ?_
  refine lv_iload_n hx hb dX12_out_1 rfl (lv_at hl 1 rfl) ?_
  refine lv_iload_n hx hb dX12_out_2 rfl (lv_at hl 2 rfl) ?_
  refine x_vi E h (na := 2) (As := [.int p1, .int p2]) (aX12_areRows_0 l g σ hI p1 p2) (oc_mo g) rfl gX12_out_X12_areRows rfl ⟨rfl, rfl⟩ rfl (by decide +kernel) ⟨Nat.le_of_ble_eq_true rfl, Nat.le_of_ble_eq_true rfl⟩ hl.1 rfl (Nat.le_of_ble_eq_true rfl) dX12_out_3 ⟨Nat.le_of_ble_eq_true rfl, Nat.le_of_ble_eq_true rfl⟩ (fun r1 s1 H locs q1 h => ?_)
  obtain ⟨x1, d1, rfl⟩ := q1
  replace hR := bd_to hR x1
  rcases d1 with ⟨rfl, m1_0f, m1_0t, m1_0R, u1_0_0, u1_0_1, u1_0_2, u1_0_3, rfl, rfl⟩ | rfl
  · skip
    replace hR := it_f hR (by decide)
    refine lv_if_eq (tgt := 18) hx hb dX12_out_6 (by decide) (fun c => absurd c (by decide)) (fun _ => ?_)
    refine lv_iload_n hx hb dX12_out_9 rfl (lv_at hl 3 rfl) ?_
    refine lv_iconst (v := 0) hx hb dX12_out_10 (by decide) ?_
    refine lv_iconst (v := 1) hx hb dX12_out_11 (by decide) ?_
    refine x_si E h (na := 3) (As := [.int p3, .int 0, .int 1]) (aX12_in_0 l g σ hI p3 0 1) gX12_out_X12_in rfl ⟨rfl, rfl⟩ rfl (by decide +kernel) ⟨Nat.le_of_ble_eq_true rfl, Nat.le_of_ble_eq_true rfl⟩ hl.1 rfl (Nat.le_of_ble_eq_true rfl) dX12_out_12 ⟨Nat.le_of_ble_eq_true rfl, Nat.le_of_ble_eq_true rfl⟩ (fun r2 s2 H locs q2 h => ?_)
    obtain ⟨x2, d2, rfl⟩ := q2
    replace hR := bd_to hR x2
    rcases d2 with ⟨rfl, u2_0_0, u2_0_1⟩ | ⟨rfl, u2_1_0⟩
    · skip
      obtain ⟨n3, b3, rfl⟩ := y_rnlt (N := 1) (y_lo1 u2_0_0 (by decide)) u2_0_1 (by omega)
      have b4 : 0 ≤ n3 := y_nlt (a := n3) (b := 0) (by omega) (by omega) u2_0_0
      have b5 : n3 ≤ 1 := y_nlt (a := 1) (b := n3) (by omega) (by omega) u2_0_1
      replace hR := it_f hR (by decide)
      refine lv_if_ne (tgt := 20) hx hb dX12_out_15 (by decide) (fun _ => ?_) (fun c => absurd c (by decide))
      refine lv_iconst (v := 0) hx hb dX12_out_20 (by decide) ?_
      refine lv_istore (lv' := [(4, .int 0), (0, .ref (g.2.1 79)), (1, .int (nI m1_0f)), (2, .int (nI m1_0t)), (3, .int (nI n3))]) hx hb dX12_out_21 hl (by decide) rfl (fun ls hl => ?_)
      refine lv_iload_n hx hb dX12_out_23 rfl (lv_at hl 2 rfl) ?_
      refine lv_istore (lv' := [(5, .int (nI m1_0f)), (4, .int 0), (0, .ref (g.2.1 79)), (1, .int (nI m1_0f)), (2, .int (nI m1_0t)), (3, .int (nI n3))]) hx hb dX12_out_24 hl (by decide) rfl (fun ls hl => ?_)
      have loop26_6 : ∀ (fu : Nat) (t6 : ST) (i6_5 : Nat) (i6_4 : Int32), INV t6 → Fr [] [(70, 70)] σ t6 → t6.1 31 = nI m1_0R → i6_5 ≤ 49 → fX12_out_0l26 fu (nI m1_0t) (nI n3) i6_4 (nI i6_5) t6 = R → 49 - i6_5 < fu → ∀ (H : Heap) (locs : List Loc) (ls : Array Slot), HW g t6 s H locs → lv_has ls 6 [(5, .int (nI i6_5)), (4, .int i6_4), (0, .ref (g.2.1 79)), (1, .int (nI m1_0f)), (2, .int (nI m1_0t)), (3, .int (nI n3))] → W p l e { frames := 3, cells := 0, slots := 0, locals := 65 } s m args below meth c H locs 0 0 (MQ below PQz args s 0 0 (Aw g)) (F0 m 26 ls []) := by
        intro fu6
        induction fu6 with
        | zero => intro t6 i6_5 i6_4 hI_6 hF_6 e7 bi6_5 hR6 hm; exact absurd hm (Nat.not_lt_zero _)
        | succ fu6 ih =>
          have ih6 := ih
          clear ih
          intro t6 i6_5 i6_4 hI_6 hF_6 e7 bi6_5 hR6 hm6 H locs ls h hl
          replace hR6 : fX12_out_0b26 (fX12_out_0l26 fu6) (nI m1_0t) (nI n3) i6_4 (nI i6_5) t6 = R := hR6
          refine lv_iload hx hb dX12_out_26 (lv_at hl 0 rfl) ?_
          refine lv_iload_n hx hb dX12_out_28 rfl (lv_at hl 4 rfl) ?_
          refine lv_icmp_gt (tgt := 85) hx hb dX12_out_29 (by decide) (fun c8 => ?_) (fun c8 => ?_)
          · skip
            replace hR6 := it_t hR6 c8
            have b9 : m1_0t < i6_5 := y_lt (a := m1_0t) (b := i6_5) (by omega) (by omega) c8
            refine lv_iload hx hb dX12_out_85 (lv_at hl 1 rfl) ?_
            subst hPQ
            exact x_iret E h ⟨hR0.trans hR6.symm, hI_6, hF_6⟩ dX12_out_87
          · skip
            replace hR6 := it_f hR6 c8
            have b10 : i6_5 ≤ m1_0t := y_nlt (a := m1_0t) (b := i6_5) (by omega) (by omega) c8
            refine lv_iload hx hb dX12_out_32 (lv_at hl 1 rfl) ?_
            refine lv_aload_n hx hb dX12_out_34 rfl (lv_at hl 2 rfl) ?_
            refine x_getR E h (fr_mo_isOut g) rfl hwX12 (by decide) (by decide +kernel) dX12_out_35 ?_
            refine lv_iload hx hb dX12_out_38 (lv_at hl 0 rfl) ?_
            refine x_ldZ E h (ia_mo_isOut g) (i := nI i6_5) (vp_in_nI (by omega) (by decide)) (v := t6.2.2 70 i6_5) (congrArg (t6.2.2 70) (nI_clamp (n := i6_5) (by omega))) dX12_out_40 ?_
            replace hR6 := bd_to hR6 (congrArg (t6.2.2 70) (nI_clamp (n := i6_5) (by omega)))
            refine lv_iload_n hx hb dX12_out_41 rfl (lv_at hl 5 rfl) ?_
            refine lv_iconst (v := 1) hx hb dX12_out_42 (by decide) ?_
            have j51_13 : ∀ (y13_s0 : Int32), fX12_out_0b51 (fX12_out_0l26 fu6) (nI m1_0t) (nI n3) (nI i6_5) y13_s0 (t6.2.2 70 i6_5) i6_4 t6 = R → ∀ (H : Heap) (locs : List Loc) (ls : Array Slot), HW g t6 s H locs → lv_has ls 6 [(5, .int (nI i6_5)), (4, .int i6_4), (0, .ref (g.2.1 79)), (1, .int (nI m1_0f)), (2, .int (nI m1_0t)), (3, .int (nI n3))] → W p l e { frames := 3, cells := 0, slots := 0, locals := 65 } s m args below meth c H locs 0 0 (MQ below PQz args s 0 0 (Aw g)) (F0 m 51 ls [.int y13_s0, .int (t6.2.2 70 i6_5), .int i6_4]) := by
              intro y13_s0 hR13 H locs ls h hl
              have j59_16 : ∀ (y16_s0 : Int32), fX12_out_0b59 (fX12_out_0l26 fu6) (nI m1_0t) (nI n3) (nI i6_5) y16_s0 i6_4 t6 = R → ∀ (H : Heap) (locs : List Loc) (ls : Array Slot), HW g t6 s H locs → lv_has ls 6 [(5, .int (nI i6_5)), (4, .int i6_4), (0, .ref (g.2.1 79)), (1, .int (nI m1_0f)), (2, .int (nI m1_0t)), (3, .int (nI n3))] → W p l e { frames := 3, cells := 0, slots := 0, locals := 65 } s m args below meth c H locs 0 0 (MQ below PQz args s 0 0 (Aw g)) (F0 m 59 ls [.int y16_s0, .int i6_4]) := by
                intro y16_s0 hR16 H locs ls h hl
                refine lv_iadd hx hb dX12_out_59 ?_
                refine lv_topi (fun x17 e17 => ?_)
                replace hR16 := bd_to hR16 e17.symm
                refine lv_istore (lv' := [(4, .int x17), (5, .int (nI i6_5)), (0, .ref (g.2.1 79)), (1, .int (nI m1_0f)), (2, .int (nI m1_0t)), (3, .int (nI n3))]) hx hb dX12_out_60 hl (by decide) rfl (fun ls hl => ?_)
                refine lv_aload_n hx hb dX12_out_62 rfl (lv_at hl 2 rfl) ?_
                refine x_getR E h (fr_mo_isOut g) rfl hwX12 (by decide) (by decide +kernel) dX12_out_63 ?_
                refine lv_iload hx hb dX12_out_66 (lv_at hl 1 rfl) ?_
                refine lv_iload_n hx hb dX12_out_68 rfl (lv_at hl 5 rfl) ?_
                refine lv_iconst (v := 1) hx hb dX12_out_69 (by decide) ?_
                have j78_20 : ∀ (y20_s0 : Int32), fX12_out_0b78 (fX12_out_0l26 fu6) (nI m1_0t) (nI n3) x17 (nI i6_5) y20_s0 (nI i6_5) t6 = R → ∀ (H : Heap) (locs : List Loc) (ls : Array Slot), HW g t6 s H locs → lv_has ls 6 [(4, .int x17), (5, .int (nI i6_5)), (0, .ref (g.2.1 79)), (1, .int (nI m1_0f)), (2, .int (nI m1_0t)), (3, .int (nI n3))] → W p l e { frames := 3, cells := 0, slots := 0, locals := 65 } s m args below meth c H locs 0 0 (MQ below PQz args s 0 0 (Aw g)) (F0 m 78 ls [.int y20_s0, .int (nI i6_5), .ref (g.2.1 84)]) := by
                  intro y20_s0 hR20 H locs ls h hl
                  refine y_stZ E h hI_6 hF_6 (ia_mo_isOut g) (i := nI i6_5) (vp_in_nI (by omega) (by decide)) (j := i6_5) (nI_clamp (by omega)) (ba_none rfl) rfl dX12_out_78 (fun s21 H locs q21 hI21 hF21 h => ?_)
                  replace hR20 := st_to hR20 (nI_clamp (n := i6_5) (by omega)) q21
                  have e22 : s21.1 31 = nI m1_0R := (congrArg (fun t : ST => t.1 31) q21).trans e7
                  replace hR20 := bd_to hR20 (nI_add i6_5 1)
                  refine lv_iinc (v := (nI (i6_5 + 1))) (lv' := [(5, .int (nI (i6_5 + 1))), (4, .int x17), (0, .ref (g.2.1 79)), (1, .int (nI m1_0f)), (2, .int (nI m1_0t)), (3, .int (nI n3))]) hx hb dX12_out_79 hl (k := 1) rfl (nI_add i6_5 1) (by decide) rfl (fun ls hl => ?_)
                  refine lv_goto (tgt := 26) hx hb dX12_out_82 (by decide) ?_
                  exact ih6 s21 (i6_5 + 1) x17 hI21 hF21 e22 (by omega) hR20 (by omega) _ _ _ h (lv_sub hl [0, 1, 2, 3, 4, 5] rfl)
                refine lv_icmp_ne (tgt := 77) hx hb dX12_out_70 (by decide) (fun c18 => ?_) (fun c18 => ?_)
                · skip
                  replace hR16 := it_f hR16 c18
                  have b19 : ¬ n3 = 1 := y_ne (a := n3) (b := 1) (by omega) (by omega) c18
                  refine lv_iconst (v := 0) hx hb dX12_out_77 (by decide) ?_
                  exact j78_20 0 hR16 _ _ _ h (lv_sub hl [0, 1, 2, 3, 4, 5] rfl)
                · skip
                  replace hR16 := it_t hR16 c18
                  have b23 : n3 = 1 := y_eq (a := n3) (b := 1) (by omega) (by omega) c18
                  refine lv_iconst (v := 1) hx hb dX12_out_73 (by decide) ?_
                  refine lv_goto (tgt := 78) hx hb dX12_out_74 (by decide) ?_
                  exact j78_20 1 hR16 _ _ _ h (lv_sub hl [0, 1, 2, 3, 4, 5] rfl)
              refine lv_icmp_ne (tgt := 58) hx hb dX12_out_51 (by decide) (fun c14 => ?_) (fun c14 => ?_)
              · skip
                replace hR13 := it_f hR13 c14
                refine lv_iconst (v := 1) hx hb dX12_out_58 (by decide) ?_
                exact j59_16 1 hR13 _ _ _ h (lv_sub hl [0, 1, 2, 3, 4, 5] rfl)
              · skip
                replace hR13 := it_t hR13 c14
                refine lv_iconst (v := 0) hx hb dX12_out_54 (by decide) ?_
                refine lv_goto (tgt := 59) hx hb dX12_out_55 (by decide) ?_
                exact j59_16 0 hR13 _ _ _ h (lv_sub hl [0, 1, 2, 3, 4, 5] rfl)
            refine lv_icmp_ne (tgt := 50) hx hb dX12_out_43 (by decide) (fun c11 => ?_) (fun c11 => ?_)
            · skip
              replace hR6 := it_f hR6 c11
              have b12 : ¬ n3 = 1 := y_ne (a := n3) (b := 1) (by omega) (by omega) c11
              refine lv_iconst (v := 0) hx hb dX12_out_50 (by decide) ?_
              exact j51_13 0 hR6 _ _ _ h (lv_sub hl [0, 1, 2, 3, 4, 5] rfl)
            · skip
              replace hR6 := it_t hR6 c11
              have b25 : n3 = 1 := y_eq (a := n3) (b := 1) (by omega) (by omega) c11
              refine lv_iconst (v := 1) hx hb dX12_out_46 (by decide) ?_
              refine lv_goto (tgt := 51) hx hb dX12_out_47 (by decide) ?_
              exact j51_13 1 hR6 _ _ _ h (lv_sub hl [0, 1, 2, 3, 4, 5] rfl)
      exact loop26_6 4096 σ m1_0f 0 hI hF u1_0_0 (by omega) hR (by omega) _ _ _ h (lv_sub hl [0, 1, 2, 3, 4, 5] rfl)
    · skip
      replace hR := it_t hR (by decide)
      refine lv_if_ne (tgt := 20) hx hb dX12_out_15 (by decide) (fun c => absurd (by decide) c) (fun _ => ?_)
      refine lv_iconst (v := (-1)) hx hb dX12_out_18 (by decide) ?_
      subst hPQ
      exact x_iret E h ⟨hR0.trans hR.symm, hI, hF⟩ dX12_out_19
  · skip
    replace hR := it_t hR (by decide)
    refine lv_if_eq (tgt := 18) hx hb dX12_out_6 (by decide) (fun _ => ?_) (fun c => absurd (by decide) c)
    refine lv_iconst (v := (-1)) hx hb dX12_out_18 (by decide) ?_
    subst hPQ
    exact x_iret E h ⟨hR0.trans hR.symm, hI, hF⟩ dX12_out_19
set_option maxHeartbeats 4000000 in
set_option maxRecDepth 100000 in
theorem aX12_hush_0 (l : Launch) (g : CX) (σ : ST) (hI : INV σ)  : XM l g yX12_hush wsX12_hush { frames := 0, cells := 0, slots := 0, locals := 0 } [.ref (g.2.1 79)] σ (XQi g (fun r σ' => fX12_hush_0 σ = (r, σ') ∧ INV σ' ∧ Fr [(31, 32), (34, 34)] [] σ σ')) := by
  refine x_met (own := RX12) (cc := cX12_hush) (maxL := 2) (ret := (some .int)) (lv := [(0, .ref (g.2.1 79))]) (by decide) rfl rfl (Nat.le_of_ble_eq_true rfl) rfl ?_
  intro p e s m args below meth c ls E h hl
  have hx := E.1
  have hb := E.2.1
  have hown := E.2.2.2.1
  have hts := E.2.2.2.2.1
  have hF : Fr [(31, 32), (34, 34)] [] σ σ := Fr.refl σ
  obtain ⟨R, hR0⟩ : ∃ R, fX12_hush_0 σ = R := ⟨_, rfl⟩
  have hR : fX12_hush_0b0 σ = R := hR0
  have hwX12 : ∀ w ∈ wsX120, w ∈ wsX12_hush := by decide +kernel
  generalize hPQ : XQi g (fun r σ' => fX12_hush_0 σ = (r, σ') ∧ INV σ' ∧ Fr [(31, 32), (34, 34)] [] σ σ') = PQz
  refine lv_aload_n hx hb dX12_hush_0 rfl (lv_at hl 0 rfl) ?_
  obtain ⟨n1, b1, e1⟩ := hI.1 31 48 rfl
  refine x_getI E h (fi_mo_rows g) rfl hwX12 (by decide) (by decide +kernel) (v := nI n1) e1 dX12_hush_1 ?_
  replace hR := bd_to hR e1
  refine lv_istore_n (lv' := [(1, .int (nI n1)), (0, .ref (g.2.1 79))]) hx hb dX12_hush_4 rfl hl (by decide) rfl (fun ls hl => ?_)
  refine lv_aload_n hx hb dX12_hush_5 rfl (lv_at hl 1 rfl) ?_
  refine lv_iconst (v := 0) hx hb dX12_hush_6 (by decide) ?_
  refine y_putI E h hI hF (ty := .int) (v := nI 0) (fi_mo_rows g) rfl hwX12 tyX12_ok nmX12 (by decide) (by decide +kernel) (by decide +kernel) (by decide +kernel) rfl rfl (ba_some rfl (Bd.mk (n := 0) (by omega))) rfl dX12_hush_7 (fun s2 H locs q2 hI2 hF2 h => ?_)
  replace hR := bd_to hR q2.symm
  have e3 : s2.1 31 = nI 0 := congrArg (fun t : ST => t.1 31) q2
  refine lv_aload_n hx hb dX12_hush_10 rfl (lv_at hl 1 rfl) ?_
  refine lv_iconst (v := 0) hx hb dX12_hush_11 (by decide) ?_
  refine y_putI E h hI2 hF2 (ty := .int) (v := nI 0) (fi_mo_words g) rfl hwX12 tyX12_ok nmX12 (by decide) (by decide +kernel) (by decide +kernel) (by decide +kernel) rfl rfl (ba_some rfl (Bd.mk (n := 0) (by omega))) rfl dX12_hush_12 (fun s4 H locs q4 hI4 hF4 h => ?_)
  replace hR := bd_to hR q4.symm
  have e5 : s4.1 31 = 0 := (congrArg (fun t : ST => t.1 31) q4).trans e3
  have e6 : s4.1 32 = nI 0 := congrArg (fun t : ST => t.1 32) q4
  refine lv_aload_n hx hb dX12_hush_15 rfl (lv_at hl 1 rfl) ?_
  refine lv_iconst (v := 0) hx hb dX12_hush_16 (by decide) ?_
  refine y_putI E h hI4 hF4 (ty := .boolean) (v := 0) (fi_mo_isShown g) rfl hwX12 tyX12_ok nmX12 (by decide) (by decide +kernel) (by decide +kernel) (by decide +kernel) rfl rfl (ba_none rfl) rfl dX12_hush_17 (fun s7 H locs q7 hI7 hF7 h => ?_)
  replace hR := bd_to hR q7.symm
  have e8 : s7.1 31 = 0 := (congrArg (fun t : ST => t.1 31) q7).trans e5
  have e9 : s7.1 32 = 0 := (congrArg (fun t : ST => t.1 32) q7).trans e6
  have e10 : s7.1 34 = 0 := congrArg (fun t : ST => t.1 34) q7
  refine lv_iload_n hx hb dX12_hush_20 rfl (lv_at hl 0 rfl) ?_
  subst hPQ
  exact x_iret E h ⟨hR0.trans hR.symm, hI7, hF7⟩ dX12_hush_21
