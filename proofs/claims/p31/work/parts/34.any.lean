set_option maxHeartbeats 4000000 in
set_option maxRecDepth 100000 in
theorem aX11_byWay_0 (l : Launch) (g : CX) (σ : ST) (hI : INV σ) (p1 : Int32) : XM l g yX11_byWay wsX11_byWay { frames := 0, cells := 0, slots := 0, locals := 0 } [.ref (g.2.1 0), .int p1] σ (XQr g (fun r σ' => fX11_byWay_0 p1 σ = r ∧ (48 = r ∨ 54 = r) ∧ σ = σ')) := by
  refine x_met (own := RX11) (cc := cX11_byWay) (maxL := 2) (ret := (some (.object "VoiceHeaps$Heaping"))) (lv := [(0, .ref (g.2.1 0)), (1, .int p1)]) (by decide) rfl rfl (Nat.le_of_ble_eq_true rfl) rfl ?_
  intro p e s m args below meth c ls E h hl
  have hx := E.1
  have hb := E.2.1
  have hown := E.2.2.2.1
  have hts := E.2.2.2.2.1
  obtain ⟨R, hR0⟩ : ∃ R, fX11_byWay_0 p1 σ = R := ⟨_, rfl⟩
  have hR : fX11_byWay_0b0 p1 σ = R := hR0
  have hwX0 : ∀ w ∈ wsX00, w ∈ wsX11_byWay := by decide +kernel
  have hwX11 : ∀ w ∈ wsX110, w ∈ wsX11_byWay := by decide +kernel
  generalize hPQ : XQr g (fun r σ' => fX11_byWay_0 p1 σ = r ∧ (48 = r ∨ 54 = r) ∧ σ = σ') = PQz
  refine lv_iload_n hx hb dX11_byWay_0 rfl (lv_at hl 1 rfl) ?_
  refine lv_if_ne (tgt := 14) hx hb dX11_byWay_1 (by decide) (fun c1 => ?_) (fun c1 => ?_)
  · skip
    replace hR := it_f hR c1
    refine lv_aload_n hx hb dX11_byWay_14 rfl (lv_at hl 0 rfl) ?_
    refine x_getR E h (fr_vh_joined g) rfl hwX11 (by decide) (by decide +kernel) dX11_byWay_15 ?_
    replace hR : fX11_byWay_0b18 σ = R := hR
    subst hPQ
    exact x_aret E h (Or.inl ⟨_, rfl⟩) ⟨hR0.trans hR.symm, (Or.inr (rfl)), rfl⟩ dX11_byWay_18
  · skip
    replace hR := it_t hR c1
    refine lv_aload_n hx hb dX11_byWay_4 rfl (lv_at hl 0 rfl) ?_
    refine x_getR E h (fr_vh_all g) rfl hwX11 (by decide) (by decide +kernel) dX11_byWay_5 ?_
    refine x_getRN E h (fr_al_best g) rfl hwX0 (by decide) (by decide +kernel) dX11_byWay_8 ?_
    refine lv_goto (tgt := 18) hx hb dX11_byWay_11 (by decide) ?_
    replace hR : fX11_byWay_0b18a σ = R := hR
    subst hPQ
    exact x_aret E h (Or.inl ⟨_, rfl⟩) ⟨hR0.trans hR.symm, (Or.inl rfl), rfl⟩ dX11_byWay_18
set_option maxHeartbeats 4000000 in
set_option maxRecDepth 100000 in
theorem aX11_heap_0 (l : Launch) (g : CX) (σ : ST) (hI : INV σ) (p1 : Int32) (p2 : Int32) : XM l g yX11_heap wsX11_heap { frames := 16, cells := 0, slots := 0, locals := 420 } [.ref (g.2.1 0), .int p1, .int p2] σ (XQi g (fun r σ' => fX11_heap_0 p1 p2 σ = (r, σ') ∧ INV σ' ∧ Fr [(3, 12), (14, 18), (22, 23)] [(8, 19), (21, 29), (31, 41), (43, 47)] σ σ')) := by
  refine x_met (own := RX11) (cc := cX11_heap) (maxL := 3) (ret := (some .int)) (lv := [(0, .ref (g.2.1 0)), (1, .int p1), (2, .int p2)]) (by decide) rfl rfl (Nat.le_of_ble_eq_true rfl) rfl ?_
  intro p e s m args below meth c ls E h hl
  have hx := E.1
  have hb := E.2.1
  have hown := E.2.2.2.1
  have hts := E.2.2.2.2.1
  have hF : Fr [(3, 12), (14, 18), (22, 23)] [(8, 19), (21, 29), (31, 41), (43, 47)] σ σ := Fr.refl σ
  obtain ⟨R, hR0⟩ : ∃ R, fX11_heap_0 p1 p2 σ = R := ⟨_, rfl⟩
  have hR : fX11_heap_0b0 p1 p2 σ = R := hR0
  have hwX4 : ∀ w ∈ wsX40, w ∈ wsX11_heap := by decide +kernel
  generalize hPQ : XQi g (fun r σ' => fX11_heap_0 p1 p2 σ = (r, σ') ∧ INV σ' ∧ Fr [(3, 12), (14, 18), (22, 23)] [(8, 19), (21, 29), (31, 41), (43, 47)] σ σ') = PQz
  refine lv_aload_n hx hb dX11_heap_0 rfl (lv_at hl 0 rfl) ?_
  refine lv_iload_n hx hb dX11_heap_1 rfl (lv_at hl 1 rfl) ?_
  refine x_vi E h (na := 1) (As := [.int p1]) (aX11_isPiece_0 l g σ hI p1) (oc_vh g) rfl gX11_heap_X11_isPiece rfl ⟨rfl, rfl⟩ rfl (by decide +kernel) ⟨Nat.le_of_ble_eq_true rfl, Nat.le_of_ble_eq_true rfl⟩ hl.1 rfl (Nat.le_of_ble_eq_true rfl) dX11_heap_2 ⟨Nat.le_of_ble_eq_true rfl, Nat.le_of_ble_eq_true rfl⟩ (fun r1 s1 H locs q1 h => ?_)
  obtain ⟨x1, d1, hI1, f1⟩ := q1
  replace hR := bp_to hR x1
  have hF1 := hF.call f1 (I := [(3, 12), (14, 18), (22, 23)]) (J := [(8, 19), (21, 29), (31, 41), (43, 47)]) rfl rfl
  rcases d1 with ⟨rfl, m1_0n, m1_0P, u1_0_0, u1_0_1, u1_0_2, u1_0_3, rfl⟩ | rfl
  · skip
    replace hR := it_f hR (by decide)
    refine lv_if_eq (tgt := 17) hx hb dX11_heap_5 (by decide) (fun c => absurd c (by decide)) (fun _ => ?_)
    refine lv_iload_n hx hb dX11_heap_8 rfl (lv_at hl 2 rfl) ?_
    refine lv_iconst (v := 0) hx hb dX11_heap_9 (by decide) ?_
    refine lv_iconst (v := 1) hx hb dX11_heap_10 (by decide) ?_
    refine x_si E h (na := 3) (As := [.int p2, .int 0, .int 1]) (aX11_within_0 l g s1 hI1 p2 0 1) gX11_heap_X11_within rfl ⟨rfl, rfl⟩ rfl (by decide +kernel) ⟨Nat.le_of_ble_eq_true rfl, Nat.le_of_ble_eq_true rfl⟩ hl.1 rfl (Nat.le_of_ble_eq_true rfl) dX11_heap_11 ⟨Nat.le_of_ble_eq_true rfl, Nat.le_of_ble_eq_true rfl⟩ (fun r2 s2 H locs q2 h => ?_)
    obtain ⟨x2, d2, rfl⟩ := q2
    replace hR := bd_to hR x2
    rcases d2 with ⟨rfl, u2_0_0, u2_0_1⟩ | rfl
    · skip
      obtain ⟨n3, b3, rfl⟩ := y_rnlt (N := 1) (y_lo1 u2_0_0 (by decide)) u2_0_1 (by omega)
      have b4 : 0 ≤ n3 := y_nlt (a := n3) (b := 0) (by omega) (by omega) u2_0_0
      have b5 : n3 ≤ 1 := y_nlt (a := 1) (b := n3) (by omega) (by omega) u2_0_1
      replace hR := it_f hR (by decide)
      refine lv_if_ne (tgt := 19) hx hb dX11_heap_14 (by decide) (fun _ => ?_) (fun c => absurd c (by decide))
      refine lv_aload_n hx hb dX11_heap_19 rfl (lv_at hl 0 rfl) ?_
      refine x_vi E h (na := 0) (As := []) (aX11_heapNow_0 l g s1 hI1 u1_0_0) (oc_vh g) rfl gX11_heap_X11_heapNow rfl ⟨rfl, rfl⟩ rfl (by decide +kernel) ⟨Nat.le_of_ble_eq_true rfl, Nat.le_of_ble_eq_true rfl⟩ hl.1 rfl (Nat.le_of_ble_eq_true rfl) dX11_heap_20 ⟨Nat.le_of_ble_eq_true rfl, Nat.le_of_ble_eq_true rfl⟩ (fun r6 s6 H locs q6 h => ?_)
      obtain ⟨x6, d6, hI6, f6⟩ := q6
      replace hR := bp_to hR x6
      have hF6 := hF1.call f6 (I := [(3, 12), (14, 18), (22, 23)]) (J := [(8, 19), (21, 29), (31, 41), (43, 47)]) rfl rfl
      have e7 : s6.1 22 = 0 := ((f6.1 22 rfl)).trans u1_0_0
      have e8 : s6.1 5 = nI m1_0P := ((f6.1 5 rfl)).trans u1_0_1
      rcases d6 with ⟨rfl, m6_0P, u6_0_0, u6_0_1, u6_0_2⟩ | rfl
      · skip
        obtain rfl : m1_0P = m6_0P := y_eq (by omega) (by omega) ((e8).symm.trans u6_0_0)
        replace hR := it_f hR (by decide)
        refine lv_if_ne (tgt := 29) hx hb dX11_heap_23 (by decide) (fun _ => ?_) (fun c => absurd c (by decide))
        refine lv_aload_n hx hb dX11_heap_29 rfl (lv_at hl 0 rfl) ?_
        refine lv_iload_n hx hb dX11_heap_30 rfl (lv_at hl 2 rfl) ?_
        refine x_vr E h (na := 1) (As := [.int (nI n3)]) (aX11_byWay_0 l g s6 hI6 (nI n3)) (oc_vh g) rfl gX11_heap_X11_byWay rfl ⟨rfl, rfl⟩ rfl (by decide +kernel) ⟨Nat.le_of_ble_eq_true rfl, Nat.le_of_ble_eq_true rfl⟩ hl.1 rfl (Nat.le_of_ble_eq_true rfl) dX11_heap_31 ⟨Nat.le_of_ble_eq_true rfl, Nat.le_of_ble_eq_true rfl⟩ (fun r9 s9 H locs q9 h => ?_)
        obtain ⟨x9, d9, rfl⟩ := q9
        replace hR := bd_to hR x9
        rcases d9 with rfl | rfl
        · skip
          replace hR := it_t hR rfl
          refine x_getRN E h (fr_be_heapOf g) rfl hwX4 (by decide) (by decide +kernel) dX11_heap_34 ?_
          refine lv_iload_n hx hb dX11_heap_37 rfl (lv_at hl 1 rfl) ?_
          obtain ⟨n10, b10, e10⟩ := hI6.2 41 8 rfl m1_0n
          refine x_ldI E h (ia_be_heapOf g) (i := nI m1_0n) (vp_in_nI (by omega) (by decide)) (v := nI n10) ((congrArg (s6.2.2 41) (nI_clamp (n := m1_0n) (by omega))).trans e10) dX11_heap_38 ?_
          replace hR := bd_to hR ((congrArg (s6.2.2 41) (nI_clamp (n := m1_0n) (by omega))).trans e10)
          subst hPQ
          exact x_iret E h ⟨hR0.trans hR.symm, hI6, hF6⟩ dX11_heap_39
        · skip
          replace hR := it_f hR (by decide)
          refine x_getRN E h (fr_jo_heapOf g) rfl hwX4 (by decide) (by decide +kernel) dX11_heap_34 ?_
          refine lv_iload_n hx hb dX11_heap_37 rfl (lv_at hl 1 rfl) ?_
          refine x_ldI E h (ia_jo_heapOf g) (i := nI m1_0n) (vp_in_nI (by omega) (by decide)) (v := s6.2.2 46 m1_0n) (congrArg (s6.2.2 46) (nI_clamp (n := m1_0n) (by omega))) dX11_heap_38 ?_
          replace hR := bd_to hR (congrArg (s6.2.2 46) (nI_clamp (n := m1_0n) (by omega)))
          subst hPQ
          exact x_iret E h ⟨hR0.trans hR.symm, hI6, hF6⟩ dX11_heap_39
      · skip
        replace hR := it_t hR (by decide)
        refine lv_if_ne (tgt := 29) hx hb dX11_heap_23 (by decide) (fun c => absurd (by decide) c) (fun _ => ?_)
        refine lv_bipush (v := (-2)) hx hb dX11_heap_26 (by decide) ?_
        subst hPQ
        exact x_iret E h ⟨hR0.trans hR.symm, hI6, hF6⟩ dX11_heap_28
    · skip
      replace hR := it_t hR (by decide)
      refine lv_if_ne (tgt := 19) hx hb dX11_heap_14 (by decide) (fun c => absurd (by decide) c) (fun _ => ?_)
      refine lv_iconst (v := (-1)) hx hb dX11_heap_17 (by decide) ?_
      subst hPQ
      exact x_iret E h ⟨hR0.trans hR.symm, hI1, hF1⟩ dX11_heap_18
  · skip
    replace hR := it_t hR (by decide)
    refine lv_if_eq (tgt := 17) hx hb dX11_heap_5 (by decide) (fun _ => ?_) (fun c => absurd (by decide) c)
    refine lv_iconst (v := (-1)) hx hb dX11_heap_17 (by decide) ?_
    subst hPQ
    exact x_iret E h ⟨hR0.trans hR.symm, hI1, hF1⟩ dX11_heap_18
set_option maxHeartbeats 4000000 in
set_option maxRecDepth 100000 in
theorem aX11_heapNow_1 (l : Launch) (g : CX) (σ : ST) (hI : INV σ)  : XM l g yX11_heapNow wsX11_heapNow { frames := 15, cells := 0, slots := 0, locals := 400 } [.ref (g.2.1 0)] σ (XQi g (fun r σ' => fX11_heapNow_0 σ = (r, σ') ∧ ((1 = r ∧ ∃ P : Nat, σ'.1 5 = nI P ∧ P ≤ 9 ∧ σ'.1 22 = 0) ∨ (0 = r)) ∧ INV σ' ∧ Fr [(3, 12), (14, 18), (22, 23)] [(8, 19), (21, 29), (31, 41), (43, 47)] σ σ')) := by
  refine x_met (own := RX11) (cc := cX11_heapNow) (maxL := 1) (ret := (some .boolean)) (lv := [(0, .ref (g.2.1 0))]) (by decide) rfl rfl (Nat.le_of_ble_eq_true rfl) rfl ?_
  intro p e s m args below meth c ls E h hl
  have hx := E.1
  have hb := E.2.1
  have hown := E.2.2.2.1
  have hts := E.2.2.2.2.1
  have hF : Fr [(3, 12), (14, 18), (22, 23)] [(8, 19), (21, 29), (31, 41), (43, 47)] σ σ := Fr.refl σ
  obtain ⟨R, hR0⟩ : ∃ R, fX11_heapNow_0 σ = R := ⟨_, rfl⟩
  have hR : fX11_heapNow_0b0 σ = R := hR0
  have hwX0 : ∀ w ∈ wsX00, w ∈ wsX11_heapNow := by decide +kernel
  have hwX11 : ∀ w ∈ wsX110, w ∈ wsX11_heapNow := by decide +kernel
  have hwX2 : ∀ w ∈ wsX20, w ∈ wsX11_heapNow := by decide +kernel
  generalize hPQ : XQi g (fun r σ' => fX11_heapNow_0 σ = (r, σ') ∧ ((1 = r ∧ ∃ P : Nat, σ'.1 5 = nI P ∧ P ≤ 9 ∧ σ'.1 22 = 0) ∨ (0 = r)) ∧ INV σ' ∧ Fr [(3, 12), (14, 18), (22, 23)] [(8, 19), (21, 29), (31, 41), (43, 47)] σ σ') = PQz
  refine lv_aload_n hx hb dX11_heapNow_0 rfl (lv_at hl 0 rfl) ?_
  refine x_vv E h (na := 0) (As := []) (aX11_cutNow_0 l g σ hI) (oc_vh g) rfl gX11_heapNow_X11_cutNow rfl ⟨rfl, rfl⟩ rfl (by decide +kernel) ⟨Nat.le_of_ble_eq_true rfl, Nat.le_of_ble_eq_true rfl⟩ hl.1 rfl (Nat.le_of_ble_eq_true rfl) dX11_heapNow_1 ⟨Nat.le_of_ble_eq_true rfl, Nat.le_of_ble_eq_true rfl⟩ (fun s1 H locs q1 h => ?_)
  obtain ⟨x1, d1, hI1, f1⟩ := q1
  replace hR := bd_to hR x1
  have hF1 := hF.call f1 (I := [(3, 12), (14, 18), (22, 23)]) (J := [(8, 19), (21, 29), (31, 41), (43, 47)]) rfl rfl
  have u1_0_0 := d1
  refine lv_aload_n hx hb dX11_heapNow_4 rfl (lv_at hl 0 rfl) ?_
  refine x_getR E h (fr_vh_cutting g) rfl hwX11 (by decide) (by decide +kernel) dX11_heapNow_5 ?_
  obtain ⟨n2, b2, e2⟩ := hI1.1 5 48 rfl
  refine x_getIN E h (fi_cu_pieces g) rfl hwX2 (by decide) (by decide +kernel) (v := nI n2) e2 dX11_heapNow_8 ?_
  replace hR := bd_to hR e2
  refine lv_bipush (v := 9) hx hb dX11_heapNow_11 (by decide) ?_
  refine lv_icmp_le (tgt := 18) hx hb dX11_heapNow_13 (by decide) (fun c3 => ?_) (fun c3 => ?_)
  · skip
    replace hR := it_t hR c3
    have b4 : n2 ≤ 9 := y_le (a := n2) (b := 9) (by omega) (by omega) c3
    refine lv_aload_n hx hb dX11_heapNow_18 rfl (lv_at hl 0 rfl) ?_
    obtain ⟨x5, e5⟩ : ∃ x, s1.1 23 = x := ⟨_, rfl⟩
    refine x_getI E h (fi_vh_heapsAreOld g) rfl hwX11 (by decide) (by decide +kernel) (v := x5) e5 dX11_heapNow_19 ?_
    replace hR := bd_to hR e5
    have j101_8 : ∀ (t8 : ST), INV t8 → Fr [(3, 12), (14, 18), (22, 23)] [(8, 19), (21, 29), (31, 41), (43, 47)] σ t8 → t8.1 22 = 0 → t8.1 5 = nI n2 → fX11_heapNow_0b101 t8 = R → ∀ (H : Heap) (locs : List Loc) (ls : Array Slot), HW g t8 s H locs → lv_has ls 1 [(0, .ref (g.2.1 0))] → W p l e { frames := 15, cells := 0, slots := 0, locals := 400 } s m args below meth c H locs 0 0 (MQ below PQz args s 0 0 (Aw g)) (F0 m 101 ls []) := by
      intro t8 hI_8 hF_8 e9 e10 hR8 H locs ls h hl
      refine lv_iconst (v := 1) hx hb dX11_heapNow_101 (by decide) ?_
      subst hPQ
      exact x_zret E h rfl ⟨hR0.trans hR8.symm, (Or.inl ⟨rfl, n2, e10, (by omega), e9⟩), hI_8, hF_8⟩ dX11_heapNow_102
    refine lv_if_eq (tgt := 101) hx hb dX11_heapNow_22 (by decide) (fun c6 => ?_) (fun c6 => ?_)
    · skip
      replace hR := it_t hR c6
      subst c6
      exact j101_8 s1 hI1 hF1 u1_0_0 e2 hR _ _ _ h (lv_sub hl [0] rfl)
    · skip
      replace hR := it_f hR c6
      refine lv_aload_n hx hb dX11_heapNow_25 rfl (lv_at hl 0 rfl) ?_
      refine x_getR E h (fr_vh_bonds g) rfl hwX11 (by decide) (by decide +kernel) dX11_heapNow_26 ?_
      refine lv_aload_n hx hb dX11_heapNow_29 rfl (lv_at hl 0 rfl) ?_
      refine x_getR E h (fr_vh_cutting g) rfl hwX11 (by decide) (by decide +kernel) dX11_heapNow_30 ?_
      refine lv_aload_n hx hb dX11_heapNow_33 rfl (lv_at hl 0 rfl) ?_
      refine x_getR E h (fr_vh_ruleText g) rfl hwX11 (by decide) (by decide +kernel) dX11_heapNow_34 ?_
      refine lv_iconst (v := 2) hx hb dX11_heapNow_37 (by decide) ?_
      refine x_vi E h (na := 1) (As := [.int 2]) (aX8_ruleNow_0 l g s1 hI1 2) (oc_rt g) rfl gX11_heapNow_X8_ruleNow rfl ⟨rfl, rfl⟩ rfl (by decide +kernel) ⟨Nat.le_of_ble_eq_true rfl, Nat.le_of_ble_eq_true rfl⟩ hl.1 rfl (Nat.le_of_ble_eq_true rfl) dX11_heapNow_38 ⟨Nat.le_of_ble_eq_true rfl, Nat.le_of_ble_eq_true rfl⟩ (fun r12 s12 H locs q12 h => ?_)
      obtain ⟨x12, rfl⟩ := q12
      replace hR := bd_to hR x12
      refine lv_aload_n hx hb dX11_heapNow_41 rfl (lv_at hl 0 rfl) ?_
      refine x_getR E h (fr_vh_ruleText g) rfl hwX11 (by decide) (by decide +kernel) dX11_heapNow_42 ?_
      refine lv_iconst (v := 4) hx hb dX11_heapNow_45 (by decide) ?_
      refine x_vi E h (na := 1) (As := [.int 4]) (aX8_ruleNow_0 l g s1 hI1 4) (oc_rt g) rfl gX11_heapNow_X8_ruleNow rfl ⟨rfl, rfl⟩ rfl (by decide +kernel) ⟨Nat.le_of_ble_eq_true rfl, Nat.le_of_ble_eq_true rfl⟩ hl.1 rfl (Nat.le_of_ble_eq_true rfl) dX11_heapNow_46 ⟨Nat.le_of_ble_eq_true rfl, Nat.le_of_ble_eq_true rfl⟩ (fun r13 s13 H locs q13 h => ?_)
      obtain ⟨x13, rfl⟩ := q13
      replace hR := bd_to hR x13
      refine x_vv E h (na := 3) (As := [.ref (g.2.1 16), .int r12, .int r13]) (aX1_tie_0 l g s1 hI1 r12 r13) (oc_bo g) rfl gX11_heapNow_X1_tie rfl ⟨rfl, rfl⟩ rfl (by decide +kernel) ⟨Nat.le_of_ble_eq_true rfl, Nat.le_of_ble_eq_true rfl⟩ hl.1 rfl (Nat.le_of_ble_eq_true rfl) dX11_heapNow_49 ⟨Nat.le_of_ble_eq_true rfl, Nat.le_of_ble_eq_true rfl⟩ (fun s14 H locs q14 h => ?_)
      obtain ⟨x14, hI14, f14⟩ := q14
      replace hR := bd_to hR x14
      have hF14 := hF1.call f14 (I := [(3, 12), (14, 18), (22, 23)]) (J := [(8, 19), (21, 29), (31, 41), (43, 47)]) rfl rfl
      have e15 : s14.1 22 = 0 := ((f14.1 22 rfl)).trans u1_0_0
      have e16 : s14.1 5 = nI n2 := ((f14.1 5 rfl)).trans e2
      have e17 : s14.1 23 = x5 := ((f14.1 23 rfl)).trans e5
      refine lv_aload_n hx hb dX11_heapNow_52 rfl (lv_at hl 0 rfl) ?_
      refine x_getR E h (fr_vh_all g) rfl hwX11 (by decide) (by decide +kernel) dX11_heapNow_53 ?_
      refine lv_aload_n hx hb dX11_heapNow_56 rfl (lv_at hl 0 rfl) ?_
      refine x_getR E h (fr_vh_bonds g) rfl hwX11 (by decide) (by decide +kernel) dX11_heapNow_57 ?_
      refine x_vv E h (na := 1) (As := [.ref (g.2.1 25)]) (aX0_findBest_0 l g s14 hI14) (oc_al g) rfl gX11_heapNow_X0_findBest rfl ⟨rfl, rfl⟩ rfl (by decide +kernel) ⟨Nat.le_of_ble_eq_true rfl, Nat.le_of_ble_eq_true rfl⟩ hl.1 rfl (Nat.le_of_ble_eq_true rfl) dX11_heapNow_60 ⟨Nat.le_of_ble_eq_true rfl, Nat.le_of_ble_eq_true rfl⟩ (fun s18 H locs q18 h => ?_)
      obtain ⟨x18, hI18, f18⟩ := q18
      replace hR := bd_to hR x18
      have hF18 := hF14.call f18 (I := [(3, 12), (14, 18), (22, 23)]) (J := [(8, 19), (21, 29), (31, 41), (43, 47)]) rfl rfl
      have e19 : s18.1 22 = 0 := ((f18.1 22 rfl)).trans e15
      have e20 : s18.1 5 = nI n2 := ((f18.1 5 rfl)).trans e16
      have e21 : s18.1 23 = x5 := ((f18.1 23 rfl)).trans e17
      refine lv_aload_n hx hb dX11_heapNow_63 rfl (lv_at hl 0 rfl) ?_
      refine x_getR E h (fr_vh_all g) rfl hwX11 (by decide) (by decide +kernel) dX11_heapNow_64 ?_
      refine x_getRN E h (fr_al_best g) rfl hwX0 (by decide) (by decide +kernel) dX11_heapNow_67 ?_
      refine lv_aload_n hx hb dX11_heapNow_70 rfl (lv_at hl 0 rfl) ?_
      refine x_getR E h (fr_vh_book g) rfl hwX11 (by decide) (by decide +kernel) dX11_heapNow_71 ?_
      refine lv_aload_n hx hb dX11_heapNow_74 rfl (lv_at hl 0 rfl) ?_
      refine x_getR E h (fr_vh_gathering g) rfl hwX11 (by decide) (by decide +kernel) dX11_heapNow_75 ?_
      refine lv_aload_n hx hb dX11_heapNow_78 rfl (lv_at hl 0 rfl) ?_
      refine x_getR E h (fr_vh_cutting g) rfl hwX11 (by decide) (by decide +kernel) dX11_heapNow_79 ?_
      refine x_vv E h (na := 3) (As := [.ref (g.2.1 5), .ref (g.2.1 10), .ref (g.2.1 16)]) (aX4_findMiddles_0 l g s18 hI18) (oc_be g) rfl gX11_heapNow_X4_findMiddles rfl ⟨rfl, rfl⟩ rfl (by decide +kernel) ⟨Nat.le_of_ble_eq_true rfl, Nat.le_of_ble_eq_true rfl⟩ hl.1 rfl (Nat.le_of_ble_eq_true rfl) dX11_heapNow_82 ⟨Nat.le_of_ble_eq_true rfl, Nat.le_of_ble_eq_true rfl⟩ (fun s22 H locs q22 h => ?_)
      obtain ⟨x22, hI22, f22⟩ := q22
      replace hR := bd_to hR x22
      have hF22 := hF18.call f22 (I := [(3, 12), (14, 18), (22, 23)]) (J := [(8, 19), (21, 29), (31, 41), (43, 47)]) rfl rfl
      have e23 : s22.1 22 = 0 := ((f22.1 22 rfl)).trans e19
      have e24 : s22.1 5 = nI n2 := ((f22.1 5 rfl)).trans e20
      have e25 : s22.1 23 = x5 := ((f22.1 23 rfl)).trans e21
      refine lv_aload_n hx hb dX11_heapNow_85 rfl (lv_at hl 0 rfl) ?_
      refine x_getR E h (fr_vh_bonds g) rfl hwX11 (by decide) (by decide +kernel) dX11_heapNow_86 ?_
      refine lv_aload_n hx hb dX11_heapNow_89 rfl (lv_at hl 0 rfl) ?_
      refine x_getR E h (fr_vh_joined g) rfl hwX11 (by decide) (by decide +kernel) dX11_heapNow_90 ?_
      refine x_vv E h (na := 1) (As := [.ref (g.2.1 54)]) (aX1_join_0 l g s22 hI22) (oc_bo g) rfl gX11_heapNow_X1_join rfl ⟨rfl, rfl⟩ rfl (by decide +kernel) ⟨Nat.le_of_ble_eq_true rfl, Nat.le_of_ble_eq_true rfl⟩ hl.1 rfl (Nat.le_of_ble_eq_true rfl) dX11_heapNow_93 ⟨Nat.le_of_ble_eq_true rfl, Nat.le_of_ble_eq_true rfl⟩ (fun s26 H locs q26 h => ?_)
      obtain ⟨x26, hI26, f26⟩ := q26
      replace hR := bd_to hR x26
      have hF26 := hF22.call f26 (I := [(3, 12), (14, 18), (22, 23)]) (J := [(8, 19), (21, 29), (31, 41), (43, 47)]) rfl rfl
      have e27 : s26.1 22 = 0 := ((f26.1 22 rfl)).trans e23
      have e28 : s26.1 5 = nI n2 := ((f26.1 5 rfl)).trans e24
      have e29 : s26.1 23 = x5 := ((f26.1 23 rfl)).trans e25
      refine lv_aload_n hx hb dX11_heapNow_96 rfl (lv_at hl 0 rfl) ?_
      refine lv_iconst (v := 0) hx hb dX11_heapNow_97 (by decide) ?_
      refine y_putI E h hI26 hF26 (ty := .boolean) (v := 0) (fi_vh_heapsAreOld g) rfl hwX11 tyX11_ok nmX11 (by decide) (by decide +kernel) (by decide +kernel) (by decide +kernel) rfl rfl (ba_none rfl) rfl dX11_heapNow_98 (fun s30 H locs q30 hI30 hF30 h => ?_)
      replace hR := bd_to hR q30.symm
      have e31 : s30.1 22 = 0 := (congrArg (fun t : ST => t.1 22) q30).trans e27
      have e32 : s30.1 5 = nI n2 := (congrArg (fun t : ST => t.1 5) q30).trans e28
      have e33 : s30.1 23 = 0 := congrArg (fun t : ST => t.1 23) q30
      exact j101_8 s30 hI30 hF30 e31 e32 hR _ _ _ h (lv_sub hl [0] rfl)
  · skip
    replace hR := it_f hR c3
    have b34 : 9 < n2 := y_nle (a := n2) (b := 9) (by omega) (by omega) c3
    refine lv_iconst (v := 0) hx hb dX11_heapNow_16 (by decide) ?_
    subst hPQ
    exact x_zret E h rfl ⟨hR0.trans hR.symm, (Or.inr (rfl)), hI1, hF1⟩ dX11_heapNow_17
set_option maxHeartbeats 4000000 in
set_option maxRecDepth 100000 in
theorem aX11_worth_0 (l : Launch) (g : CX) (σ : ST) (hI : INV σ) (p1 : Int32) : XM l g yX11_worth wsX11_worth { frames := 16, cells := 0, slots := 0, locals := 420 } [.ref (g.2.1 0), .int p1] σ (XQi g (fun r σ' => fX11_worth_0 p1 σ = (r, σ') ∧ INV σ' ∧ Fr [(3, 12), (14, 18), (22, 23)] [(8, 19), (21, 29), (31, 41), (43, 47)] σ σ')) := by
  refine x_met (own := RX11) (cc := cX11_worth) (maxL := 2) (ret := (some .int)) (lv := [(0, .ref (g.2.1 0)), (1, .int p1)]) (by decide) rfl rfl (Nat.le_of_ble_eq_true rfl) rfl ?_
  intro p e s m args below meth c ls E h hl
  have hx := E.1
  have hb := E.2.1
  have hown := E.2.2.2.1
  have hts := E.2.2.2.2.1
  have hF : Fr [(3, 12), (14, 18), (22, 23)] [(8, 19), (21, 29), (31, 41), (43, 47)] σ σ := Fr.refl σ
  obtain ⟨R, hR0⟩ : ∃ R, fX11_worth_0 p1 σ = R := ⟨_, rfl⟩
  have hR : fX11_worth_0b0 p1 σ = R := hR0
  have hwX4 : ∀ w ∈ wsX40, w ∈ wsX11_worth := by decide +kernel
  generalize hPQ : XQi g (fun r σ' => fX11_worth_0 p1 σ = (r, σ') ∧ INV σ' ∧ Fr [(3, 12), (14, 18), (22, 23)] [(8, 19), (21, 29), (31, 41), (43, 47)] σ σ') = PQz
  refine lv_iload_n hx hb dX11_worth_0 rfl (lv_at hl 1 rfl) ?_
  refine lv_iconst (v := 0) hx hb dX11_worth_1 (by decide) ?_
  refine lv_iconst (v := 1) hx hb dX11_worth_2 (by decide) ?_
  refine x_si E h (na := 3) (As := [.int p1, .int 0, .int 1]) (aX11_within_0 l g σ hI p1 0 1) gX11_worth_X11_within rfl ⟨rfl, rfl⟩ rfl (by decide +kernel) ⟨Nat.le_of_ble_eq_true rfl, Nat.le_of_ble_eq_true rfl⟩ hl.1 rfl (Nat.le_of_ble_eq_true rfl) dX11_worth_3 ⟨Nat.le_of_ble_eq_true rfl, Nat.le_of_ble_eq_true rfl⟩ (fun r1 s1 H locs q1 h => ?_)
  obtain ⟨x1, d1, rfl⟩ := q1
  replace hR := bd_to hR x1
  rcases d1 with ⟨rfl, u1_0_0, u1_0_1⟩ | rfl
  · skip
    obtain ⟨n2, b2, rfl⟩ := y_rnlt (N := 1) (y_lo1 u1_0_0 (by decide)) u1_0_1 (by omega)
    have b3 : 0 ≤ n2 := y_nlt (a := n2) (b := 0) (by omega) (by omega) u1_0_0
    have b4 : n2 ≤ 1 := y_nlt (a := 1) (b := n2) (by omega) (by omega) u1_0_1
    replace hR := it_f hR (by decide)
    refine lv_if_eq (tgt := 16) hx hb dX11_worth_6 (by decide) (fun c => absurd c (by decide)) (fun _ => ?_)
    refine lv_aload_n hx hb dX11_worth_9 rfl (lv_at hl 0 rfl) ?_
    refine x_vi E h (na := 0) (As := []) (aX11_heapNow_1 l g σ hI) (oc_vh g) rfl gX11_worth_X11_heapNow rfl ⟨rfl, rfl⟩ rfl (by decide +kernel) ⟨Nat.le_of_ble_eq_true rfl, Nat.le_of_ble_eq_true rfl⟩ hl.1 rfl (Nat.le_of_ble_eq_true rfl) dX11_worth_10 ⟨Nat.le_of_ble_eq_true rfl, Nat.le_of_ble_eq_true rfl⟩ (fun r5 s5 H locs q5 h => ?_)
    obtain ⟨x5, d5, hI5, f5⟩ := q5
    replace hR := bp_to hR x5
    have hF5 := hF.call f5 (I := [(3, 12), (14, 18), (22, 23)]) (J := [(8, 19), (21, 29), (31, 41), (43, 47)]) rfl rfl
    rcases d5 with ⟨rfl, m5_0P, u5_0_0, u5_0_1, u5_0_2⟩ | rfl
    · skip
      replace hR := it_f hR (by decide)
      refine lv_if_ne (tgt := 19) hx hb dX11_worth_13 (by decide) (fun _ => ?_) (fun c => absurd c (by decide))
      refine lv_aload_n hx hb dX11_worth_19 rfl (lv_at hl 0 rfl) ?_
      refine lv_iload_n hx hb dX11_worth_20 rfl (lv_at hl 1 rfl) ?_
      refine x_vr E h (na := 1) (As := [.int (nI n2)]) (aX11_byWay_0 l g s5 hI5 (nI n2)) (oc_vh g) rfl gX11_worth_X11_byWay rfl ⟨rfl, rfl⟩ rfl (by decide +kernel) ⟨Nat.le_of_ble_eq_true rfl, Nat.le_of_ble_eq_true rfl⟩ hl.1 rfl (Nat.le_of_ble_eq_true rfl) dX11_worth_21 ⟨Nat.le_of_ble_eq_true rfl, Nat.le_of_ble_eq_true rfl⟩ (fun r6 s6 H locs q6 h => ?_)
      obtain ⟨x6, d6, rfl⟩ := q6
      replace hR := bd_to hR x6
      rcases d6 with rfl | rfl
      · skip
        replace hR := it_t hR rfl
        obtain ⟨x7, e7⟩ : ∃ x, s5.1 11 = x := ⟨_, rfl⟩
        refine x_getIN E h (fi_be_value g) rfl hwX4 (by decide) (by decide +kernel) (v := x7) e7 dX11_worth_24 ?_
        replace hR := bd_to hR e7
        subst hPQ
        exact x_iret E h ⟨hR0.trans hR.symm, hI5, hF5⟩ dX11_worth_27
      · skip
        replace hR := it_f hR (by decide)
        obtain ⟨x8, e8⟩ : ∃ x, s5.1 18 = x := ⟨_, rfl⟩
        refine x_getIN E h (fi_jo_value g) rfl hwX4 (by decide) (by decide +kernel) (v := x8) e8 dX11_worth_24 ?_
        replace hR := bd_to hR e8
        subst hPQ
        exact x_iret E h ⟨hR0.trans hR.symm, hI5, hF5⟩ dX11_worth_27
    · skip
      replace hR := it_t hR (by decide)
      refine lv_if_ne (tgt := 19) hx hb dX11_worth_13 (by decide) (fun c => absurd (by decide) c) (fun _ => ?_)
      refine lv_ldc (v := (-1000000)) hx hb hown (hts (.constant RX11 185 (-1000000)) (by decide +kernel)) dX11_worth_16 ?_
      subst hPQ
      exact x_iret E h ⟨hR0.trans hR.symm, hI5, hF5⟩ dX11_worth_18
  · skip
    replace hR := it_t hR (by decide)
    refine lv_if_eq (tgt := 16) hx hb dX11_worth_6 (by decide) (fun _ => ?_) (fun c => absurd (by decide) c)
    refine lv_ldc (v := (-1000000)) hx hb hown (hts (.constant RX11 185 (-1000000)) (by decide +kernel)) dX11_worth_16 ?_
    subst hPQ
    exact x_iret E h ⟨hR0.trans hR.symm, hI, hF⟩ dX11_worth_18
set_option maxHeartbeats 4000000 in
set_option maxRecDepth 100000 in
theorem aX0_findNear_0 (l : Launch) (g : CX) (σ : ST) (hI : INV σ) (p2 : Int32) : XM l g yX0_findNear wsX0_findNear { frames := 14, cells := 0, slots := 0, locals := 379 } [.ref (g.2.1 47), .ref (g.2.1 25), .int p2] σ (XQv g (fun σ' => fX0_findNear_0 p2 σ = σ' ∧ INV σ' ∧ Fr [(10, 16)] [(41, 41), (44, 45)] σ σ')) := by
  refine x_met (own := RX0) (cc := cX0_findNear) (maxL := 3) (ret := none) (lv := [(0, .ref (g.2.1 47)), (1, .ref (g.2.1 25)), (2, .int p2)]) (by decide) rfl rfl (Nat.le_of_ble_eq_true rfl) rfl ?_
  intro p e s m args below meth c ls E h hl
  have hx := E.1
  have hb := E.2.1
  have hown := E.2.2.2.1
  have hts := E.2.2.2.2.1
  have hF : Fr [(10, 16)] [(41, 41), (44, 45)] σ σ := Fr.refl σ
  obtain ⟨R, hR0⟩ : ∃ R, fX0_findNear_0 p2 σ = R := ⟨_, rfl⟩
  have hR : fX0_findNear_0b0 p2 σ = R := hR0
  have hwX0 : ∀ w ∈ wsX00, w ∈ wsX0_findNear := by decide +kernel
  have hwX4 : ∀ w ∈ wsX40, w ∈ wsX0_findNear := by decide +kernel
  generalize hPQ : XQv g (fun σ' => fX0_findNear_0 p2 σ = σ' ∧ INV σ' ∧ Fr [(10, 16)] [(41, 41), (44, 45)] σ σ') = PQz
  refine lv_aload_n hx hb dX0_findNear_0 rfl (lv_at hl 0 rfl) ?_
  refine lv_iconst (v := 1) hx hb dX0_findNear_1 (by decide) ?_
  refine y_putI E h hI hF (ty := .boolean) (v := 1) (fi_al_isForNear g) rfl hwX0 tyX0_ok nmX0 (by decide) (by decide +kernel) (by decide +kernel) (by decide +kernel) rfl rfl (ba_none rfl) rfl dX0_findNear_2 (fun s1 H locs q1 hI1 hF1 h => ?_)
  replace hR := bd_to hR q1.symm
  have e2 : s1.1 12 = 1 := congrArg (fun t : ST => t.1 12) q1
  refine lv_aload_n hx hb dX0_findNear_5 rfl (lv_at hl 0 rfl) ?_
  refine lv_aload_n hx hb dX0_findNear_6 rfl (lv_at hl 0 rfl) ?_
  refine x_getR E h (fr_al_best g) rfl hwX0 (by decide) (by decide +kernel) dX0_findNear_7 ?_
  obtain ⟨x3, e3⟩ : ∃ x, s1.1 11 = x := ⟨_, rfl⟩
  refine x_getIN E h (fi_be_value g) rfl hwX4 (by decide) (by decide +kernel) (v := x3) e3 dX0_findNear_10 ?_
  replace hR := bd_to hR e3
  refine lv_iload_n hx hb dX0_findNear_13 rfl (lv_at hl 2 rfl) ?_
  refine lv_isub hx hb dX0_findNear_14 ?_
  refine lv_topi (fun x4 e4 => ?_)
  replace hR := bd_to hR e4.symm
  refine y_putI E h hI1 hF1 (ty := .int) (v := x4) (fi_al_least g) rfl hwX0 tyX0_ok nmX0 (by decide) (by decide +kernel) (by decide +kernel) (by decide +kernel) rfl rfl (ba_none rfl) rfl dX0_findNear_15 (fun s5 H locs q5 hI5 hF5 h => ?_)
  replace hR := bd_to hR q5.symm
  have e6 : s5.1 12 = 1 := (congrArg (fun t : ST => t.1 12) q5).trans e2
  have e7 : s5.1 11 = x3 := (congrArg (fun t : ST => t.1 11) q5).trans e3
  have e8 : s5.1 13 = x4 := congrArg (fun t : ST => t.1 13) q5
  refine lv_aload_n hx hb dX0_findNear_18 rfl (lv_at hl 0 rfl) ?_
  refine lv_iconst (v := 0) hx hb dX0_findNear_19 (by decide) ?_
  refine y_putI E h hI5 hF5 (ty := .int) (v := 0) (fi_al_nearOnes g) rfl hwX0 tyX0_ok nmX0 (by decide) (by decide +kernel) (by decide +kernel) (by decide +kernel) rfl rfl (ba_none rfl) rfl dX0_findNear_20 (fun s9 H locs q9 hI9 hF9 h => ?_)
  replace hR := bd_to hR q9.symm
  have e10 : s9.1 12 = 1 := (congrArg (fun t : ST => t.1 12) q9).trans e6
  have e11 : s9.1 11 = x3 := (congrArg (fun t : ST => t.1 11) q9).trans e7
  have e12 : s9.1 13 = x4 := (congrArg (fun t : ST => t.1 13) q9).trans e8
  have e13 : s9.1 14 = 0 := congrArg (fun t : ST => t.1 14) q9
  refine lv_aload_n hx hb dX0_findNear_23 rfl (lv_at hl 0 rfl) ?_
  refine lv_bipush (v := 9) hx hb dX0_findNear_24 (by decide) ?_
  refine y_putI E h hI9 hF9 (ty := .int) (v := 9) (fi_al_fewest g) rfl hwX0 tyX0_ok nmX0 (by decide) (by decide +kernel) (by decide +kernel) (by decide +kernel) rfl rfl (ba_none rfl) rfl dX0_findNear_26 (fun s14 H locs q14 hI14 hF14 h => ?_)
  replace hR := bd_to hR q14.symm
  have e15 : s14.1 12 = 1 := (congrArg (fun t : ST => t.1 12) q14).trans e10
  have e16 : s14.1 11 = x3 := (congrArg (fun t : ST => t.1 11) q14).trans e11
  have e17 : s14.1 13 = x4 := (congrArg (fun t : ST => t.1 13) q14).trans e12
  have e18 : s14.1 14 = 0 := (congrArg (fun t : ST => t.1 14) q14).trans e13
  have e19 : s14.1 15 = 9 := congrArg (fun t : ST => t.1 15) q14
  refine lv_aload_n hx hb dX0_findNear_29 rfl (lv_at hl 0 rfl) ?_
  refine lv_iconst (v := 0) hx hb dX0_findNear_30 (by decide) ?_
  refine y_putI E h hI14 hF14 (ty := .int) (v := 0) (fi_al_most g) rfl hwX0 tyX0_ok nmX0 (by decide) (by decide +kernel) (by decide +kernel) (by decide +kernel) rfl rfl (ba_none rfl) rfl dX0_findNear_31 (fun s20 H locs q20 hI20 hF20 h => ?_)
  replace hR := bd_to hR q20.symm
  have e21 : s20.1 12 = 1 := (congrArg (fun t : ST => t.1 12) q20).trans e15
  have e22 : s20.1 11 = x3 := (congrArg (fun t : ST => t.1 11) q20).trans e16
  have e23 : s20.1 13 = x4 := (congrArg (fun t : ST => t.1 13) q20).trans e17
  have e24 : s20.1 14 = 0 := (congrArg (fun t : ST => t.1 14) q20).trans e18
  have e25 : s20.1 15 = 9 := (congrArg (fun t : ST => t.1 15) q20).trans e19
  have e26 : s20.1 16 = 0 := congrArg (fun t : ST => t.1 16) q20
  refine lv_aload_n hx hb dX0_findNear_34 rfl (lv_at hl 0 rfl) ?_
  refine lv_ldc2 (v := (-1)) hx hb hown (hts (.constantLong RX0 56 (-1)) (by decide +kernel)) dX0_findNear_35 ?_
  refine y_putL E h hI20 hF20 (ty := .long) (v := (-1)) (fl_al_always g) rfl hwX0 tyX0_ok nmX0 (by decide) (by decide +kernel) (by decide +kernel) (by decide +kernel) rfl rfl dX0_findNear_38 (fun s27 H locs q27 hI27 hF27 h => ?_)
  replace hR := bd_to hR q27.symm
  have e28 : s27.1 12 = 1 := (congrArg (fun t : ST => t.1 12) q27).trans e21
  have e29 : s27.1 11 = x3 := (congrArg (fun t : ST => t.1 11) q27).trans e22
  have e30 : s27.1 13 = x4 := (congrArg (fun t : ST => t.1 13) q27).trans e23
  have e31 : s27.1 14 = 0 := (congrArg (fun t : ST => t.1 14) q27).trans e24
  have e32 : s27.1 15 = 9 := (congrArg (fun t : ST => t.1 15) q27).trans e25
  have e33 : s27.1 16 = 0 := (congrArg (fun t : ST => t.1 16) q27).trans e26
  refine lv_aload_n hx hb dX0_findNear_41 rfl (lv_at hl 0 rfl) ?_
  refine lv_lconst (v := 0) hx hb dX0_findNear_42 (by decide) ?_
  refine y_putL E h hI27 hF27 (ty := .long) (v := 0) (fl_al_ever g) rfl hwX0 tyX0_ok nmX0 (by decide) (by decide +kernel) (by decide +kernel) (by decide +kernel) rfl rfl dX0_findNear_43 (fun s34 H locs q34 hI34 hF34 h => ?_)
  replace hR := bd_to hR q34.symm
  have e35 : s34.1 12 = 1 := (congrArg (fun t : ST => t.1 12) q34).trans e28
  have e36 : s34.1 11 = x3 := (congrArg (fun t : ST => t.1 11) q34).trans e29
  have e37 : s34.1 13 = x4 := (congrArg (fun t : ST => t.1 13) q34).trans e30
  have e38 : s34.1 14 = 0 := (congrArg (fun t : ST => t.1 14) q34).trans e31
  have e39 : s34.1 15 = 9 := (congrArg (fun t : ST => t.1 15) q34).trans e32
  have e40 : s34.1 16 = 0 := (congrArg (fun t : ST => t.1 16) q34).trans e33
  refine lv_aload_n hx hb dX0_findNear_46 rfl (lv_at hl 0 rfl) ?_
  refine x_getR E h (fr_al_members g) rfl hwX0 (by decide) (by decide +kernel) dX0_findNear_47 ?_
  refine lv_iconst (v := 0) hx hb dX0_findNear_50 (by decide) ?_
  refine x_sv E h (na := 2) (As := [.ref (g.2.1 53), .int 0]) (k_fill l g _ 53 9 45 (ia_al_members g) (by decide) 0) gX0_findNear_J7_fill_53178 rfl ⟨rfl, rfl⟩ rfl (by decide +kernel) ⟨Nat.le_of_ble_eq_true rfl, Nat.le_of_ble_eq_true rfl⟩ hl.1 rfl (Nat.le_of_ble_eq_true rfl) dX0_findNear_51 ⟨Nat.le_of_ble_eq_true rfl, Nat.le_of_ble_eq_true rfl⟩ (fun s41 H locs q41 h => ?_)
  have hI41 : INV s41 := by rw [← q41]; exact hI34.fill rfl _
  have hF41 : Fr [(10, 16)] [(41, 41), (44, 45)] σ s41 := by rw [← q41]; exact hF34.putA rfl
  replace hR := bd_to hR q41
  have e42 : s41.1 12 = 1 := ((congrArg (fun t : ST => t.1 12) q41).symm).trans e35
  have e43 : s41.1 11 = x3 := ((congrArg (fun t : ST => t.1 11) q41).symm).trans e36
  have e44 : s41.1 13 = x4 := ((congrArg (fun t : ST => t.1 13) q41).symm).trans e37
  have e45 : s41.1 14 = 0 := ((congrArg (fun t : ST => t.1 14) q41).symm).trans e38
  have e46 : s41.1 15 = 9 := ((congrArg (fun t : ST => t.1 15) q41).symm).trans e39
  have e47 : s41.1 16 = 0 := ((congrArg (fun t : ST => t.1 16) q41).symm).trans e40
  refine lv_aload_n hx hb dX0_findNear_54 rfl (lv_at hl 0 rfl) ?_
  refine lv_aload_n hx hb dX0_findNear_55 rfl (lv_at hl 1 rfl) ?_
  refine lv_iconst (v := 0) hx hb dX0_findNear_56 (by decide) ?_
  refine lv_iconst (v := 0) hx hb dX0_findNear_57 (by decide) ?_
  refine lv_iconst (v := 0) hx hb dX0_findNear_58 (by decide) ?_
  refine lv_lconst (v := 0) hx hb dX0_findNear_59 (by decide) ?_
  refine x_sv E h (na := 6) (As := [.ref (g.2.1 47), .ref (g.2.1 25), .int (nI 0), .int (nI 0), .int 0, .long 0]) (aX0_deal_0 l g s41 hI41 0 0 0 0 (by omega) (by omega)) gX0_findNear_X0_deal rfl ⟨rfl, rfl⟩ rfl (by decide +kernel) ⟨Nat.le_of_ble_eq_true rfl, Nat.le_of_ble_eq_true rfl⟩ hl.1 rfl (Nat.le_of_ble_eq_true rfl) dX0_findNear_60 ⟨Nat.le_of_ble_eq_true rfl, Nat.le_of_ble_eq_true rfl⟩ (fun s48 H locs q48 h => ?_)
  obtain ⟨x48, hI48, f48⟩ := q48
  replace hR := bd_to hR x48
  have hF48 := hF41.call f48 (I := [(10, 16)]) (J := [(41, 41), (44, 45)]) rfl rfl
  have e49 : s48.1 12 = 1 := ((f48.1 12 rfl)).trans e42
  have e50 : s48.1 13 = x4 := ((f48.1 13 rfl)).trans e44
  subst hPQ
  exact x_vret E h ⟨hR0.trans hR.symm, hI48, hF48⟩ dX0_findNear_63
set_option maxHeartbeats 4000000 in
set_option maxRecDepth 100000 in
theorem aX11_nearNow_0 (l : Launch) (g : CX) (σ : ST) (hI : INV σ)  : XM l g yX11_nearNow wsX11_nearNow { frames := 15, cells := 0, slots := 0, locals := 401 } [.ref (g.2.1 0)] σ (XQv g (fun σ' => fX11_nearNow_0 σ = σ' ∧ INV σ' ∧ Fr [(10, 16), (24, 24)] [(41, 41), (44, 45)] σ σ')) := by
  refine x_met (own := RX11) (cc := cX11_nearNow) (maxL := 1) (ret := none) (lv := [(0, .ref (g.2.1 0))]) (by decide) rfl rfl (Nat.le_of_ble_eq_true rfl) rfl ?_
  intro p e s m args below meth c ls E h hl
  have hx := E.1
  have hb := E.2.1
  have hown := E.2.2.2.1
  have hts := E.2.2.2.2.1
  have hF : Fr [(10, 16), (24, 24)] [(41, 41), (44, 45)] σ σ := Fr.refl σ
  obtain ⟨R, hR0⟩ : ∃ R, fX11_nearNow_0 σ = R := ⟨_, rfl⟩
  have hR : fX11_nearNow_0b0 σ = R := hR0
  have hwX11 : ∀ w ∈ wsX110, w ∈ wsX11_nearNow := by decide +kernel
  generalize hPQ : XQv g (fun σ' => fX11_nearNow_0 σ = σ' ∧ INV σ' ∧ Fr [(10, 16), (24, 24)] [(41, 41), (44, 45)] σ σ') = PQz
  refine lv_aload_n hx hb dX11_nearNow_0 rfl (lv_at hl 0 rfl) ?_
  obtain ⟨x1, e1⟩ : ∃ x, σ.1 24 = x := ⟨_, rfl⟩
  refine x_getI E h (fi_vh_nearIsOld g) rfl hwX11 (by decide) (by decide +kernel) (v := x1) e1 dX11_nearNow_1 ?_
  replace hR := bd_to hR e1
  refine lv_if_eq (tgt := 31) hx hb dX11_nearNow_4 (by decide) (fun c2 => ?_) (fun c2 => ?_)
  · skip
    replace hR := it_t hR c2
    subst c2
    subst hPQ
    exact x_vret E h ⟨hR0.trans hR.symm, hI, hF⟩ dX11_nearNow_31
  · skip
    replace hR := it_f hR c2
    refine lv_aload_n hx hb dX11_nearNow_7 rfl (lv_at hl 0 rfl) ?_
    refine x_getR E h (fr_vh_all g) rfl hwX11 (by decide) (by decide +kernel) dX11_nearNow_8 ?_
    refine lv_aload_n hx hb dX11_nearNow_11 rfl (lv_at hl 0 rfl) ?_
    refine x_getR E h (fr_vh_bonds g) rfl hwX11 (by decide) (by decide +kernel) dX11_nearNow_12 ?_
    refine lv_aload_n hx hb dX11_nearNow_15 rfl (lv_at hl 0 rfl) ?_
    refine x_getR E h (fr_vh_ruleText g) rfl hwX11 (by decide) (by decide +kernel) dX11_nearNow_16 ?_
    refine lv_iconst (v := 3) hx hb dX11_nearNow_19 (by decide) ?_
    refine x_vi E h (na := 1) (As := [.int 3]) (aX8_ruleNow_0 l g σ hI 3) (oc_rt g) rfl gX11_nearNow_X8_ruleNow rfl ⟨rfl, rfl⟩ rfl (by decide +kernel) ⟨Nat.le_of_ble_eq_true rfl, Nat.le_of_ble_eq_true rfl⟩ hl.1 rfl (Nat.le_of_ble_eq_true rfl) dX11_nearNow_20 ⟨Nat.le_of_ble_eq_true rfl, Nat.le_of_ble_eq_true rfl⟩ (fun r5 s5 H locs q5 h => ?_)
    obtain ⟨x5, rfl⟩ := q5
    replace hR := bd_to hR x5
    refine x_vv E h (na := 2) (As := [.ref (g.2.1 25), .int r5]) (aX0_findNear_0 l g σ hI r5) (oc_al g) rfl gX11_nearNow_X0_findNear rfl ⟨rfl, rfl⟩ rfl (by decide +kernel) ⟨Nat.le_of_ble_eq_true rfl, Nat.le_of_ble_eq_true rfl⟩ hl.1 rfl (Nat.le_of_ble_eq_true rfl) dX11_nearNow_23 ⟨Nat.le_of_ble_eq_true rfl, Nat.le_of_ble_eq_true rfl⟩ (fun s6 H locs q6 h => ?_)
    obtain ⟨x6, hI6, f6⟩ := q6
    replace hR := bd_to hR x6
    have hF6 := hF.call f6 (I := [(10, 16), (24, 24)]) (J := [(41, 41), (44, 45)]) rfl rfl
    have e7 : s6.1 24 = x1 := ((f6.1 24 rfl)).trans e1
    refine lv_aload_n hx hb dX11_nearNow_26 rfl (lv_at hl 0 rfl) ?_
    refine lv_iconst (v := 0) hx hb dX11_nearNow_27 (by decide) ?_
    refine y_putI E h hI6 hF6 (ty := .boolean) (v := 0) (fi_vh_nearIsOld g) rfl hwX11 tyX11_ok nmX11 (by decide) (by decide +kernel) (by decide +kernel) (by decide +kernel) rfl rfl (ba_none rfl) rfl dX11_nearNow_28 (fun s8 H locs q8 hI8 hF8 h => ?_)
    replace hR := bd_to hR q8.symm
    have e9 : s8.1 24 = 0 := congrArg (fun t : ST => t.1 24) q8
    subst hPQ
    exact x_vret E h ⟨hR0.trans hR.symm, hI8, hF8⟩ dX11_nearNow_31
set_option maxHeartbeats 4000000 in
set_option maxRecDepth 100000 in
theorem aX11_near_0 (l : Launch) (g : CX) (σ : ST) (hI : INV σ) (p1 : Int32) : XM l g yX11_near wsX11_near { frames := 16, cells := 0, slots := 0, locals := 421 } [.ref (g.2.1 0), .int p1] σ (XQi g (fun r σ' => fX11_near_0 p1 σ = (r, σ') ∧ INV σ' ∧ Fr [(3, 18), (22, 24)] [(8, 19), (21, 29), (31, 41), (43, 47)] σ σ')) := by
  refine x_met (own := RX11) (cc := cX11_near) (maxL := 2) (ret := (some .int)) (lv := [(0, .ref (g.2.1 0)), (1, .int p1)]) (by decide) rfl rfl (Nat.le_of_ble_eq_true rfl) rfl ?_
  intro p e s m args below meth c ls E h hl
  have hx := E.1
  have hb := E.2.1
  have hown := E.2.2.2.1
  have hts := E.2.2.2.2.1
  have hF : Fr [(3, 18), (22, 24)] [(8, 19), (21, 29), (31, 41), (43, 47)] σ σ := Fr.refl σ
  obtain ⟨R, hR0⟩ : ∃ R, fX11_near_0 p1 σ = R := ⟨_, rfl⟩
  have hR : fX11_near_0b0 p1 σ = R := hR0
  have hwX0 : ∀ w ∈ wsX00, w ∈ wsX11_near := by decide +kernel
  have hwX11 : ∀ w ∈ wsX110, w ∈ wsX11_near := by decide +kernel
  have hwX4 : ∀ w ∈ wsX40, w ∈ wsX11_near := by decide +kernel
  generalize hPQ : XQi g (fun r σ' => fX11_near_0 p1 σ = (r, σ') ∧ INV σ' ∧ Fr [(3, 18), (22, 24)] [(8, 19), (21, 29), (31, 41), (43, 47)] σ σ') = PQz
  refine lv_iload_n hx hb dX11_near_0 rfl (lv_at hl 1 rfl) ?_
  refine lv_iconst (v := 0) hx hb dX11_near_1 (by decide) ?_
  refine lv_iconst (v := 4) hx hb dX11_near_2 (by decide) ?_
  refine x_si E h (na := 3) (As := [.int p1, .int 0, .int 4]) (aX11_within_0 l g σ hI p1 0 4) gX11_near_X11_within rfl ⟨rfl, rfl⟩ rfl (by decide +kernel) ⟨Nat.le_of_ble_eq_true rfl, Nat.le_of_ble_eq_true rfl⟩ hl.1 rfl (Nat.le_of_ble_eq_true rfl) dX11_near_3 ⟨Nat.le_of_ble_eq_true rfl, Nat.le_of_ble_eq_true rfl⟩ (fun r1 s1 H locs q1 h => ?_)
  obtain ⟨x1, d1, rfl⟩ := q1
  replace hR := bd_to hR x1
  rcases d1 with ⟨rfl, u1_0_0, u1_0_1⟩ | rfl
  · skip
    obtain ⟨n2, b2, rfl⟩ := y_rnlt (N := 4) (y_lo1 u1_0_0 (by decide)) u1_0_1 (by omega)
    have b3 : 0 ≤ n2 := y_nlt (a := n2) (b := 0) (by omega) (by omega) u1_0_0
    have b4 : n2 ≤ 4 := y_nlt (a := 4) (b := n2) (by omega) (by omega) u1_0_1
    replace hR := it_f hR (by decide)
    refine lv_if_ne (tgt := 11) hx hb dX11_near_6 (by decide) (fun _ => ?_) (fun c => absurd c (by decide))
    refine lv_aload_n hx hb dX11_near_11 rfl (lv_at hl 0 rfl) ?_
    refine x_vi E h (na := 0) (As := []) (aX11_heapNow_1 l g σ hI) (oc_vh g) rfl gX11_near_X11_heapNow rfl ⟨rfl, rfl⟩ rfl (by decide +kernel) ⟨Nat.le_of_ble_eq_true rfl, Nat.le_of_ble_eq_true rfl⟩ hl.1 rfl (Nat.le_of_ble_eq_true rfl) dX11_near_12 ⟨Nat.le_of_ble_eq_true rfl, Nat.le_of_ble_eq_true rfl⟩ (fun r5 s5 H locs q5 h => ?_)
    obtain ⟨x5, d5, hI5, f5⟩ := q5
    replace hR := bp_to hR x5
    have hF5 := hF.call f5 (I := [(3, 18), (22, 24)]) (J := [(8, 19), (21, 29), (31, 41), (43, 47)]) rfl rfl
    rcases d5 with ⟨rfl, m5_0P, u5_0_0, u5_0_1, u5_0_2⟩ | rfl
    · skip
      replace hR := it_f hR (by decide)
      refine lv_if_ne (tgt := 21) hx hb dX11_near_15 (by decide) (fun _ => ?_) (fun c => absurd c (by decide))
      refine lv_iload_n hx hb dX11_near_21 rfl (lv_at hl 1 rfl) ?_
      refine lv_iconst (v := 2) hx hb dX11_near_22 (by decide) ?_
      refine lv_icmp_le (tgt := 37) hx hb dX11_near_23 (by decide) (fun c6 => ?_) (fun c6 => ?_)
      · skip
        replace hR := it_t hR c6
        have b7 : n2 ≤ 2 := y_le (a := n2) (b := 2) (by omega) (by omega) c6
        refine lv_aload_n hx hb dX11_near_37 rfl (lv_at hl 0 rfl) ?_
        refine x_vv E h (na := 0) (As := []) (aX11_nearNow_0 l g s5 hI5) (oc_vh g) rfl gX11_near_X11_nearNow rfl ⟨rfl, rfl⟩ rfl (by decide +kernel) ⟨Nat.le_of_ble_eq_true rfl, Nat.le_of_ble_eq_true rfl⟩ hl.1 rfl (Nat.le_of_ble_eq_true rfl) dX11_near_38 ⟨Nat.le_of_ble_eq_true rfl, Nat.le_of_ble_eq_true rfl⟩ (fun s8 H locs q8 h => ?_)
        obtain ⟨x8, hI8, f8⟩ := q8
        replace hR := bd_to hR x8
        have hF8 := hF5.call f8 (I := [(3, 18), (22, 24)]) (J := [(8, 19), (21, 29), (31, 41), (43, 47)]) rfl rfl
        have e9 : s8.1 5 = nI m5_0P := ((f8.1 5 rfl)).trans u5_0_0
        have e10 : s8.1 22 = 0 := ((f8.1 22 rfl)).trans u5_0_2
        refine lv_iload_n hx hb dX11_near_41 rfl (lv_at hl 1 rfl) ?_
        refine lv_if_ne (tgt := 53) hx hb dX11_near_42 (by decide) (fun c11 => ?_) (fun c11 => ?_)
        · skip
          replace hR := it_f hR c11
          have b12 : ¬ n2 = 0 := y_ne (a := n2) (b := 0) (by omega) (by omega) c11
          refine lv_iload_n hx hb dX11_near_53 rfl (lv_at hl 1 rfl) ?_
          refine lv_iconst (v := 1) hx hb dX11_near_54 (by decide) ?_
          refine lv_icmp_ne (tgt := 68) hx hb dX11_near_55 (by decide) (fun c13 => ?_) (fun c13 => ?_)
          · skip
            replace hR := it_f hR c13
            have b14 : ¬ n2 = 1 := y_ne (a := n2) (b := 1) (by omega) (by omega) c13
            refine lv_aload_n hx hb dX11_near_68 rfl (lv_at hl 0 rfl) ?_
            refine x_getR E h (fr_vh_all g) rfl hwX11 (by decide) (by decide +kernel) dX11_near_69 ?_
            obtain ⟨x15, e15⟩ : ∃ x, s8.1 16 = x := ⟨_, rfl⟩
            refine x_getIN E h (fi_al_most g) rfl hwX0 (by decide) (by decide +kernel) (v := x15) e15 dX11_near_72 ?_
            replace hR := bd_to hR e15
            subst hPQ
            exact x_iret E h ⟨hR0.trans hR.symm, hI8, hF8⟩ dX11_near_75
          · skip
            replace hR := it_t hR c13
            have b16 : n2 = 1 := y_eq (a := n2) (b := 1) (by omega) (by omega) c13
            refine lv_aload_n hx hb dX11_near_58 rfl (lv_at hl 0 rfl) ?_
            refine x_getR E h (fr_vh_all g) rfl hwX11 (by decide) (by decide +kernel) dX11_near_59 ?_
            obtain ⟨x17, e17⟩ : ∃ x, s8.1 15 = x := ⟨_, rfl⟩
            refine x_getIN E h (fi_al_fewest g) rfl hwX0 (by decide) (by decide +kernel) (v := x17) e17 dX11_near_62 ?_
            replace hR := bd_to hR e17
            refine lv_goto (tgt := 75) hx hb dX11_near_65 (by decide) ?_
            subst hPQ
            exact x_iret E h ⟨hR0.trans hR.symm, hI8, hF8⟩ dX11_near_75
        · skip
          replace hR := it_t hR c11
          have b18 : n2 = 0 := y_eq (a := n2) (b := 0) (by omega) (by omega) c11
          refine lv_aload_n hx hb dX11_near_45 rfl (lv_at hl 0 rfl) ?_
          refine x_getR E h (fr_vh_all g) rfl hwX11 (by decide) (by decide +kernel) dX11_near_46 ?_
          obtain ⟨x19, e19⟩ : ∃ x, s8.1 14 = x := ⟨_, rfl⟩
          refine x_getIN E h (fi_al_nearOnes g) rfl hwX0 (by decide) (by decide +kernel) (v := x19) e19 dX11_near_49 ?_
          replace hR := bd_to hR e19
          subst hPQ
          exact x_iret E h ⟨hR0.trans hR.symm, hI8, hF8⟩ dX11_near_52
      · skip
        replace hR := it_f hR c6
        have b20 : 2 < n2 := y_nle (a := n2) (b := 2) (by omega) (by omega) c6
        refine lv_aload_n hx hb dX11_near_26 rfl (lv_at hl 0 rfl) ?_
        refine lv_iload_n hx hb dX11_near_27 rfl (lv_at hl 1 rfl) ?_
        refine lv_iconst (v := 3) hx hb dX11_near_28 (by decide) ?_
        refine lv_isub hx hb dX11_near_29 ?_
        replace hR := bd_to hR rfl
        refine x_vr E h (na := 1) (As := [.int (nI n2 - nI 3)]) (aX11_byWay_0 l g s5 hI5 (nI n2 - nI 3)) (oc_vh g) rfl gX11_near_X11_byWay rfl ⟨rfl, rfl⟩ rfl (by decide +kernel) ⟨Nat.le_of_ble_eq_true rfl, Nat.le_of_ble_eq_true rfl⟩ hl.1 rfl (Nat.le_of_ble_eq_true rfl) dX11_near_30 ⟨Nat.le_of_ble_eq_true rfl, Nat.le_of_ble_eq_true rfl⟩ (fun r21 s21 H locs q21 h => ?_)
        obtain ⟨x21, d21, rfl⟩ := q21
        replace hR := bd_to hR x21
        rcases d21 with rfl | rfl
        · skip
          replace hR := it_t hR rfl
          obtain ⟨n22, b22, e22⟩ := hI5.1 10 9 rfl
          refine x_getIN E h (fi_be_heaps g) rfl hwX4 (by decide) (by decide +kernel) (v := nI n22) e22 dX11_near_33 ?_
          replace hR := bd_to hR e22
          subst hPQ
          exact x_iret E h ⟨hR0.trans hR.symm, hI5, hF5⟩ dX11_near_36
        · skip
          replace hR := it_f hR (by decide)
          obtain ⟨x23, e23⟩ : ∃ x, s5.1 17 = x := ⟨_, rfl⟩
          refine x_getIN E h (fi_jo_heaps g) rfl hwX4 (by decide) (by decide +kernel) (v := x23) e23 dX11_near_33 ?_
          replace hR := bd_to hR e23
          subst hPQ
          exact x_iret E h ⟨hR0.trans hR.symm, hI5, hF5⟩ dX11_near_36
    · skip
      replace hR := it_t hR (by decide)
      refine lv_if_ne (tgt := 21) hx hb dX11_near_15 (by decide) (fun c => absurd (by decide) c) (fun _ => ?_)
      refine lv_bipush (v := (-2)) hx hb dX11_near_18 (by decide) ?_
      subst hPQ
      exact x_iret E h ⟨hR0.trans hR.symm, hI5, hF5⟩ dX11_near_20
  · skip
    replace hR := it_t hR (by decide)
    refine lv_if_ne (tgt := 11) hx hb dX11_near_6 (by decide) (fun c => absurd (by decide) c) (fun _ => ?_)
    refine lv_iconst (v := (-1)) hx hb dX11_near_9 (by decide) ?_
    subst hPQ
    exact x_iret E h ⟨hR0.trans hR.symm, hI, hF⟩ dX11_near_10
set_option maxHeartbeats 4000000 in
set_option maxRecDepth 100000 in
theorem aX0_sureness_0 (l : Launch) (g : CX) (σ : ST) (hI : INV σ) (p1 : Int32) (p2 : Int32) : XM l g yX0_sureness wsX0_sureness { frames := 1, cells := 0, slots := 0, locals := 21 } [.ref (g.2.1 47), .int p1, .int p2] σ (XQi g (fun r σ' => fX0_sureness_0 p1 p2 σ = r ∧ σ = σ')) := by
  refine x_met (own := RX0) (cc := cX0_sureness) (maxL := 5) (ret := (some .int)) (lv := [(0, .ref (g.2.1 47)), (1, .int p1), (2, .int p2)]) (by decide) rfl rfl (Nat.le_of_ble_eq_true rfl) rfl ?_
  intro p e s m args below meth c ls E h hl
  have hx := E.1
  have hb := E.2.1
  have hown := E.2.2.2.1
  have hts := E.2.2.2.2.1
  obtain ⟨R, hR0⟩ : ∃ R, fX0_sureness_0 p1 p2 σ = R := ⟨_, rfl⟩
  have hR : fX0_sureness_0b0 p1 p2 σ = R := hR0
  have hwX0 : ∀ w ∈ wsX00, w ∈ wsX0_sureness := by decide +kernel
  generalize hPQ : XQi g (fun r σ' => fX0_sureness_0 p1 p2 σ = r ∧ σ = σ') = PQz
  refine lv_lconst (v := 1) hx hb dX0_sureness_0 (by decide) ?_
  refine lv_iload_n hx hb dX0_sureness_1 rfl (lv_at hl 1 rfl) ?_
  refine lv_iload_n hx hb dX0_sureness_2 rfl (lv_at hl 2 rfl) ?_
  refine x_max E hl.1 (by decide +kernel) (by decide +kernel) (by decide +kernel) (by decide +kernel) ⟨Nat.le_of_ble_eq_true rfl, Nat.le_of_ble_eq_true rfl⟩ ⟨Nat.zero_le _, Nat.zero_le _⟩ dX0_sureness_3 ?_
  refine lv_topi (fun x1 e1 => ?_)
  replace hR := bd_to hR e1.symm
  refine x_si E h (na := 1) (As := [.int x1]) (aX0_placeOfPairs_0 l g σ hI x1) gX0_sureness_X0_placeOfPairs rfl ⟨rfl, rfl⟩ rfl (by decide +kernel) ⟨Nat.le_of_ble_eq_true rfl, Nat.le_of_ble_eq_true rfl⟩ hl.1 rfl (Nat.le_of_ble_eq_true rfl) dX0_sureness_6 ⟨Nat.le_of_ble_eq_true rfl, Nat.le_of_ble_eq_true rfl⟩ (fun r2 s2 H locs q2 h => ?_)
  obtain ⟨x2, rfl⟩ := q2
  replace hR := bd_to hR x2
  refine lv_iload_n hx hb dX0_sureness_9 rfl (lv_at hl 1 rfl) ?_
  refine lv_iload_n hx hb dX0_sureness_10 rfl (lv_at hl 2 rfl) ?_
  refine x_min E hl.1 (by decide +kernel) (by decide +kernel) (by decide +kernel) (by decide +kernel) ⟨Nat.le_of_ble_eq_true rfl, Nat.le_of_ble_eq_true rfl⟩ ⟨Nat.zero_le _, Nat.zero_le _⟩ dX0_sureness_11 ?_
  refine lv_topi (fun x3 e3 => ?_)
  replace hR := bd_to hR e3.symm
  refine lv_iadd hx hb dX0_sureness_14 ?_
  refine lv_topi (fun x4 e4 => ?_)
  replace hR := bd_to hR e4.symm
  refine lv_lshl hx hb dX0_sureness_15 rfl ?_
  refine lv_topl (fun y5 e5 => ?_)
  replace hR := bd_to hR e5.symm
  refine lv_lstore_n (lv' := [(3, .long y5), (0, .ref (g.2.1 47)), (1, .int p1), (2, .int p2)]) hx hb dX0_sureness_16 rfl hl (by decide) rfl (fun ls hl => ?_)
  refine lv_aload_n hx hb dX0_sureness_17 rfl (lv_at hl 1 rfl) ?_
  refine x_getL E h (fl_al_always g) rfl hwX0 (by decide) (by decide +kernel) rfl dX0_sureness_18 ?_
  replace hR := bd_to hR rfl
  refine lv_lload_n hx hb dX0_sureness_21 rfl (lv_at hl 0 rfl) ?_
  refine lv_land hx hb dX0_sureness_22 ?_
  refine lv_topl (fun y6 e6 => ?_)
  replace hR := bd_to hR e6.symm
  refine lv_lconst (v := 0) hx hb dX0_sureness_23 (by decide) ?_
  refine W.lcmp hx hb dX0_sureness_24 ?_
  refine lv_topi (fun x7 e7 => ?_)
  replace hR := bd_to hR e7.symm
  refine lv_if_eq (tgt := 30) hx hb dX0_sureness_25 (by decide) (fun c8 => ?_) (fun c8 => ?_)
  · skip
    replace hR := it_t hR c8
    subst c8
    refine lv_aload_n hx hb dX0_sureness_30 rfl (lv_at hl 1 rfl) ?_
    refine x_getL E h (fl_al_ever g) rfl hwX0 (by decide) (by decide +kernel) rfl dX0_sureness_31 ?_
    replace hR := bd_to hR rfl
    refine lv_lload_n hx hb dX0_sureness_34 rfl (lv_at hl 0 rfl) ?_
    refine lv_land hx hb dX0_sureness_35 ?_
    refine lv_topl (fun y10 e10 => ?_)
    replace hR := bd_to hR e10.symm
    refine lv_lconst (v := 0) hx hb dX0_sureness_36 (by decide) ?_
    refine W.lcmp hx hb dX0_sureness_37 ?_
    refine lv_topi (fun x11 e11 => ?_)
    replace hR := bd_to hR e11.symm
    refine lv_if_ne (tgt := 45) hx hb dX0_sureness_38 (by decide) (fun c12 => ?_) (fun c12 => ?_)
    · skip
      replace hR := it_f hR c12
      refine lv_iconst (v := 2) hx hb dX0_sureness_45 (by decide) ?_
      replace hR : fX0_sureness_0b46 2 σ = R := hR
      subst hPQ
      exact x_iret E h ⟨hR0.trans hR.symm, rfl⟩ dX0_sureness_46
    · skip
      replace hR := it_t hR c12
      subst c12
      refine lv_iconst (v := 0) hx hb dX0_sureness_41 (by decide) ?_
      refine lv_goto (tgt := 46) hx hb dX0_sureness_42 (by decide) ?_
      replace hR : fX0_sureness_0b46 0 σ = R := hR
      subst hPQ
      exact x_iret E h ⟨hR0.trans hR.symm, rfl⟩ dX0_sureness_46
  · skip
    replace hR := it_f hR c8
    refine lv_iconst (v := 1) hx hb dX0_sureness_28 (by decide) ?_
    subst hPQ
    exact x_iret E h ⟨hR0.trans hR.symm, rfl⟩ dX0_sureness_29
set_option maxHeartbeats 4000000 in
set_option maxRecDepth 100000 in
theorem aX11_sure_0 (l : Launch) (g : CX) (σ : ST) (hI : INV σ) (p1 : Int32) (p2 : Int32) : XM l g yX11_sure wsX11_sure { frames := 16, cells := 0, slots := 0, locals := 421 } [.ref (g.2.1 0), .int p1, .int p2] σ (XQi g (fun r σ' => fX11_sure_0 p1 p2 σ = (r, σ') ∧ INV σ' ∧ Fr [(3, 18), (22, 24)] [(8, 19), (21, 29), (31, 41), (43, 47)] σ σ')) := by
  refine x_met (own := RX11) (cc := cX11_sure) (maxL := 3) (ret := (some .int)) (lv := [(0, .ref (g.2.1 0)), (1, .int p1), (2, .int p2)]) (by decide) rfl rfl (Nat.le_of_ble_eq_true rfl) rfl ?_
  intro p e s m args below meth c ls E h hl
  have hx := E.1
  have hb := E.2.1
  have hown := E.2.2.2.1
  have hts := E.2.2.2.2.1
  have hF : Fr [(3, 18), (22, 24)] [(8, 19), (21, 29), (31, 41), (43, 47)] σ σ := Fr.refl σ
  obtain ⟨R, hR0⟩ : ∃ R, fX11_sure_0 p1 p2 σ = R := ⟨_, rfl⟩
  have hR : fX11_sure_0b0 p1 p2 σ = R := hR0
  have hwX11 : ∀ w ∈ wsX110, w ∈ wsX11_sure := by decide +kernel
  generalize hPQ : XQi g (fun r σ' => fX11_sure_0 p1 p2 σ = (r, σ') ∧ INV σ' ∧ Fr [(3, 18), (22, 24)] [(8, 19), (21, 29), (31, 41), (43, 47)] σ σ') = PQz
  refine lv_aload_n hx hb dX11_sure_0 rfl (lv_at hl 0 rfl) ?_
  refine lv_iload_n hx hb dX11_sure_1 rfl (lv_at hl 1 rfl) ?_
  refine x_vi E h (na := 1) (As := [.int p1]) (aX11_isPiece_0 l g σ hI p1) (oc_vh g) rfl gX11_sure_X11_isPiece rfl ⟨rfl, rfl⟩ rfl (by decide +kernel) ⟨Nat.le_of_ble_eq_true rfl, Nat.le_of_ble_eq_true rfl⟩ hl.1 rfl (Nat.le_of_ble_eq_true rfl) dX11_sure_2 ⟨Nat.le_of_ble_eq_true rfl, Nat.le_of_ble_eq_true rfl⟩ (fun r1 s1 H locs q1 h => ?_)
  obtain ⟨x1, d1, hI1, f1⟩ := q1
  replace hR := bp_to hR x1
  have hF1 := hF.call f1 (I := [(3, 18), (22, 24)]) (J := [(8, 19), (21, 29), (31, 41), (43, 47)]) rfl rfl
  rcases d1 with ⟨rfl, m1_0n, m1_0P, u1_0_0, u1_0_1, u1_0_2, u1_0_3, rfl⟩ | rfl
  · skip
    replace hR := it_f hR (by decide)
    refine lv_if_eq (tgt := 21) hx hb dX11_sure_5 (by decide) (fun c => absurd c (by decide)) (fun _ => ?_)
    refine lv_aload_n hx hb dX11_sure_8 rfl (lv_at hl 0 rfl) ?_
    refine lv_iload_n hx hb dX11_sure_9 rfl (lv_at hl 2 rfl) ?_
    refine x_vi E h (na := 1) (As := [.int p2]) (aX11_isPiece_1 l g s1 hI1 p2 u1_0_0) (oc_vh g) rfl gX11_sure_X11_isPiece rfl ⟨rfl, rfl⟩ rfl (by decide +kernel) ⟨Nat.le_of_ble_eq_true rfl, Nat.le_of_ble_eq_true rfl⟩ hl.1 rfl (Nat.le_of_ble_eq_true rfl) dX11_sure_10 ⟨Nat.le_of_ble_eq_true rfl, Nat.le_of_ble_eq_true rfl⟩ (fun r2 s2 H locs q2 h => ?_)
    obtain ⟨x2, d2, hI2, f2⟩ := q2
    replace hR := bp_to hR x2
    have hF2 := hF1.call f2 (I := [(3, 18), (22, 24)]) (J := [(8, 19), (21, 29), (31, 41), (43, 47)]) rfl rfl
    have e3 : s2.1 22 = 0 := ((f2.1 22 rfl)).trans u1_0_0
    have e4 : s2.1 5 = nI m1_0P := ((f2.1 5 rfl)).trans u1_0_1
    rcases d2 with ⟨rfl, m2_0n, m2_0P, u2_0_0, u2_0_1, u2_0_2, u2_0_3, rfl⟩ | rfl
    · skip
      obtain rfl : m1_0P = m2_0P := y_eq (by omega) (by omega) ((e4).symm.trans u2_0_1)
      replace hR := it_f hR (by decide)
      refine lv_if_eq (tgt := 21) hx hb dX11_sure_13 (by decide) (fun c => absurd c (by decide)) (fun _ => ?_)
      refine lv_iload_n hx hb dX11_sure_16 rfl (lv_at hl 1 rfl) ?_
      refine lv_iload_n hx hb dX11_sure_17 rfl (lv_at hl 2 rfl) ?_
      refine lv_icmp_ne (tgt := 23) hx hb dX11_sure_18 (by decide) (fun c5 => ?_) (fun c5 => ?_)
      · skip
        replace hR := it_f hR c5
        have b6 : ¬ m1_0n = m2_0n := y_ne (a := m1_0n) (b := m2_0n) (by omega) (by omega) c5
        refine lv_aload_n hx hb dX11_sure_23 rfl (lv_at hl 0 rfl) ?_
        refine x_vi E h (na := 0) (As := []) (aX11_heapNow_0 l g s2 hI2 u2_0_0) (oc_vh g) rfl gX11_sure_X11_heapNow rfl ⟨rfl, rfl⟩ rfl (by decide +kernel) ⟨Nat.le_of_ble_eq_true rfl, Nat.le_of_ble_eq_true rfl⟩ hl.1 rfl (Nat.le_of_ble_eq_true rfl) dX11_sure_24 ⟨Nat.le_of_ble_eq_true rfl, Nat.le_of_ble_eq_true rfl⟩ (fun r7 s7 H locs q7 h => ?_)
        obtain ⟨x7, d7, hI7, f7⟩ := q7
        replace hR := bp_to hR x7
        have hF7 := hF2.call f7 (I := [(3, 18), (22, 24)]) (J := [(8, 19), (21, 29), (31, 41), (43, 47)]) rfl rfl
        have e8 : s7.1 22 = 0 := ((f7.1 22 rfl)).trans u2_0_0
        have e9 : s7.1 5 = nI m1_0P := ((f7.1 5 rfl)).trans e4
        rcases d7 with ⟨rfl, m7_0P, u7_0_0, u7_0_1, u7_0_2⟩ | rfl
        · skip
          obtain rfl : m1_0P = m7_0P := y_eq (by omega) (by omega) ((e9).symm.trans u7_0_0)
          replace hR := it_f hR (by decide)
          refine lv_if_ne (tgt := 33) hx hb dX11_sure_27 (by decide) (fun _ => ?_) (fun c => absurd c (by decide))
          refine lv_aload_n hx hb dX11_sure_33 rfl (lv_at hl 0 rfl) ?_
          refine x_vv E h (na := 0) (As := []) (aX11_nearNow_0 l g s7 hI7) (oc_vh g) rfl gX11_sure_X11_nearNow rfl ⟨rfl, rfl⟩ rfl (by decide +kernel) ⟨Nat.le_of_ble_eq_true rfl, Nat.le_of_ble_eq_true rfl⟩ hl.1 rfl (Nat.le_of_ble_eq_true rfl) dX11_sure_34 ⟨Nat.le_of_ble_eq_true rfl, Nat.le_of_ble_eq_true rfl⟩ (fun s10 H locs q10 h => ?_)
          obtain ⟨x10, hI10, f10⟩ := q10
          replace hR := bd_to hR x10
          have hF10 := hF7.call f10 (I := [(3, 18), (22, 24)]) (J := [(8, 19), (21, 29), (31, 41), (43, 47)]) rfl rfl
          have e11 : s10.1 22 = 0 := ((f10.1 22 rfl)).trans u7_0_2
          have e12 : s10.1 5 = nI m1_0P := ((f10.1 5 rfl)).trans e9
          refine lv_aload_n hx hb dX11_sure_37 rfl (lv_at hl 0 rfl) ?_
          refine x_getR E h (fr_vh_all g) rfl hwX11 (by decide) (by decide +kernel) dX11_sure_38 ?_
          refine lv_iload_n hx hb dX11_sure_41 rfl (lv_at hl 1 rfl) ?_
          refine lv_iload_n hx hb dX11_sure_42 rfl (lv_at hl 2 rfl) ?_
          refine x_vi E h (na := 2) (As := [.int (nI m1_0n), .int (nI m2_0n)]) (aX0_sureness_0 l g s10 hI10 (nI m1_0n) (nI m2_0n)) (oc_al g) rfl gX11_sure_X0_sureness rfl ⟨rfl, rfl⟩ rfl (by decide +kernel) ⟨Nat.le_of_ble_eq_true rfl, Nat.le_of_ble_eq_true rfl⟩ hl.1 rfl (Nat.le_of_ble_eq_true rfl) dX11_sure_43 ⟨Nat.le_of_ble_eq_true rfl, Nat.le_of_ble_eq_true rfl⟩ (fun r13 s13 H locs q13 h => ?_)
          obtain ⟨x13, rfl⟩ := q13
          replace hR := bd_to hR x13
          subst hPQ
          exact x_iret E h ⟨hR0.trans hR.symm, hI10, hF10⟩ dX11_sure_46
        · skip
          replace hR := it_t hR (by decide)
          refine lv_if_ne (tgt := 33) hx hb dX11_sure_27 (by decide) (fun c => absurd (by decide) c) (fun _ => ?_)
          refine lv_bipush (v := (-2)) hx hb dX11_sure_30 (by decide) ?_
          subst hPQ
          exact x_iret E h ⟨hR0.trans hR.symm, hI7, hF7⟩ dX11_sure_32
      · skip
        replace hR := it_t hR c5
        have b14 : m1_0n = m2_0n := y_eq (a := m1_0n) (b := m2_0n) (by omega) (by omega) c5
        refine lv_iconst (v := (-1)) hx hb dX11_sure_21 (by decide) ?_
        subst hPQ
        exact x_iret E h ⟨hR0.trans hR.symm, hI2, hF2⟩ dX11_sure_22
    · skip
      replace hR := it_t hR (by decide)
      refine lv_if_eq (tgt := 21) hx hb dX11_sure_13 (by decide) (fun _ => ?_) (fun c => absurd (by decide) c)
      refine lv_iconst (v := (-1)) hx hb dX11_sure_21 (by decide) ?_
      subst hPQ
      exact x_iret E h ⟨hR0.trans hR.symm, hI2, hF2⟩ dX11_sure_22
  · skip
    replace hR := it_t hR (by decide)
    refine lv_if_eq (tgt := 21) hx hb dX11_sure_5 (by decide) (fun _ => ?_) (fun c => absurd (by decide) c)
    refine lv_iconst (v := (-1)) hx hb dX11_sure_21 (by decide) ?_
    subst hPQ
    exact x_iret E h ⟨hR0.trans hR.symm, hI1, hF1⟩ dX11_sure_22
set_option maxHeartbeats 4000000 in
set_option maxRecDepth 100000 in
theorem aX11_isHeapNumber_0 (l : Launch) (g : CX) (σ : ST) (hI : INV σ) (p0 : Int32) : XM l g yX11_isHeapNumber wsX11_isHeapNumber { frames := 1, cells := 0, slots := 0, locals := 22 } [.int p0] σ (XQi g (fun r σ' => fX11_isHeapNumber_0 p0 σ = r ∧ ((1 = r ∧ ∃ n : Nat, n < 9 ∧ p0 = nI n) ∨ (0 = r)) ∧ σ = σ')) := by
  refine x_met (own := RX11) (cc := cX11_isHeapNumber) (maxL := 1) (ret := (some .boolean)) (lv := [(0, .int p0)]) (by decide) rfl rfl (Nat.le_of_ble_eq_true rfl) rfl ?_
  intro p e s m args below meth c ls E h hl
  have hx := E.1
  have hb := E.2.1
  have hown := E.2.2.2.1
  have hts := E.2.2.2.2.1
  obtain ⟨R, hR0⟩ : ∃ R, fX11_isHeapNumber_0 p0 σ = R := ⟨_, rfl⟩
  have hR : fX11_isHeapNumber_0b0 p0 σ = R := hR0
  generalize hPQ : XQi g (fun r σ' => fX11_isHeapNumber_0 p0 σ = r ∧ ((1 = r ∧ ∃ n : Nat, n < 9 ∧ p0 = nI n) ∨ (0 = r)) ∧ σ = σ') = PQz
  refine lv_iload_n hx hb dX11_isHeapNumber_0 rfl (lv_at hl 0 rfl) ?_
  refine lv_iconst (v := 0) hx hb dX11_isHeapNumber_1 (by decide) ?_
  refine lv_bipush (v := 8) hx hb dX11_isHeapNumber_2 (by decide) ?_
  refine x_si E h (na := 3) (As := [.int p0, .int 0, .int 8]) (aX11_within_0 l g σ hI p0 0 8) gX11_isHeapNumber_X11_within rfl ⟨rfl, rfl⟩ rfl (by decide +kernel) ⟨Nat.le_of_ble_eq_true rfl, Nat.le_of_ble_eq_true rfl⟩ hl.1 rfl (Nat.le_of_ble_eq_true rfl) dX11_isHeapNumber_4 ⟨Nat.le_of_ble_eq_true rfl, Nat.le_of_ble_eq_true rfl⟩ (fun r1 s1 H locs q1 h => ?_)
  obtain ⟨x1, d1, rfl⟩ := q1
  replace hR := bd_to hR x1
  rcases d1 with ⟨rfl, u1_0_0, u1_0_1⟩ | rfl
  · skip
    obtain ⟨n2, b2, rfl⟩ := y_rnlt (N := 8) (y_lo1 u1_0_0 (by decide)) u1_0_1 (by omega)
    have b3 : 0 ≤ n2 := y_nlt (a := n2) (b := 0) (by omega) (by omega) u1_0_0
    have b4 : n2 ≤ 8 := y_nlt (a := 8) (b := n2) (by omega) (by omega) u1_0_1
    subst hPQ
    exact x_zret E h rfl ⟨hR0.trans hR.symm, (Or.inl ⟨rfl, n2, (by omega), rfl⟩), rfl⟩ dX11_isHeapNumber_7
  · skip
    subst hPQ
    exact x_zret E h rfl ⟨hR0.trans hR.symm, (Or.inr (rfl)), rfl⟩ dX11_isHeapNumber_7
set_option maxHeartbeats 4000000 in
set_option maxRecDepth 100000 in
theorem aX11_refusedHeap_0 (l : Launch) (g : CX) (σ : ST) (hI : INV σ) (p1 : Int32) : XM l g yX11_refusedHeap wsX11_refusedHeap { frames := 16, cells := 0, slots := 0, locals := 420 } [.ref (g.2.1 0), .int p1] σ (XQi g (fun r σ' => fX11_refusedHeap_0 p1 σ = (r, σ') ∧ INV σ' ∧ Fr [(3, 12), (14, 18), (22, 23)] [(8, 19), (21, 29), (31, 41), (43, 47)] σ σ')) := by
  refine x_met (own := RX11) (cc := cX11_refusedHeap) (maxL := 2) (ret := (some .int)) (lv := [(0, .ref (g.2.1 0)), (1, .int p1)]) (by decide) rfl rfl (Nat.le_of_ble_eq_true rfl) rfl ?_
  intro p e s m args below meth c ls E h hl
  have hx := E.1
  have hb := E.2.1
  have hown := E.2.2.2.1
  have hts := E.2.2.2.2.1
  have hF : Fr [(3, 12), (14, 18), (22, 23)] [(8, 19), (21, 29), (31, 41), (43, 47)] σ σ := Fr.refl σ
  obtain ⟨R, hR0⟩ : ∃ R, fX11_refusedHeap_0 p1 σ = R := ⟨_, rfl⟩
  have hR : fX11_refusedHeap_0b0 p1 σ = R := hR0
  have hwX0 : ∀ w ∈ wsX00, w ∈ wsX11_refusedHeap := by decide +kernel
  have hwX11 : ∀ w ∈ wsX110, w ∈ wsX11_refusedHeap := by decide +kernel
  have hwX4 : ∀ w ∈ wsX40, w ∈ wsX11_refusedHeap := by decide +kernel
  generalize hPQ : XQi g (fun r σ' => fX11_refusedHeap_0 p1 σ = (r, σ') ∧ INV σ' ∧ Fr [(3, 12), (14, 18), (22, 23)] [(8, 19), (21, 29), (31, 41), (43, 47)] σ σ') = PQz
  refine lv_aload_n hx hb dX11_refusedHeap_0 rfl (lv_at hl 0 rfl) ?_
  refine x_vi E h (na := 0) (As := []) (aX11_heapNow_1 l g σ hI) (oc_vh g) rfl gX11_refusedHeap_X11_heapNow rfl ⟨rfl, rfl⟩ rfl (by decide +kernel) ⟨Nat.le_of_ble_eq_true rfl, Nat.le_of_ble_eq_true rfl⟩ hl.1 rfl (Nat.le_of_ble_eq_true rfl) dX11_refusedHeap_1 ⟨Nat.le_of_ble_eq_true rfl, Nat.le_of_ble_eq_true rfl⟩ (fun r1 s1 H locs q1 h => ?_)
  obtain ⟨x1, d1, hI1, f1⟩ := q1
  replace hR := bp_to hR x1
  have hF1 := hF.call f1 (I := [(3, 12), (14, 18), (22, 23)]) (J := [(8, 19), (21, 29), (31, 41), (43, 47)]) rfl rfl
  rcases d1 with ⟨rfl, m1_0P, u1_0_0, u1_0_1, u1_0_2⟩ | rfl
  · skip
    replace hR := it_f hR (by decide)
    refine lv_if_ne (tgt := 10) hx hb dX11_refusedHeap_4 (by decide) (fun _ => ?_) (fun c => absurd c (by decide))
    refine lv_iload_n hx hb dX11_refusedHeap_10 rfl (lv_at hl 1 rfl) ?_
    refine lv_aload_n hx hb dX11_refusedHeap_11 rfl (lv_at hl 0 rfl) ?_
    refine x_getR E h (fr_vh_all g) rfl hwX11 (by decide) (by decide +kernel) dX11_refusedHeap_12 ?_
    refine x_getRN E h (fr_al_best g) rfl hwX0 (by decide) (by decide +kernel) dX11_refusedHeap_15 ?_
    obtain ⟨n2, b2, e2⟩ := hI1.1 10 9 rfl
    refine x_getIN E h (fi_be_heaps g) rfl hwX4 (by decide) (by decide +kernel) (v := nI n2) e2 dX11_refusedHeap_18 ?_
    replace hR := bd_to hR e2
    refine lv_icmp_ge (tgt := 28) hx hb dX11_refusedHeap_21 (by decide) (fun c3 => ?_) (fun c3 => ?_)
    · skip
      replace hR := it_t hR c3
      refine lv_iconst (v := (-1)) hx hb dX11_refusedHeap_28 (by decide) ?_
      replace hR : fX11_refusedHeap_0b29 (-1) s1 = R := hR
      subst hPQ
      exact x_iret E h ⟨hR0.trans hR.symm, hI1, hF1⟩ dX11_refusedHeap_29
    · skip
      replace hR := it_f hR c3
      refine lv_iconst (v := 0) hx hb dX11_refusedHeap_24 (by decide) ?_
      refine lv_goto (tgt := 29) hx hb dX11_refusedHeap_25 (by decide) ?_
      replace hR : fX11_refusedHeap_0b29 0 s1 = R := hR
      subst hPQ
      exact x_iret E h ⟨hR0.trans hR.symm, hI1, hF1⟩ dX11_refusedHeap_29
  · skip
    replace hR := it_t hR (by decide)
    refine lv_if_ne (tgt := 10) hx hb dX11_refusedHeap_4 (by decide) (fun c => absurd (by decide) c) (fun _ => ?_)
    refine lv_bipush (v := (-2)) hx hb dX11_refusedHeap_7 (by decide) ?_
    subst hPQ
    exact x_iret E h ⟨hR0.trans hR.symm, hI1, hF1⟩ dX11_refusedHeap_9
set_option maxHeartbeats 4000000 in
set_option maxRecDepth 100000 in
theorem aX4_middleOf_0 (l : Launch) (g : CX) (σ : ST) (hI : INV σ) (p1 : Int32) (p2 : Int32) : XM l g yX4_middleOf wsX4_middleOf { frames := 0, cells := 0, slots := 0, locals := 0 } [.ref (g.2.1 48), .int p1, .int p2] σ (XQi g (fun r σ' => fX4_middleOf_0 p1 p2 σ = r ∧ σ = σ')) := by
  refine x_met (own := RX4) (cc := cX4_middleOf) (maxL := 3) (ret := (some .int)) (lv := [(0, .ref (g.2.1 48)), (1, .int p1), (2, .int p2)]) (by decide) rfl rfl (Nat.le_of_ble_eq_true rfl) rfl ?_
  intro p e s m args below meth c ls E h hl
  have hx := E.1
  have hb := E.2.1
  have hown := E.2.2.2.1
  have hts := E.2.2.2.2.1
  obtain ⟨R, hR0⟩ : ∃ R, fX4_middleOf_0 p1 p2 σ = R := ⟨_, rfl⟩
  have hR : fX4_middleOf_0b0 p1 p2 σ = R := hR0
  have hwX4 : ∀ w ∈ wsX40, w ∈ wsX4_middleOf := by decide +kernel
  generalize hPQ : XQi g (fun r σ' => fX4_middleOf_0 p1 p2 σ = r ∧ σ = σ') = PQz
  refine lv_iload_n hx hb dX4_middleOf_0 rfl (lv_at hl 1 rfl) ?_
  refine lv_if_lt (tgt := 34) hx hb dX4_middleOf_1 (by decide) (fun c1 => ?_) (fun c1 => ?_)
  · skip
    replace hR := it_t hR c1
    refine lv_iconst (v := 0) hx hb dX4_middleOf_34 (by decide) ?_
    replace hR : fX4_middleOf_0b35 0 σ = R := hR
    subst hPQ
    exact x_iret E h ⟨hR0.trans hR.symm, rfl⟩ dX4_middleOf_35
  · skip
    replace hR := it_f hR c1
    refine lv_iload_n hx hb dX4_middleOf_4 rfl (lv_at hl 1 rfl) ?_
    refine lv_aload_n hx hb dX4_middleOf_5 rfl (lv_at hl 0 rfl) ?_
    obtain ⟨n4, b4, e4⟩ := hI.1 10 9 rfl
    refine x_getI E h (fi_be_heaps g) rfl hwX4 (by decide) (by decide +kernel) (v := nI n4) e4 dX4_middleOf_6 ?_
    replace hR := bd_to hR e4
    refine lv_icmp_ge (tgt := 34) hx hb dX4_middleOf_9 (by decide) (fun c5 => ?_) (fun c5 => ?_)
    · skip
      replace hR := it_t hR c5
      refine lv_iconst (v := 0) hx hb dX4_middleOf_34 (by decide) ?_
      replace hR : fX4_middleOf_0b35 0 σ = R := hR
      subst hPQ
      exact x_iret E h ⟨hR0.trans hR.symm, rfl⟩ dX4_middleOf_35
    · skip
      replace hR := it_f hR c5
      obtain ⟨n8, b8, rfl⟩ := y_rnle (N := n4) (y_lo1 c1 (by decide)) c5 (by omega)
      have b9 : 0 ≤ n8 := y_nlt (a := n8) (b := 0) (by omega) (by omega) c1
      have b10 : n8 < n4 := y_nle (a := n4) (b := n8) (by omega) (by omega) c5
      refine lv_iload_n hx hb dX4_middleOf_12 rfl (lv_at hl 2 rfl) ?_
      refine lv_if_lt (tgt := 34) hx hb dX4_middleOf_13 (by decide) (fun c11 => ?_) (fun c11 => ?_)
      · skip
        replace hR := it_t hR c11
        refine lv_iconst (v := 0) hx hb dX4_middleOf_34 (by decide) ?_
        replace hR : fX4_middleOf_0b35 0 σ = R := hR
        subst hPQ
        exact x_iret E h ⟨hR0.trans hR.symm, rfl⟩ dX4_middleOf_35
      · skip
        replace hR := it_f hR c11
        refine lv_iload_n hx hb dX4_middleOf_16 rfl (lv_at hl 2 rfl) ?_
        refine lv_iconst (v := 4) hx hb dX4_middleOf_17 (by decide) ?_
        refine lv_icmp_ge (tgt := 34) hx hb dX4_middleOf_18 (by decide) (fun c14 => ?_) (fun c14 => ?_)
        · skip
          replace hR := it_t hR c14
          refine lv_iconst (v := 0) hx hb dX4_middleOf_34 (by decide) ?_
          replace hR : fX4_middleOf_0b35 0 σ = R := hR
          subst hPQ
          exact x_iret E h ⟨hR0.trans hR.symm, rfl⟩ dX4_middleOf_35
        · skip
          replace hR := it_f hR c14
          obtain ⟨n17, b17, rfl⟩ := y_rnle (N := 4) (y_lo1 c11 (by decide)) c14 (by omega)
          have b18 : 0 ≤ n17 := y_nlt (a := n17) (b := 0) (by omega) (by omega) c11
          have b19 : n17 < 4 := y_nle (a := 4) (b := n17) (by omega) (by omega) c14
          refine lv_aload_n hx hb dX4_middleOf_21 rfl (lv_at hl 0 rfl) ?_
          refine x_getR E h (fr_be_middles g) rfl hwX4 (by decide) (by decide +kernel) dX4_middleOf_22 ?_
          refine lv_iload_n hx hb dX4_middleOf_25 rfl (lv_at hl 1 rfl) ?_
          refine lv_iconst (v := 4) hx hb dX4_middleOf_26 (by decide) ?_
          refine lv_imul hx hb dX4_middleOf_27 ?_
          refine x_topI (v2 := nI (n8 * 4)) (pk_mul n8 4) ?_
          replace hR := bd_to hR (pk_mul n8 4)
          refine lv_iload_n hx hb dX4_middleOf_28 rfl (lv_at hl 2 rfl) ?_
          refine lv_iadd hx hb dX4_middleOf_29 ?_
          refine x_topI (v2 := nI ((n8 * 4) + n17)) (nI_add (n8 * 4) n17) ?_
          replace hR := bd_to hR (nI_add (n8 * 4) n17)
          refine x_ldI E h (ia_be_middles g) (i := nI ((n8 * 4) + n17)) (vp_in_nI (by omega) (by decide)) (v := σ.2.2 43 ((n8 * 4) + n17)) (congrArg (σ.2.2 43) (nI_clamp (n := (n8 * 4) + n17) (by omega))) dX4_middleOf_30 ?_
          replace hR := bd_to hR (congrArg (σ.2.2 43) (nI_clamp (n := (n8 * 4) + n17) (by omega)))
          refine lv_goto (tgt := 35) hx hb dX4_middleOf_31 (by decide) ?_
          subst hPQ
          exact x_iret E h ⟨hR0.trans hR.symm, rfl⟩ dX4_middleOf_35
set_option maxHeartbeats 4000000 in
set_option maxRecDepth 100000 in
theorem aX11_middle_0 (l : Launch) (g : CX) (σ : ST) (hI : INV σ) (p1 : Int32) (p2 : Int32) : XM l g yX11_middle wsX11_middle { frames := 17, cells := 0, slots := 0, locals := 441 } [.ref (g.2.1 0), .int p1, .int p2] σ (XQi g (fun r σ' => fX11_middle_0 p1 p2 σ = (r, σ') ∧ INV σ' ∧ Fr [(3, 12), (14, 18), (22, 23)] [(8, 19), (21, 29), (31, 41), (43, 47)] σ σ')) := by
  refine x_met (own := RX11) (cc := cX11_middle) (maxL := 4) (ret := (some .int)) (lv := [(0, .ref (g.2.1 0)), (1, .int p1), (2, .int p2)]) (by decide) rfl rfl (Nat.le_of_ble_eq_true rfl) rfl ?_
  intro p e s m args below meth c ls E h hl
  have hx := E.1
  have hb := E.2.1
  have hown := E.2.2.2.1
  have hts := E.2.2.2.2.1
  have hF : Fr [(3, 12), (14, 18), (22, 23)] [(8, 19), (21, 29), (31, 41), (43, 47)] σ σ := Fr.refl σ
  obtain ⟨R, hR0⟩ : ∃ R, fX11_middle_0 p1 p2 σ = R := ⟨_, rfl⟩
  have hR : fX11_middle_0b0 p1 p2 σ = R := hR0
  have hwX0 : ∀ w ∈ wsX00, w ∈ wsX11_middle := by decide +kernel
  have hwX11 : ∀ w ∈ wsX110, w ∈ wsX11_middle := by decide +kernel
  generalize hPQ : XQi g (fun r σ' => fX11_middle_0 p1 p2 σ = (r, σ') ∧ INV σ' ∧ Fr [(3, 12), (14, 18), (22, 23)] [(8, 19), (21, 29), (31, 41), (43, 47)] σ σ') = PQz
  refine lv_iload_n hx hb dX11_middle_0 rfl (lv_at hl 1 rfl) ?_
  refine x_si E h (na := 1) (As := [.int p1]) (aX11_isHeapNumber_0 l g σ hI p1) gX11_middle_X11_isHeapNumber rfl ⟨rfl, rfl⟩ rfl (by decide +kernel) ⟨Nat.le_of_ble_eq_true rfl, Nat.le_of_ble_eq_true rfl⟩ hl.1 rfl (Nat.le_of_ble_eq_true rfl) dX11_middle_1 ⟨Nat.le_of_ble_eq_true rfl, Nat.le_of_ble_eq_true rfl⟩ (fun r1 s1 H locs q1 h => ?_)
  obtain ⟨x1, d1, rfl⟩ := q1
  replace hR := bd_to hR x1
  rcases d1 with ⟨rfl, m1_0n, u1_0_0, rfl⟩ | rfl
  · skip
    replace hR := it_f hR (by decide)
    refine lv_if_eq (tgt := 16) hx hb dX11_middle_4 (by decide) (fun c => absurd c (by decide)) (fun _ => ?_)
    refine lv_iload_n hx hb dX11_middle_7 rfl (lv_at hl 2 rfl) ?_
    refine lv_iconst (v := 0) hx hb dX11_middle_8 (by decide) ?_
    refine lv_iconst (v := 3) hx hb dX11_middle_9 (by decide) ?_
    refine x_si E h (na := 3) (As := [.int p2, .int 0, .int 3]) (aX11_within_0 l g σ hI p2 0 3) gX11_middle_X11_within rfl ⟨rfl, rfl⟩ rfl (by decide +kernel) ⟨Nat.le_of_ble_eq_true rfl, Nat.le_of_ble_eq_true rfl⟩ hl.1 rfl (Nat.le_of_ble_eq_true rfl) dX11_middle_10 ⟨Nat.le_of_ble_eq_true rfl, Nat.le_of_ble_eq_true rfl⟩ (fun r2 s2 H locs q2 h => ?_)
    obtain ⟨x2, d2, rfl⟩ := q2
    replace hR := bd_to hR x2
    rcases d2 with ⟨rfl, u2_0_0, u2_0_1⟩ | rfl
    · skip
      obtain ⟨n3, b3, rfl⟩ := y_rnlt (N := 3) (y_lo1 u2_0_0 (by decide)) u2_0_1 (by omega)
      have b4 : 0 ≤ n3 := y_nlt (a := n3) (b := 0) (by omega) (by omega) u2_0_0
      have b5 : n3 ≤ 3 := y_nlt (a := 3) (b := n3) (by omega) (by omega) u2_0_1
      replace hR := it_f hR (by decide)
      refine lv_if_ne (tgt := 18) hx hb dX11_middle_13 (by decide) (fun _ => ?_) (fun c => absurd c (by decide))
      refine lv_aload_n hx hb dX11_middle_18 rfl (lv_at hl 0 rfl) ?_
      refine lv_iload_n hx hb dX11_middle_19 rfl (lv_at hl 1 rfl) ?_
      refine x_vi E h (na := 1) (As := [.int (nI m1_0n)]) (aX11_refusedHeap_0 l g σ hI (nI m1_0n)) (oc_vh g) rfl gX11_middle_X11_refusedHeap rfl ⟨rfl, rfl⟩ rfl (by decide +kernel) ⟨Nat.le_of_ble_eq_true rfl, Nat.le_of_ble_eq_true rfl⟩ hl.1 rfl (Nat.le_of_ble_eq_true rfl) dX11_middle_20 ⟨Nat.le_of_ble_eq_true rfl, Nat.le_of_ble_eq_true rfl⟩ (fun r6 s6 H locs q6 h => ?_)
      obtain ⟨x6, hI6, f6⟩ := q6
      replace hR := bp_to hR x6
      have hF6 := hF.call f6 (I := [(3, 12), (14, 18), (22, 23)]) (J := [(8, 19), (21, 29), (31, 41), (43, 47)]) rfl rfl
      refine lv_istore_n (lv' := [(3, .int r6), (0, .ref (g.2.1 0)), (1, .int (nI m1_0n)), (2, .int (nI n3))]) hx hb dX11_middle_23 rfl hl (by decide) rfl (fun ls hl => ?_)
      refine lv_iload_n hx hb dX11_middle_24 rfl (lv_at hl 0 rfl) ?_
      refine lv_if_ge (tgt := 32) hx hb dX11_middle_25 (by decide) (fun c7 => ?_) (fun c7 => ?_)
      · skip
        replace hR := it_t hR c7
        refine lv_aload_n hx hb dX11_middle_32 rfl (lv_at hl 1 rfl) ?_
        refine x_getR E h (fr_vh_all g) rfl hwX11 (by decide) (by decide +kernel) dX11_middle_33 ?_
        refine x_getRN E h (fr_al_best g) rfl hwX0 (by decide) (by decide +kernel) dX11_middle_36 ?_
        refine lv_iload_n hx hb dX11_middle_39 rfl (lv_at hl 2 rfl) ?_
        refine lv_iload_n hx hb dX11_middle_40 rfl (lv_at hl 3 rfl) ?_
        refine x_vi E h (na := 2) (As := [.int (nI m1_0n), .int (nI n3)]) (aX4_middleOf_0 l g s6 hI6 (nI m1_0n) (nI n3)) (oc_be g) rfl gX11_middle_X4_middleOf rfl ⟨rfl, rfl⟩ rfl (by decide +kernel) ⟨Nat.le_of_ble_eq_true rfl, Nat.le_of_ble_eq_true rfl⟩ hl.1 rfl (Nat.le_of_ble_eq_true rfl) dX11_middle_41 ⟨Nat.le_of_ble_eq_true rfl, Nat.le_of_ble_eq_true rfl⟩ (fun r9 s9 H locs q9 h => ?_)
        obtain ⟨x9, rfl⟩ := q9
        replace hR := bd_to hR x9
        subst hPQ
        exact x_iret E h ⟨hR0.trans hR.symm, hI6, hF6⟩ dX11_middle_44
      · skip
        replace hR := it_f hR c7
        refine lv_iload_n hx hb dX11_middle_28 rfl (lv_at hl 0 rfl) ?_
        refine lv_goto (tgt := 44) hx hb dX11_middle_29 (by decide) ?_
        replace hR : fX11_middle_0b44 r6 s6 = R := hR
        subst hPQ
        exact x_iret E h ⟨hR0.trans hR.symm, hI6, hF6⟩ dX11_middle_44
    · skip
      replace hR := it_t hR (by decide)
      refine lv_if_ne (tgt := 18) hx hb dX11_middle_13 (by decide) (fun c => absurd (by decide) c) (fun _ => ?_)
      refine lv_iconst (v := (-1)) hx hb dX11_middle_16 (by decide) ?_
      subst hPQ
      exact x_iret E h ⟨hR0.trans hR.symm, hI, hF⟩ dX11_middle_17
  · skip
    replace hR := it_t hR (by decide)
    refine lv_if_eq (tgt := 16) hx hb dX11_middle_4 (by decide) (fun _ => ?_) (fun c => absurd (by decide) c)
    refine lv_iconst (v := (-1)) hx hb dX11_middle_16 (by decide) ?_
    subst hPQ
    exact x_iret E h ⟨hR0.trans hR.symm, hI, hF⟩ dX11_middle_17
set_option maxHeartbeats 4000000 in
set_option maxRecDepth 100000 in
theorem aX11_off_1 (l : Launch) (g : CX) (σ : ST) (hI : INV σ) (p1 : Int32) (p3 : Int32) : XM l g yX11_off wsX11_off { frames := 1, cells := 0, slots := 0, locals := 21 } [.ref (g.2.1 20), .int p1, .ref (g.2.1 51), .int p3] σ (XQi g (fun r σ' => fX11_off_1 p1 p3 σ = r ∧ σ = σ')) := by
  refine x_met (own := RX11) (cc := cX11_off) (maxL := 6) (ret := (some .int)) (lv := [(0, .ref (g.2.1 20)), (1, .int p1), (2, .ref (g.2.1 51)), (3, .int p3)]) (by decide) rfl rfl (Nat.le_of_ble_eq_true rfl) rfl ?_
  intro p e s m args below meth c ls E h hl
  have hx := E.1
  have hb := E.2.1
  have hown := E.2.2.2.1
  have hts := E.2.2.2.2.1
  obtain ⟨R, hR0⟩ : ∃ R, fX11_off_1 p1 p3 σ = R := ⟨_, rfl⟩
  have hR : fX11_off_1b0 p1 p3 σ = R := hR0
  generalize hPQ : XQi g (fun r σ' => fX11_off_1 p1 p3 σ = r ∧ σ = σ') = PQz
  refine lv_iload_n hx hb dX11_off_0 rfl (lv_at hl 1 rfl) ?_
  refine lv_if_lt (tgt := 24) hx hb dX11_off_1 (by decide) (fun c1 => ?_) (fun c1 => ?_)
  · skip
    replace hR := it_t hR c1
    refine lv_iconst (v := 0) hx hb dX11_off_24 (by decide) ?_
    subst hPQ
    exact x_iret E h ⟨hR0.trans hR.symm, rfl⟩ dX11_off_25
  · skip
    replace hR := it_f hR c1
    refine lv_iload_n hx hb dX11_off_4 rfl (lv_at hl 1 rfl) ?_
    refine lv_aload_n hx hb dX11_off_5 rfl (lv_at hl 0 rfl) ?_
    refine x_len E h (ia_cu_middles g) (v := 192) (by decide) dX11_off_6 ?_
    refine lv_iconst (v := 4) hx hb dX11_off_7 (by decide) ?_
    refine lv_isub hx hb dX11_off_8 ?_
    refine x_topI (v2 := 188) (by decide) ?_
    replace hR := bd_to hR (show (192 : Int32) - (4 : Int32) = 188 by decide)
    refine lv_icmp_gt (tgt := 24) hx hb dX11_off_9 (by decide) (fun c4 => ?_) (fun c4 => ?_)
    · skip
      replace hR := it_t hR c4
      refine lv_iconst (v := 0) hx hb dX11_off_24 (by decide) ?_
      subst hPQ
      exact x_iret E h ⟨hR0.trans hR.symm, rfl⟩ dX11_off_25
    · skip
      replace hR := it_f hR c4
      obtain ⟨n7, b7, rfl⟩ := y_rnlt (N := 188) (y_lo1 c1 (by decide)) c4 (by omega)
      have b8 : 0 ≤ n7 := y_nlt (a := n7) (b := 0) (by omega) (by omega) c1
      have b9 : n7 ≤ 188 := y_nlt (a := 188) (b := n7) (by omega) (by omega) c4
      refine lv_iload_n hx hb dX11_off_12 rfl (lv_at hl 3 rfl) ?_
      refine lv_if_lt (tgt := 24) hx hb dX11_off_13 (by decide) (fun c10 => ?_) (fun c10 => ?_)
      · skip
        replace hR := it_t hR c10
        refine lv_iconst (v := 0) hx hb dX11_off_24 (by decide) ?_
        subst hPQ
        exact x_iret E h ⟨hR0.trans hR.symm, rfl⟩ dX11_off_25
      · skip
        replace hR := it_f hR c10
        refine lv_iload_n hx hb dX11_off_16 rfl (lv_at hl 3 rfl) ?_
        refine lv_aload_n hx hb dX11_off_17 rfl (lv_at hl 2 rfl) ?_
        refine x_len E h (ia_be_middles g) (v := 36) (by decide) dX11_off_18 ?_
        refine lv_iconst (v := 4) hx hb dX11_off_19 (by decide) ?_
        refine lv_isub hx hb dX11_off_20 ?_
        refine x_topI (v2 := 32) (by decide) ?_
        replace hR := bd_to hR (show (36 : Int32) - (4 : Int32) = 32 by decide)
        refine lv_icmp_le (tgt := 26) hx hb dX11_off_21 (by decide) (fun c13 => ?_) (fun c13 => ?_)
        · skip
          replace hR := it_t hR c13
          obtain ⟨n15, b15, rfl⟩ := y_rle (N := 32) (y_lo1 c10 (by decide)) c13 (by omega)
          have b16 : 0 ≤ n15 := y_nlt (a := n15) (b := 0) (by omega) (by omega) c10
          have b17 : n15 ≤ 32 := y_le (a := n15) (b := 32) (by omega) (by omega) c13
          refine lv_iconst (v := 0) hx hb dX11_off_26 (by decide) ?_
          refine lv_istore (lv' := [(4, .int 0), (0, .ref (g.2.1 20)), (1, .int (nI n7)), (2, .ref (g.2.1 51)), (3, .int (nI n15))]) hx hb dX11_off_27 hl (by decide) rfl (fun ls hl => ?_)
          refine lv_iconst (v := 0) hx hb dX11_off_29 (by decide) ?_
          refine lv_istore (lv' := [(5, .int 0), (4, .int 0), (0, .ref (g.2.1 20)), (1, .int (nI n7)), (2, .ref (g.2.1 51)), (3, .int (nI n15))]) hx hb dX11_off_30 hl (by decide) rfl (fun ls hl => ?_)
          have loop32_18 : ∀ (fu : Nat) (i18_5 : Nat) (i18_4 : Int32), i18_5 ≤ 4 → fX11_off_1l32 fu (nI n7) (nI n15) i18_4 (nI i18_5) σ = R → 4 - i18_5 < fu → ∀ (H : Heap) (locs : List Loc) (ls : Array Slot), HW g σ s H locs → lv_has ls 6 [(5, .int (nI i18_5)), (4, .int i18_4), (0, .ref (g.2.1 20)), (1, .int (nI n7)), (2, .ref (g.2.1 51)), (3, .int (nI n15))] → W p l e { frames := 1, cells := 0, slots := 0, locals := 21 } s m args below meth c H locs 0 0 (MQ below PQz args s 0 0 (Aw g)) (F0 m 32 ls []) := by
            intro fu18
            induction fu18 with
            | zero => intro i18_5 i18_4 bi18_5 hR18 hm; exact absurd hm (Nat.not_lt_zero _)
            | succ fu18 ih =>
              have ih18 := ih
              clear ih
              intro i18_5 i18_4 bi18_5 hR18 hm18 H locs ls h hl
              replace hR18 : fX11_off_1b32 (fX11_off_1l32 fu18) (nI n7) (nI n15) i18_4 (nI i18_5) σ = R := hR18
              refine lv_iload hx hb dX11_off_32 (lv_at hl 0 rfl) ?_
              refine lv_iconst (v := 4) hx hb dX11_off_34 (by decide) ?_
              refine lv_icmp_ge (tgt := 65) hx hb dX11_off_35 (by decide) (fun c19 => ?_) (fun c19 => ?_)
              · skip
                replace hR18 := it_t hR18 c19
                have b20 : 4 ≤ i18_5 := y_le (a := 4) (b := i18_5) (by omega) (by omega) c19
                refine lv_iload hx hb dX11_off_65 (lv_at hl 1 rfl) ?_
                subst hPQ
                exact x_iret E h ⟨hR0.trans hR18.symm, rfl⟩ dX11_off_67
              · skip
                replace hR18 := it_f hR18 c19
                have b21 : i18_5 < 4 := y_nle (a := 4) (b := i18_5) (by omega) (by omega) c19
                refine lv_iload hx hb dX11_off_38 (lv_at hl 1 rfl) ?_
                refine lv_aload_n hx hb dX11_off_40 rfl (lv_at hl 2 rfl) ?_
                refine lv_iload_n hx hb dX11_off_41 rfl (lv_at hl 3 rfl) ?_
                refine lv_iload hx hb dX11_off_42 (lv_at hl 0 rfl) ?_
                refine lv_iadd hx hb dX11_off_44 ?_
                refine x_topI (v2 := nI (n7 + i18_5)) (nI_add n7 i18_5) ?_
                replace hR18 := bd_to hR18 (nI_add n7 i18_5)
                refine x_ldI E h (ia_cu_middles g) (i := nI (n7 + i18_5)) (vp_in_nI (by omega) (by decide)) (v := σ.2.2 15 (n7 + i18_5)) (congrArg (σ.2.2 15) (nI_clamp (n := n7 + i18_5) (by omega))) dX11_off_45 ?_
                replace hR18 := bd_to hR18 (congrArg (σ.2.2 15) (nI_clamp (n := n7 + i18_5) (by omega)))
                refine lv_aload_n hx hb dX11_off_46 rfl (lv_at hl 4 rfl) ?_
                refine lv_iload_n hx hb dX11_off_47 rfl (lv_at hl 5 rfl) ?_
                refine lv_iload hx hb dX11_off_48 (lv_at hl 0 rfl) ?_
                refine lv_iadd hx hb dX11_off_50 ?_
                refine x_topI (v2 := nI (n15 + i18_5)) (nI_add n15 i18_5) ?_
                replace hR18 := bd_to hR18 (nI_add n15 i18_5)
                refine x_ldI E h (ia_be_middles g) (i := nI (n15 + i18_5)) (vp_in_nI (by omega) (by decide)) (v := σ.2.2 43 (n15 + i18_5)) (congrArg (σ.2.2 43) (nI_clamp (n := n15 + i18_5) (by omega))) dX11_off_51 ?_
                replace hR18 := bd_to hR18 (congrArg (σ.2.2 43) (nI_clamp (n := n15 + i18_5) (by omega)))
                refine lv_isub hx hb dX11_off_52 ?_
                refine lv_topi (fun x22 e22 => ?_)
                replace hR18 := bd_to hR18 e22.symm
                refine x_abs E hl.1 (by decide +kernel) (by decide +kernel) (by decide +kernel) (by decide +kernel) ⟨Nat.le_of_ble_eq_true rfl, Nat.le_of_ble_eq_true rfl⟩ ⟨Nat.zero_le _, Nat.zero_le _⟩ dX11_off_53 ?_
                refine lv_topi (fun x23 e23 => ?_)
                replace hR18 := bd_to hR18 e23.symm
                refine lv_iadd hx hb dX11_off_56 ?_
                refine lv_topi (fun x24 e24 => ?_)
                replace hR18 := bd_to hR18 e24.symm
                refine lv_istore (lv' := [(4, .int x24), (5, .int (nI i18_5)), (0, .ref (g.2.1 20)), (1, .int (nI n7)), (2, .ref (g.2.1 51)), (3, .int (nI n15))]) hx hb dX11_off_57 hl (by decide) rfl (fun ls hl => ?_)
                replace hR18 := bd_to hR18 (nI_add i18_5 1)
                refine lv_iinc (v := (nI (i18_5 + 1))) (lv' := [(5, .int (nI (i18_5 + 1))), (4, .int x24), (0, .ref (g.2.1 20)), (1, .int (nI n7)), (2, .ref (g.2.1 51)), (3, .int (nI n15))]) hx hb dX11_off_59 hl (k := 1) rfl (nI_add i18_5 1) (by decide) rfl (fun ls hl => ?_)
                refine lv_goto (tgt := 32) hx hb dX11_off_62 (by decide) ?_
                exact ih18 (i18_5 + 1) x24 (by omega) hR18 (by omega) _ _ _ h (lv_sub hl [0, 1, 2, 3, 4, 5] rfl)
          exact loop32_18 4096 0 0 (Nat.zero_le _) hR (by omega) _ _ _ h (lv_sub hl [0, 1, 2, 3, 4, 5] rfl)
        · skip
          replace hR := it_f hR c13
          refine lv_iconst (v := 0) hx hb dX11_off_24 (by decide) ?_
          subst hPQ
          exact x_iret E h ⟨hR0.trans hR.symm, rfl⟩ dX11_off_25
set_option maxHeartbeats 4000000 in
set_option maxRecDepth 100000 in
theorem aX4_offOfTwo_0 (l : Launch) (g : CX) (σ : ST) (hI : INV σ) (p2 : Int32) (p3 : Int32) (p4 : Int32) : XM l g yX4_offOfTwo wsX4_offOfTwo { frames := 1, cells := 0, slots := 0, locals := 22 } [.ref (g.2.1 48), .ref (g.2.1 16), .int p2, .int p3, .int p4] σ (XQi g (fun r σ' => fX4_offOfTwo_0 p2 p3 p4 σ = r ∧ σ = σ')) := by
  refine x_met (own := RX4) (cc := cX4_offOfTwo) (maxL := 8) (ret := (some .int)) (lv := [(0, .ref (g.2.1 48)), (1, .ref (g.2.1 16)), (2, .int p2), (3, .int p3), (4, .int p4)]) (by decide) rfl rfl (Nat.le_of_ble_eq_true rfl) rfl ?_
  intro p e s m args below meth c ls E h hl
  have hx := E.1
  have hb := E.2.1
  have hown := E.2.2.2.1
  have hts := E.2.2.2.2.1
  obtain ⟨R, hR0⟩ : ∃ R, fX4_offOfTwo_0 p2 p3 p4 σ = R := ⟨_, rfl⟩
  have hR : fX4_offOfTwo_0b0 p2 p3 p4 σ = R := hR0
  generalize hPQ : XQi g (fun r σ' => fX4_offOfTwo_0 p2 p3 p4 σ = r ∧ σ = σ') = PQz
  refine lv_iconst (v := 0) hx hb dX4_offOfTwo_0 (by decide) ?_
  refine lv_istore (lv' := [(5, .int 0), (0, .ref (g.2.1 48)), (1, .ref (g.2.1 16)), (2, .int p2), (3, .int p3), (4, .int p4)]) hx hb dX4_offOfTwo_1 hl (by decide) rfl (fun ls hl => ?_)
  refine lv_iconst (v := 0) hx hb dX4_offOfTwo_3 (by decide) ?_
  refine lv_istore (lv' := [(6, .int 0), (5, .int 0), (0, .ref (g.2.1 48)), (1, .ref (g.2.1 16)), (2, .int p2), (3, .int p3), (4, .int p4)]) hx hb dX4_offOfTwo_4 hl (by decide) rfl (fun ls hl => ?_)
  have loop6_1 : ∀ (fu : Nat) (i1_6 : Nat) (i1_5 : Int32), i1_6 ≤ 4 → fX4_offOfTwo_0l6 fu p2 p3 p4 i1_5 (nI i1_6) σ = R → 4 - i1_6 < fu → ∀ (H : Heap) (locs : List Loc) (ls : Array Slot), HW g σ s H locs → lv_has ls 8 [(6, .int (nI i1_6)), (5, .int i1_5), (0, .ref (g.2.1 48)), (1, .ref (g.2.1 16)), (2, .int p2), (3, .int p3), (4, .int p4)] → W p l e { frames := 1, cells := 0, slots := 0, locals := 22 } s m args below meth c H locs 0 0 (MQ below PQz args s 0 0 (Aw g)) (F0 m 6 ls []) := by
    intro fu1
    induction fu1 with
    | zero => intro i1_6 i1_5 bi1_6 hR1 hm; exact absurd hm (Nat.not_lt_zero _)
    | succ fu1 ih =>
      have ih1 := ih
      clear ih
      intro i1_6 i1_5 bi1_6 hR1 hm1 H locs ls h hl
      replace hR1 : fX4_offOfTwo_0b6 (fX4_offOfTwo_0l6 fu1) p2 p3 p4 i1_5 (nI i1_6) σ = R := hR1
      refine lv_iload hx hb dX4_offOfTwo_6 (lv_at hl 0 rfl) ?_
      refine lv_iconst (v := 4) hx hb dX4_offOfTwo_8 (by decide) ?_
      refine lv_icmp_ge (tgt := 59) hx hb dX4_offOfTwo_9 (by decide) (fun c2 => ?_) (fun c2 => ?_)
      · skip
        replace hR1 := it_t hR1 c2
        have b3 : 4 ≤ i1_6 := y_le (a := 4) (b := i1_6) (by omega) (by omega) c2
        refine lv_iload hx hb dX4_offOfTwo_59 (lv_at hl 1 rfl) ?_
        subst hPQ
        exact x_iret E h ⟨hR0.trans hR1.symm, rfl⟩ dX4_offOfTwo_61
      · skip
        replace hR1 := it_f hR1 c2
        have b4 : i1_6 < 4 := y_nle (a := 4) (b := i1_6) (by omega) (by omega) c2
        refine lv_bipush (v := 99) hx hb dX4_offOfTwo_12 (by decide) ?_
        refine lv_aload_n hx hb dX4_offOfTwo_14 rfl (lv_at hl 2 rfl) ?_
        refine lv_iload_n hx hb dX4_offOfTwo_15 rfl (lv_at hl 5 rfl) ?_
        refine lv_iload hx hb dX4_offOfTwo_16 (lv_at hl 0 rfl) ?_
        refine x_vi E h (na := 2) (As := [.int p3, .int (nI i1_6)]) (aX4_middleOf_0 l g σ hI p3 (nI i1_6)) (oc_be g) rfl gX4_offOfTwo_X4_middleOf rfl ⟨rfl, rfl⟩ rfl (by decide +kernel) ⟨Nat.le_of_ble_eq_true rfl, Nat.le_of_ble_eq_true rfl⟩ hl.1 rfl (Nat.le_of_ble_eq_true rfl) dX4_offOfTwo_18 ⟨Nat.le_of_ble_eq_true rfl, Nat.le_of_ble_eq_true rfl⟩ (fun r5 s5 H locs q5 h => ?_)
        obtain ⟨x5, rfl⟩ := q5
        replace hR1 := bd_to hR1 x5
        refine lv_aload_n hx hb dX4_offOfTwo_21 rfl (lv_at hl 2 rfl) ?_
        refine lv_iload hx hb dX4_offOfTwo_22 (lv_at hl 6 rfl) ?_
        refine lv_iload hx hb dX4_offOfTwo_24 (lv_at hl 0 rfl) ?_
        refine x_vi E h (na := 2) (As := [.int p4, .int (nI i1_6)]) (aX4_middleOf_0 l g σ hI p4 (nI i1_6)) (oc_be g) rfl gX4_offOfTwo_X4_middleOf rfl ⟨rfl, rfl⟩ rfl (by decide +kernel) ⟨Nat.le_of_ble_eq_true rfl, Nat.le_of_ble_eq_true rfl⟩ hl.1 rfl (Nat.le_of_ble_eq_true rfl) dX4_offOfTwo_26 ⟨Nat.le_of_ble_eq_true rfl, Nat.le_of_ble_eq_true rfl⟩ (fun r6 s6 H locs q6 h => ?_)
        obtain ⟨x6, rfl⟩ := q6
        replace hR1 := bd_to hR1 x6
        refine lv_iadd hx hb dX4_offOfTwo_29 ?_
        refine lv_topi (fun x7 e7 => ?_)
        replace hR1 := bd_to hR1 e7.symm
        refine x_min E hl.1 (by decide +kernel) (by decide +kernel) (by decide +kernel) (by decide +kernel) ⟨Nat.le_of_ble_eq_true rfl, Nat.le_of_ble_eq_true rfl⟩ ⟨Nat.zero_le _, Nat.zero_le _⟩ dX4_offOfTwo_30 ?_
        refine lv_topi (fun x8 e8 => ?_)
        replace hR1 := bd_to hR1 e8.symm
        refine lv_istore (lv' := [(7, .int x8), (6, .int (nI i1_6)), (5, .int i1_5), (0, .ref (g.2.1 48)), (1, .ref (g.2.1 16)), (2, .int p2), (3, .int p3), (4, .int p4)]) hx hb dX4_offOfTwo_33 hl (by decide) rfl (fun ls hl => ?_)
        refine lv_iload hx hb dX4_offOfTwo_35 (lv_at hl 2 rfl) ?_
        refine lv_iload hx hb dX4_offOfTwo_37 (lv_at hl 0 rfl) ?_
        refine lv_aload_n hx hb dX4_offOfTwo_39 rfl (lv_at hl 4 rfl) ?_
        refine lv_iload_n hx hb dX4_offOfTwo_40 rfl (lv_at hl 5 rfl) ?_
        refine lv_iload hx hb dX4_offOfTwo_41 (lv_at hl 1 rfl) ?_
        refine x_vi E h (na := 2) (As := [.int p2, .int (nI i1_6)]) (aX2_middleOf_0 l g σ hI p2 (nI i1_6)) (oc_cu g) rfl gX4_offOfTwo_X2_middleOf rfl ⟨rfl, rfl⟩ rfl (by decide +kernel) ⟨Nat.le_of_ble_eq_true rfl, Nat.le_of_ble_eq_true rfl⟩ hl.1 rfl (Nat.le_of_ble_eq_true rfl) dX4_offOfTwo_43 ⟨Nat.le_of_ble_eq_true rfl, Nat.le_of_ble_eq_true rfl⟩ (fun r9 s9 H locs q9 h => ?_)
        obtain ⟨x9, rfl⟩ := q9
        replace hR1 := bd_to hR1 x9
        refine lv_isub hx hb dX4_offOfTwo_46 ?_
        refine lv_topi (fun x10 e10 => ?_)
        replace hR1 := bd_to hR1 e10.symm
        refine x_abs E hl.1 (by decide +kernel) (by decide +kernel) (by decide +kernel) (by decide +kernel) ⟨Nat.le_of_ble_eq_true rfl, Nat.le_of_ble_eq_true rfl⟩ ⟨Nat.zero_le _, Nat.zero_le _⟩ dX4_offOfTwo_47 ?_
        refine lv_topi (fun x11 e11 => ?_)
        replace hR1 := bd_to hR1 e11.symm
        refine lv_iadd hx hb dX4_offOfTwo_50 ?_
        refine lv_topi (fun x12 e12 => ?_)
        replace hR1 := bd_to hR1 e12.symm
        refine lv_istore (lv' := [(5, .int x12), (7, .int x8), (6, .int (nI i1_6)), (0, .ref (g.2.1 48)), (1, .ref (g.2.1 16)), (2, .int p2), (3, .int p3), (4, .int p4)]) hx hb dX4_offOfTwo_51 hl (by decide) rfl (fun ls hl => ?_)
        replace hR1 := bd_to hR1 (nI_add i1_6 1)
        refine lv_iinc (v := (nI (i1_6 + 1))) (lv' := [(6, .int (nI (i1_6 + 1))), (5, .int x12), (7, .int x8), (0, .ref (g.2.1 48)), (1, .ref (g.2.1 16)), (2, .int p2), (3, .int p3), (4, .int p4)]) hx hb dX4_offOfTwo_53 hl (k := 2) rfl (nI_add i1_6 1) (by decide) rfl (fun ls hl => ?_)
        refine lv_goto (tgt := 6) hx hb dX4_offOfTwo_56 (by decide) ?_
        exact ih1 (i1_6 + 1) x12 (by omega) hR1 (by omega) _ _ _ h (lv_sub hl [0, 1, 3, 4, 5, 6, 7] rfl)
  exact loop6_1 4096 0 0 (Nat.zero_le _) hR (by omega) _ _ _ h (lv_sub hl [0, 1, 2, 3, 4, 5, 6] rfl)
set_option maxHeartbeats 4000000 in
set_option maxRecDepth 100000 in
theorem aX4_twoInOne_0 (l : Launch) (g : CX) (σ : ST) (hI : INV σ) (p2 : Int32) (p3 : Int32) : XM l g yX4_twoInOne wsX4_twoInOne { frames := 2, cells := 0, slots := 0, locals := 49 } [.ref (g.2.1 48), .ref (g.2.1 16), .int p2, .int p3] σ (XQi g (fun r σ' => fX4_twoInOne_0 p2 p3 σ = r ∧ σ = σ')) := by
  refine x_met (own := RX4) (cc := cX4_twoInOne) (maxL := 10) (ret := (some .int)) (lv := [(0, .ref (g.2.1 48)), (1, .ref (g.2.1 16)), (2, .int p2), (3, .int p3)]) (by decide) rfl rfl (Nat.le_of_ble_eq_true rfl) rfl ?_
  intro p e s m args below meth c ls E h hl
  have hx := E.1
  have hb := E.2.1
  have hown := E.2.2.2.1
  have hts := E.2.2.2.2.1
  obtain ⟨R, hR0⟩ : ∃ R, fX4_twoInOne_0 p2 p3 σ = R := ⟨_, rfl⟩
  have hR : fX4_twoInOne_0b0 p2 p3 σ = R := hR0
  have hwX2 : ∀ w ∈ wsX20, w ∈ wsX4_twoInOne := by decide +kernel
  have hwX4 : ∀ w ∈ wsX40, w ∈ wsX4_twoInOne := by decide +kernel
  generalize hPQ : XQi g (fun r σ' => fX4_twoInOne_0 p2 p3 σ = r ∧ σ = σ') = PQz
  refine lv_iload_n hx hb dX4_twoInOne_0 rfl (lv_at hl 2 rfl) ?_
  refine lv_if_lt (tgt := 10) hx hb dX4_twoInOne_1 (by decide) (fun c1 => ?_) (fun c1 => ?_)
  · skip
    replace hR := it_t hR c1
    refine lv_bipush (v := (-9)) hx hb dX4_twoInOne_10 (by decide) ?_
    subst hPQ
    exact x_iret E h ⟨hR0.trans hR.symm, rfl⟩ dX4_twoInOne_12
  · skip
    replace hR := it_f hR c1
    refine lv_iload_n hx hb dX4_twoInOne_4 rfl (lv_at hl 2 rfl) ?_
    refine lv_bipush (v := 9) hx hb dX4_twoInOne_5 (by decide) ?_
    refine lv_icmp_lt (tgt := 13) hx hb dX4_twoInOne_7 (by decide) (fun c4 => ?_) (fun c4 => ?_)
    · skip
      replace hR := it_t hR c4
      obtain ⟨n6, b6, rfl⟩ := y_rlt (N := 9) (y_lo1 c1 (by decide)) c4 (by omega)
      have b7 : 0 ≤ n6 := y_nlt (a := n6) (b := 0) (by omega) (by omega) c1
      have b8 : n6 < 9 := y_lt (a := n6) (b := 9) (by omega) (by omega) c4
      refine lv_aload_n hx hb dX4_twoInOne_13 rfl (lv_at hl 0 rfl) ?_
      refine x_getR E h (fr_be_heapOf g) rfl hwX4 (by decide) (by decide +kernel) dX4_twoInOne_14 ?_
      refine lv_iload_n hx hb dX4_twoInOne_17 rfl (lv_at hl 2 rfl) ?_
      obtain ⟨n9, b9, e9⟩ := hI.2 41 8 rfl n6
      refine x_ldI E h (ia_be_heapOf g) (i := nI n6) (vp_in_nI (by omega) (by decide)) (v := nI n9) ((congrArg (σ.2.2 41) (nI_clamp (n := n6) (by omega))).trans e9) dX4_twoInOne_18 ?_
      replace hR := bd_to hR ((congrArg (σ.2.2 41) (nI_clamp (n := n6) (by omega))).trans e9)
      refine lv_istore (lv' := [(4, .int (nI n9)), (0, .ref (g.2.1 48)), (1, .ref (g.2.1 16)), (2, .int (nI n6)), (3, .int p3)]) hx hb dX4_twoInOne_19 hl (by decide) rfl (fun ls hl => ?_)
      refine lv_bipush (v := (-9)) hx hb dX4_twoInOne_21 (by decide) ?_
      refine lv_istore (lv' := [(5, .int (-9)), (4, .int (nI n9)), (0, .ref (g.2.1 48)), (1, .ref (g.2.1 16)), (2, .int (nI n6)), (3, .int p3)]) hx hb dX4_twoInOne_23 hl (by decide) rfl (fun ls hl => ?_)
      refine lv_ldc (v := 1000000000) hx hb hown (hts (.constant RX4 53 (1000000000)) (by decide +kernel)) dX4_twoInOne_25 ?_
      refine lv_istore (lv' := [(6, .int 1000000000), (5, .int (-9)), (4, .int (nI n9)), (0, .ref (g.2.1 48)), (1, .ref (g.2.1 16)), (2, .int (nI n6)), (3, .int p3)]) hx hb dX4_twoInOne_27 hl (by decide) rfl (fun ls hl => ?_)
      refine lv_iconst (v := 0) hx hb dX4_twoInOne_29 (by decide) ?_
      refine lv_istore (lv' := [(7, .int 0), (6, .int 1000000000), (5, .int (-9)), (4, .int (nI n9)), (0, .ref (g.2.1 48)), (1, .ref (g.2.1 16)), (2, .int (nI n6)), (3, .int p3)]) hx hb dX4_twoInOne_30 hl (by decide) rfl (fun ls hl => ?_)
      obtain ⟨n11, b11, e11⟩ := hI.1 10 9 rfl
      have loop32_10 : ∀ (fu : Nat) (i10_7 : Nat) (i10_6 : Int32) (i10_5 : Int32), i10_7 ≤ n11 → fX4_twoInOne_0l32 fu (nI n6) p3 (nI n9) i10_5 i10_6 (nI i10_7) σ = R → n11 - i10_7 < fu → ∀ (H : Heap) (locs : List Loc) (ls : Array Slot), HW g σ s H locs → lv_has ls 10 [(7, .int (nI i10_7)), (6, .int i10_6), (5, .int i10_5), (4, .int (nI n9)), (0, .ref (g.2.1 48)), (1, .ref (g.2.1 16)), (2, .int (nI n6)), (3, .int p3)] → W p l e { frames := 2, cells := 0, slots := 0, locals := 49 } s m args below meth c H locs 0 0 (MQ below PQz args s 0 0 (Aw g)) (F0 m 32 ls []) := by
        intro fu10
        induction fu10 with
        | zero => intro i10_7 i10_6 i10_5 bi10_7 hR10 hm; exact absurd hm (Nat.not_lt_zero _)
        | succ fu10 ih =>
          have ih10 := ih
          clear ih
          intro i10_7 i10_6 i10_5 bi10_7 hR10 hm10 H locs ls h hl
          replace hR10 : fX4_twoInOne_0b32 (fX4_twoInOne_0l32 fu10) (nI n6) p3 (nI n9) i10_5 i10_6 (nI i10_7) σ = R := hR10
          refine lv_iload hx hb dX4_twoInOne_32 (lv_at hl 0 rfl) ?_
          refine lv_aload_n hx hb dX4_twoInOne_34 rfl (lv_at hl 4 rfl) ?_
          refine x_getI E h (fi_be_heaps g) rfl hwX4 (by decide) (by decide +kernel) (v := nI n11) e11 dX4_twoInOne_35 ?_
          replace hR10 := bd_to hR10 e11
          refine lv_icmp_ge (tgt := 120) hx hb dX4_twoInOne_38 (by decide) (fun c12 => ?_) (fun c12 => ?_)
          · skip
            replace hR10 := it_t hR10 c12
            have b13 : n11 ≤ i10_7 := y_le (a := n11) (b := i10_7) (by omega) (by omega) c12
            refine lv_aload_n hx hb dX4_twoInOne_120 rfl (lv_at hl 5 rfl) ?_
            refine x_getRN E h (fr_cu_middles g) rfl hwX2 (by decide) (by decide +kernel) dX4_twoInOne_121 ?_
            refine lv_iload_n hx hb dX4_twoInOne_124 rfl (lv_at hl 6 rfl) ?_
            refine lv_iconst (v := 4) hx hb dX4_twoInOne_125 (by decide) ?_
            refine lv_imul hx hb dX4_twoInOne_126 ?_
            refine x_topI (v2 := nI (n6 * 4)) (pk_mul n6 4) ?_
            replace hR10 := bd_to hR10 (pk_mul n6 4)
            refine lv_aload_n hx hb dX4_twoInOne_127 rfl (lv_at hl 4 rfl) ?_
            refine x_getR E h (fr_be_middles g) rfl hwX4 (by decide) (by decide +kernel) dX4_twoInOne_128 ?_
            refine lv_iload hx hb dX4_twoInOne_131 (lv_at hl 3 rfl) ?_
            refine lv_iconst (v := 4) hx hb dX4_twoInOne_133 (by decide) ?_
            refine lv_imul hx hb dX4_twoInOne_134 ?_
            refine x_topI (v2 := nI (n9 * 4)) (pk_mul n9 4) ?_
            replace hR10 := bd_to hR10 (pk_mul n9 4)
            refine x_siN (host := "VoiceHeaps") E h (na := 4) (As := [.ref (g.2.1 20), .int (nI (n6 * 4)), .ref (g.2.1 51), .int (nI (n9 * 4))]) (aX11_off_1 l g σ hI (nI (n6 * 4)) (nI (n9 * 4))) gX4_twoInOne_X11_off_n59 (by decide +kernel) (by decide +kernel) (by decide +kernel) rfl ⟨rfl, rfl⟩ rfl (by decide +kernel) ⟨Nat.le_of_ble_eq_true rfl, Nat.le_of_ble_eq_true rfl⟩ hl.1 rfl (Nat.le_of_ble_eq_true rfl) dX4_twoInOne_135 ⟨Nat.le_of_ble_eq_true rfl, Nat.le_of_ble_eq_true rfl⟩ (fun r14 s14 H locs q14 h => ?_)
            obtain ⟨x14, rfl⟩ := q14
            replace hR10 := bd_to hR10 x14
            refine lv_istore (lv' := [(7, .int r14), (6, .int i10_6), (5, .int i10_5), (4, .int (nI n9)), (0, .ref (g.2.1 48)), (1, .ref (g.2.1 16)), (2, .int (nI n6)), (3, .int p3)]) hx hb dX4_twoInOne_138 hl (by decide) rfl (fun ls hl => ?_)
            refine lv_iload hx hb dX4_twoInOne_140 (lv_at hl 2 rfl) ?_
            refine lv_bipush (v := (-9)) hx hb dX4_twoInOne_142 (by decide) ?_
            refine lv_icmp_eq (tgt := 161) hx hb dX4_twoInOne_144 (by decide) (fun c15 => ?_) (fun c15 => ?_)
            · skip
              replace hR10 := it_t hR10 c15
              subst c15
              refine lv_bipush (v := (-9)) hx hb dX4_twoInOne_161 (by decide) ?_
              replace hR10 : fX4_twoInOne_0b163 (-9) σ = R := hR10
              subst hPQ
              exact x_iret E h ⟨hR0.trans hR10.symm, rfl⟩ dX4_twoInOne_163
            · skip
              replace hR10 := it_f hR10 c15
              refine lv_iload hx hb dX4_twoInOne_147 (lv_at hl 0 rfl) ?_
              refine lv_iload hx hb dX4_twoInOne_149 (lv_at hl 1 rfl) ?_
              refine lv_isub hx hb dX4_twoInOne_151 ?_
              refine lv_topi (fun x18 e18 => ?_)
              replace hR10 := bd_to hR10 e18.symm
              refine lv_iload_n hx hb dX4_twoInOne_152 rfl (lv_at hl 7 rfl) ?_
              refine lv_icmp_lt (tgt := 161) hx hb dX4_twoInOne_153 (by decide) (fun c19 => ?_) (fun c19 => ?_)
              · skip
                replace hR10 := it_t hR10 c19
                refine lv_bipush (v := (-9)) hx hb dX4_twoInOne_161 (by decide) ?_
                replace hR10 : fX4_twoInOne_0b163 (-9) σ = R := hR10
                subst hPQ
                exact x_iret E h ⟨hR0.trans hR10.symm, rfl⟩ dX4_twoInOne_163
              · skip
                replace hR10 := it_f hR10 c19
                refine lv_iload hx hb dX4_twoInOne_156 (lv_at hl 2 rfl) ?_
                refine lv_goto (tgt := 163) hx hb dX4_twoInOne_158 (by decide) ?_
                replace hR10 : fX4_twoInOne_0b163 i10_5 σ = R := hR10
                subst hPQ
                exact x_iret E h ⟨hR0.trans hR10.symm, rfl⟩ dX4_twoInOne_163
          · skip
            replace hR10 := it_f hR10 c12
            have b22 : i10_7 < n11 := y_nle (a := n11) (b := i10_7) (by omega) (by omega) c12
            refine lv_iload hx hb dX4_twoInOne_41 (lv_at hl 0 rfl) ?_
            refine lv_iconst (v := 1) hx hb dX4_twoInOne_43 (by decide) ?_
            refine lv_iadd hx hb dX4_twoInOne_44 ?_
            refine x_topI (v2 := nI (i10_7 + 1)) (nI_add i10_7 1) ?_
            replace hR10 := bd_to hR10 (nI_add i10_7 1)
            refine lv_istore (lv' := [(8, .int (nI (i10_7 + 1))), (7, .int (nI i10_7)), (6, .int i10_6), (5, .int i10_5), (4, .int (nI n9)), (0, .ref (g.2.1 48)), (1, .ref (g.2.1 16)), (2, .int (nI n6)), (3, .int p3)]) hx hb dX4_twoInOne_45 hl (by decide) rfl (fun ls hl => ?_)
            have loop47_23 : ∀ (fu : Nat) (i23_8 : Nat) (i23_6 : Int32) (i23_5 : Int32), i23_8 ≤ n11 → fX4_twoInOne_0l47 (fX4_twoInOne_0l32 fu10) fu (nI n6) p3 (nI n9) i23_5 i23_6 (nI i10_7) (nI i23_8) σ = R → n11 - i23_8 < fu → ∀ (H : Heap) (locs : List Loc) (ls : Array Slot), HW g σ s H locs → lv_has ls 10 [(8, .int (nI i23_8)), (7, .int (nI i10_7)), (6, .int i23_6), (5, .int i23_5), (4, .int (nI n9)), (0, .ref (g.2.1 48)), (1, .ref (g.2.1 16)), (2, .int (nI n6)), (3, .int p3)] → W p l e { frames := 2, cells := 0, slots := 0, locals := 49 } s m args below meth c H locs 0 0 (MQ below PQz args s 0 0 (Aw g)) (F0 m 47 ls []) := by
              intro fu23
              induction fu23 with
              | zero => intro i23_8 i23_6 i23_5 bi23_8 hR23 hm; exact absurd hm (Nat.not_lt_zero _)
              | succ fu23 ih =>
                have ih23 := ih
                clear ih
                intro i23_8 i23_6 i23_5 bi23_8 hR23 hm23 H locs ls h hl
                replace hR23 : fX4_twoInOne_0b47 (fX4_twoInOne_0l32 fu10) (fX4_twoInOne_0l47 (fX4_twoInOne_0l32 fu10) fu23) (nI n6) p3 (nI n9) i23_5 i23_6 (nI i10_7) (nI i23_8) σ = R := hR23
                refine lv_iload hx hb dX4_twoInOne_47 (lv_at hl 0 rfl) ?_
                refine lv_aload_n hx hb dX4_twoInOne_49 rfl (lv_at hl 5 rfl) ?_
                refine x_getI E h (fi_be_heaps g) rfl hwX4 (by decide) (by decide +kernel) (v := nI n11) e11 dX4_twoInOne_50 ?_
                replace hR23 := bd_to hR23 e11
                refine lv_icmp_ge (tgt := 114) hx hb dX4_twoInOne_53 (by decide) (fun c24 => ?_) (fun c24 => ?_)
                · skip
                  replace hR23 := it_t hR23 c24
                  have b25 : n11 ≤ i23_8 := y_le (a := n11) (b := i23_8) (by omega) (by omega) c24
                  replace hR23 := bd_to hR23 (nI_add i10_7 1)
                  refine lv_iinc (v := (nI (i10_7 + 1))) (lv' := [(7, .int (nI (i10_7 + 1))), (8, .int (nI i23_8)), (6, .int i23_6), (5, .int i23_5), (4, .int (nI n9)), (0, .ref (g.2.1 48)), (1, .ref (g.2.1 16)), (2, .int (nI n6)), (3, .int p3)]) hx hb dX4_twoInOne_114 hl (k := 1) rfl (nI_add i10_7 1) (by decide) rfl (fun ls hl => ?_)
                  refine lv_goto (tgt := 32) hx hb dX4_twoInOne_117 (by decide) ?_
                  exact ih10 (i10_7 + 1) i23_6 i23_5 (by omega) hR23 (by omega) _ _ _ h (lv_sub hl [0, 2, 3, 4, 5, 6, 7, 8] rfl)
                · skip
                  replace hR23 := it_f hR23 c24
                  have b26 : i23_8 < n11 := y_nle (a := n11) (b := i23_8) (by omega) (by omega) c24
                  refine lv_iload hx hb dX4_twoInOne_56 (lv_at hl 1 rfl) ?_
                  refine lv_iload hx hb dX4_twoInOne_58 (lv_at hl 4 rfl) ?_
                  have j85_29 : ∀ (y29_s0 : Int32), fX4_twoInOne_0b85 (fX4_twoInOne_0l32 fu10) (fX4_twoInOne_0l47 (fX4_twoInOne_0l32 fu10) fu23) (nI n6) p3 (nI n9) i23_5 i23_6 (nI i10_7) (nI i23_8) y29_s0 σ = R → ∀ (H : Heap) (locs : List Loc) (ls : Array Slot), HW g σ s H locs → lv_has ls 10 [(8, .int (nI i23_8)), (7, .int (nI i10_7)), (6, .int i23_6), (5, .int i23_5), (4, .int (nI n9)), (0, .ref (g.2.1 48)), (1, .ref (g.2.1 16)), (2, .int (nI n6)), (3, .int p3)] → W p l e { frames := 2, cells := 0, slots := 0, locals := 49 } s m args below meth c H locs 0 0 (MQ below PQz args s 0 0 (Aw g)) (F0 m 85 ls [.int y29_s0]) := by
                    intro y29_s0 hR29 H locs ls h hl
                    refine lv_istore (lv' := [(9, .int y29_s0), (8, .int (nI i23_8)), (7, .int (nI i10_7)), (6, .int i23_6), (5, .int i23_5), (4, .int (nI n9)), (0, .ref (g.2.1 48)), (1, .ref (g.2.1 16)), (2, .int (nI n6)), (3, .int p3)]) hx hb dX4_twoInOne_85 hl (by decide) rfl (fun ls hl => ?_)
                    refine lv_iload hx hb dX4_twoInOne_87 (lv_at hl 0 rfl) ?_
                    refine lv_iload hx hb dX4_twoInOne_89 (lv_at hl 3 rfl) ?_
                    have j108_32 : ∀ (y32_l6 : Int32) (y32_l5 : Int32), fX4_twoInOne_0b108 (fX4_twoInOne_0l32 fu10) (fX4_twoInOne_0l47 (fX4_twoInOne_0l32 fu10) fu23) (nI n6) p3 (nI n9) y32_l5 y32_l6 (nI i10_7) (nI i23_8) σ = R → ∀ (H : Heap) (locs : List Loc) (ls : Array Slot), HW g σ s H locs → lv_has ls 10 [(9, .int y29_s0), (8, .int (nI i23_8)), (7, .int (nI i10_7)), (6, .int y32_l6), (5, .int y32_l5), (4, .int (nI n9)), (0, .ref (g.2.1 48)), (1, .ref (g.2.1 16)), (2, .int (nI n6)), (3, .int p3)] → W p l e { frames := 2, cells := 0, slots := 0, locals := 49 } s m args below meth c H locs 0 0 (MQ below PQz args s 0 0 (Aw g)) (F0 m 108 ls []) := by
                      intro y32_l6 y32_l5 hR32 H locs ls h hl
                      replace hR32 := bd_to hR32 (nI_add i23_8 1)
                      refine lv_iinc (v := (nI (i23_8 + 1))) (lv' := [(8, .int (nI (i23_8 + 1))), (9, .int y29_s0), (7, .int (nI i10_7)), (6, .int y32_l6), (5, .int y32_l5), (4, .int (nI n9)), (0, .ref (g.2.1 48)), (1, .ref (g.2.1 16)), (2, .int (nI n6)), (3, .int p3)]) hx hb dX4_twoInOne_108 hl (k := 1) rfl (nI_add i23_8 1) (by decide) rfl (fun ls hl => ?_)
                      refine lv_goto (tgt := 47) hx hb dX4_twoInOne_111 (by decide) ?_
                      exact ih23 (i23_8 + 1) y32_l6 y32_l5 (by omega) hR32 (by omega) _ _ _ h (lv_sub hl [0, 2, 3, 4, 5, 6, 7, 8, 9] rfl)
                    refine lv_icmp_ge (tgt := 108) hx hb dX4_twoInOne_91 (by decide) (fun c30 => ?_) (fun c30 => ?_)
                    · skip
                      replace hR29 := it_t hR29 c30
                      exact j108_32 i23_6 i23_5 hR29 _ _ _ h (lv_sub hl [0, 1, 2, 3, 4, 5, 6, 7, 8, 9] rfl)
                    · skip
                      replace hR29 := it_f hR29 c30
                      refine lv_iload hx hb dX4_twoInOne_94 (lv_at hl 0 rfl) ?_
                      refine lv_istore (lv' := [(6, .int y29_s0), (9, .int y29_s0), (8, .int (nI i23_8)), (7, .int (nI i10_7)), (5, .int i23_5), (4, .int (nI n9)), (0, .ref (g.2.1 48)), (1, .ref (g.2.1 16)), (2, .int (nI n6)), (3, .int p3)]) hx hb dX4_twoInOne_96 hl (by decide) rfl (fun ls hl => ?_)
                      refine lv_iload hx hb dX4_twoInOne_98 (lv_at hl 3 rfl) ?_
                      refine lv_bipush (v := 9) hx hb dX4_twoInOne_100 (by decide) ?_
                      refine lv_imul hx hb dX4_twoInOne_102 ?_
                      refine x_topI (v2 := nI (i10_7 * 9)) (pk_mul i10_7 9) ?_
                      replace hR29 := bd_to hR29 (pk_mul i10_7 9)
                      refine lv_iload hx hb dX4_twoInOne_103 (lv_at hl 2 rfl) ?_
                      refine lv_iadd hx hb dX4_twoInOne_105 ?_
                      refine x_topI (v2 := nI ((i10_7 * 9) + i23_8)) (nI_add (i10_7 * 9) i23_8) ?_
                      replace hR29 := bd_to hR29 (nI_add (i10_7 * 9) i23_8)
                      refine lv_istore (lv' := [(5, .int (nI ((i10_7 * 9) + i23_8))), (6, .int y29_s0), (9, .int y29_s0), (8, .int (nI i23_8)), (7, .int (nI i10_7)), (4, .int (nI n9)), (0, .ref (g.2.1 48)), (1, .ref (g.2.1 16)), (2, .int (nI n6)), (3, .int p3)]) hx hb dX4_twoInOne_106 hl (by decide) rfl (fun ls hl => ?_)
                      exact j108_32 y29_s0 (nI ((i10_7 * 9) + i23_8)) hR29 _ _ _ h (lv_sub hl [2, 3, 4, 1, 0, 5, 6, 7, 8, 9] rfl)
                  refine lv_icmp_eq (tgt := 70) hx hb dX4_twoInOne_60 (by decide) (fun c27 => ?_) (fun c27 => ?_)
                  · skip
                    replace hR23 := it_t hR23 c27
                    have b28 : i10_7 = n9 := y_eq (a := i10_7) (b := n9) (by omega) (by omega) c27
                    refine lv_ldc (v := 1000000000) hx hb hown (hts (.constant RX4 53 (1000000000)) (by decide +kernel)) dX4_twoInOne_70 ?_
                    refine lv_goto (tgt := 85) hx hb dX4_twoInOne_72 (by decide) ?_
                    exact j85_29 1000000000 hR23 _ _ _ h (lv_sub hl [0, 1, 2, 3, 4, 5, 6, 7, 8] rfl)
                  · skip
                    replace hR23 := it_f hR23 c27
                    have b34 : ¬ i10_7 = n9 := y_ne (a := i10_7) (b := n9) (by omega) (by omega) c27
                    refine lv_iload hx hb dX4_twoInOne_63 (lv_at hl 0 rfl) ?_
                    refine lv_iload hx hb dX4_twoInOne_65 (lv_at hl 4 rfl) ?_
                    refine lv_icmp_ne (tgt := 75) hx hb dX4_twoInOne_67 (by decide) (fun c35 => ?_) (fun c35 => ?_)
                    · skip
                      replace hR23 := it_f hR23 c35
                      have b36 : ¬ i23_8 = n9 := y_ne (a := i23_8) (b := n9) (by omega) (by omega) c35
                      refine lv_aload_n hx hb dX4_twoInOne_75 rfl (lv_at hl 5 rfl) ?_
                      refine lv_aload_n hx hb dX4_twoInOne_76 rfl (lv_at hl 6 rfl) ?_
                      refine lv_iload_n hx hb dX4_twoInOne_77 rfl (lv_at hl 7 rfl) ?_
                      refine lv_iload hx hb dX4_twoInOne_78 (lv_at hl 1 rfl) ?_
                      refine lv_iload hx hb dX4_twoInOne_80 (lv_at hl 0 rfl) ?_
                      refine x_vi E h (na := 4) (As := [.ref (g.2.1 16), .int (nI n6), .int (nI i10_7), .int (nI i23_8)]) (aX4_offOfTwo_0 l g σ hI (nI n6) (nI i10_7) (nI i23_8)) (oc_be g) rfl gX4_twoInOne_X4_offOfTwo rfl ⟨rfl, rfl⟩ rfl (by decide +kernel) ⟨Nat.le_of_ble_eq_true rfl, Nat.le_of_ble_eq_true rfl⟩ hl.1 rfl (Nat.le_of_ble_eq_true rfl) dX4_twoInOne_82 ⟨Nat.le_of_ble_eq_true rfl, Nat.le_of_ble_eq_true rfl⟩ (fun r37 s37 H locs q37 h => ?_)
                      obtain ⟨x37, rfl⟩ := q37
                      replace hR23 := bd_to hR23 x37
                      exact j85_29 r37 hR23 _ _ _ h (lv_sub hl [0, 1, 2, 3, 4, 5, 6, 7, 8] rfl)
                    · skip
                      replace hR23 := it_t hR23 c35
                      have b38 : i23_8 = n9 := y_eq (a := i23_8) (b := n9) (by omega) (by omega) c35
                      refine lv_ldc (v := 1000000000) hx hb hown (hts (.constant RX4 53 (1000000000)) (by decide +kernel)) dX4_twoInOne_70 ?_
                      refine lv_goto (tgt := 85) hx hb dX4_twoInOne_72 (by decide) ?_
                      exact j85_29 1000000000 hR23 _ _ _ h (lv_sub hl [0, 1, 2, 3, 4, 5, 6, 7, 8] rfl)
            exact loop47_23 4096 (i10_7 + 1) i10_6 i10_5 (by omega) hR10 (by omega) _ _ _ h (lv_sub hl [0, 1, 2, 3, 4, 5, 6, 7, 8] rfl)
      exact loop32_10 4096 0 1000000000 (-9) (Nat.zero_le _) hR (by omega) _ _ _ h (lv_sub hl [0, 1, 2, 3, 4, 5, 6, 7] rfl)
    · skip
      replace hR := it_f hR c4
      refine lv_bipush (v := (-9)) hx hb dX4_twoInOne_10 (by decide) ?_
      subst hPQ
      exact x_iret E h ⟨hR0.trans hR.symm, rfl⟩ dX4_twoInOne_12
set_option maxHeartbeats 4000000 in
set_option maxRecDepth 100000 in
theorem aX11_twice_0 (l : Launch) (g : CX) (σ : ST) (hI : INV σ) (p1 : Int32) (p2 : Int32) : XM l g yX11_twice wsX11_twice { frames := 16, cells := 0, slots := 0, locals := 420 } [.ref (g.2.1 0), .int p1, .int p2] σ (XQi g (fun r σ' => fX11_twice_0 p1 p2 σ = (r, σ') ∧ INV σ' ∧ Fr [(3, 12), (14, 18), (22, 23)] [(8, 19), (21, 29), (31, 41), (43, 47)] σ σ')) := by
  refine x_met (own := RX11) (cc := cX11_twice) (maxL := 4) (ret := (some .int)) (lv := [(0, .ref (g.2.1 0)), (1, .int p1), (2, .int p2)]) (by decide) rfl rfl (Nat.le_of_ble_eq_true rfl) rfl ?_
  intro p e s m args below meth c ls E h hl
  have hx := E.1
  have hb := E.2.1
  have hown := E.2.2.2.1
  have hts := E.2.2.2.2.1
  have hF : Fr [(3, 12), (14, 18), (22, 23)] [(8, 19), (21, 29), (31, 41), (43, 47)] σ σ := Fr.refl σ
  obtain ⟨R, hR0⟩ : ∃ R, fX11_twice_0 p1 p2 σ = R := ⟨_, rfl⟩
  have hR : fX11_twice_0b0 p1 p2 σ = R := hR0
  have hwX0 : ∀ w ∈ wsX00, w ∈ wsX11_twice := by decide +kernel
  have hwX11 : ∀ w ∈ wsX110, w ∈ wsX11_twice := by decide +kernel
  generalize hPQ : XQi g (fun r σ' => fX11_twice_0 p1 p2 σ = (r, σ') ∧ INV σ' ∧ Fr [(3, 12), (14, 18), (22, 23)] [(8, 19), (21, 29), (31, 41), (43, 47)] σ σ') = PQz
  refine lv_aload_n hx hb dX11_twice_0 rfl (lv_at hl 0 rfl) ?_
  refine lv_iload_n hx hb dX11_twice_1 rfl (lv_at hl 1 rfl) ?_
  refine x_vi E h (na := 1) (As := [.int p1]) (aX11_isPiece_0 l g σ hI p1) (oc_vh g) rfl gX11_twice_X11_isPiece rfl ⟨rfl, rfl⟩ rfl (by decide +kernel) ⟨Nat.le_of_ble_eq_true rfl, Nat.le_of_ble_eq_true rfl⟩ hl.1 rfl (Nat.le_of_ble_eq_true rfl) dX11_twice_2 ⟨Nat.le_of_ble_eq_true rfl, Nat.le_of_ble_eq_true rfl⟩ (fun r1 s1 H locs q1 h => ?_)
  obtain ⟨x1, d1, hI1, f1⟩ := q1
  replace hR := bp_to hR x1
  have hF1 := hF.call f1 (I := [(3, 12), (14, 18), (22, 23)]) (J := [(8, 19), (21, 29), (31, 41), (43, 47)]) rfl rfl
  rcases d1 with ⟨rfl, m1_0n, m1_0P, u1_0_0, u1_0_1, u1_0_2, u1_0_3, rfl⟩ | rfl
  · skip
    replace hR := it_f hR (by decide)
    refine lv_if_eq (tgt := 17) hx hb dX11_twice_5 (by decide) (fun c => absurd c (by decide)) (fun _ => ?_)
    refine lv_iload_n hx hb dX11_twice_8 rfl (lv_at hl 2 rfl) ?_
    refine lv_iconst (v := 0) hx hb dX11_twice_9 (by decide) ?_
    refine lv_iconst (v := 1) hx hb dX11_twice_10 (by decide) ?_
    refine x_si E h (na := 3) (As := [.int p2, .int 0, .int 1]) (aX11_within_0 l g s1 hI1 p2 0 1) gX11_twice_X11_within rfl ⟨rfl, rfl⟩ rfl (by decide +kernel) ⟨Nat.le_of_ble_eq_true rfl, Nat.le_of_ble_eq_true rfl⟩ hl.1 rfl (Nat.le_of_ble_eq_true rfl) dX11_twice_11 ⟨Nat.le_of_ble_eq_true rfl, Nat.le_of_ble_eq_true rfl⟩ (fun r2 s2 H locs q2 h => ?_)
    obtain ⟨x2, d2, rfl⟩ := q2
    replace hR := bd_to hR x2
    rcases d2 with ⟨rfl, u2_0_0, u2_0_1⟩ | rfl
    · skip
      obtain ⟨n3, b3, rfl⟩ := y_rnlt (N := 1) (y_lo1 u2_0_0 (by decide)) u2_0_1 (by omega)
      have b4 : 0 ≤ n3 := y_nlt (a := n3) (b := 0) (by omega) (by omega) u2_0_0
      have b5 : n3 ≤ 1 := y_nlt (a := 1) (b := n3) (by omega) (by omega) u2_0_1
      replace hR := it_f hR (by decide)
      refine lv_if_ne (tgt := 19) hx hb dX11_twice_14 (by decide) (fun _ => ?_) (fun c => absurd c (by decide))
      refine lv_aload_n hx hb dX11_twice_19 rfl (lv_at hl 0 rfl) ?_
      refine x_vi E h (na := 0) (As := []) (aX11_heapNow_0 l g s1 hI1 u1_0_0) (oc_vh g) rfl gX11_twice_X11_heapNow rfl ⟨rfl, rfl⟩ rfl (by decide +kernel) ⟨Nat.le_of_ble_eq_true rfl, Nat.le_of_ble_eq_true rfl⟩ hl.1 rfl (Nat.le_of_ble_eq_true rfl) dX11_twice_20 ⟨Nat.le_of_ble_eq_true rfl, Nat.le_of_ble_eq_true rfl⟩ (fun r6 s6 H locs q6 h => ?_)
      obtain ⟨x6, d6, hI6, f6⟩ := q6
      replace hR := bp_to hR x6
      have hF6 := hF1.call f6 (I := [(3, 12), (14, 18), (22, 23)]) (J := [(8, 19), (21, 29), (31, 41), (43, 47)]) rfl rfl
      have e7 : s6.1 22 = 0 := ((f6.1 22 rfl)).trans u1_0_0
      have e8 : s6.1 5 = nI m1_0P := ((f6.1 5 rfl)).trans u1_0_1
      rcases d6 with ⟨rfl, m6_0P, u6_0_0, u6_0_1, u6_0_2⟩ | rfl
      · skip
        obtain rfl : m1_0P = m6_0P := y_eq (by omega) (by omega) ((e8).symm.trans u6_0_0)
        replace hR := it_f hR (by decide)
        refine lv_if_ne (tgt := 29) hx hb dX11_twice_23 (by decide) (fun _ => ?_) (fun c => absurd c (by decide))
        refine lv_aload_n hx hb dX11_twice_29 rfl (lv_at hl 0 rfl) ?_
        refine x_getR E h (fr_vh_all g) rfl hwX11 (by decide) (by decide +kernel) dX11_twice_30 ?_
        refine x_getRN E h (fr_al_best g) rfl hwX0 (by decide) (by decide +kernel) dX11_twice_33 ?_
        refine lv_aload_n hx hb dX11_twice_36 rfl (lv_at hl 0 rfl) ?_
        refine x_getR E h (fr_vh_cutting g) rfl hwX11 (by decide) (by decide +kernel) dX11_twice_37 ?_
        refine lv_iload_n hx hb dX11_twice_40 rfl (lv_at hl 1 rfl) ?_
        refine lv_aload_n hx hb dX11_twice_41 rfl (lv_at hl 0 rfl) ?_
        refine x_getR E h (fr_vh_ruleText g) rfl hwX11 (by decide) (by decide +kernel) dX11_twice_42 ?_
        refine lv_iconst (v := 5) hx hb dX11_twice_45 (by decide) ?_
        refine x_vi E h (na := 1) (As := [.int 5]) (aX8_ruleNow_0 l g s6 hI6 5) (oc_rt g) rfl gX11_twice_X8_ruleNow rfl ⟨rfl, rfl⟩ rfl (by decide +kernel) ⟨Nat.le_of_ble_eq_true rfl, Nat.le_of_ble_eq_true rfl⟩ hl.1 rfl (Nat.le_of_ble_eq_true rfl) dX11_twice_46 ⟨Nat.le_of_ble_eq_true rfl, Nat.le_of_ble_eq_true rfl⟩ (fun r9 s9 H locs q9 h => ?_)
        obtain ⟨x9, rfl⟩ := q9
        replace hR := bd_to hR x9
        refine x_vi E h (na := 3) (As := [.ref (g.2.1 16), .int (nI m1_0n), .int r9]) (aX4_twoInOne_0 l g s6 hI6 (nI m1_0n) r9) (oc_be g) rfl gX11_twice_X4_twoInOne rfl ⟨rfl, rfl⟩ rfl (by decide +kernel) ⟨Nat.le_of_ble_eq_true rfl, Nat.le_of_ble_eq_true rfl⟩ hl.1 rfl (Nat.le_of_ble_eq_true rfl) dX11_twice_49 ⟨Nat.le_of_ble_eq_true rfl, Nat.le_of_ble_eq_true rfl⟩ (fun r10 s10 H locs q10 h => ?_)
        obtain ⟨x10, rfl⟩ := q10
        replace hR := bd_to hR x10
        refine lv_istore_n (lv' := [(3, .int r10), (0, .ref (g.2.1 0)), (1, .int (nI m1_0n)), (2, .int (nI n3))]) hx hb dX11_twice_52 rfl hl (by decide) rfl (fun ls hl => ?_)
        refine lv_iload_n hx hb dX11_twice_53 rfl (lv_at hl 0 rfl) ?_
        refine lv_bipush (v := (-9)) hx hb dX11_twice_54 (by decide) ?_
        refine lv_icmp_ne (tgt := 62) hx hb dX11_twice_56 (by decide) (fun c11 => ?_) (fun c11 => ?_)
        · skip
          replace hR := it_f hR c11
          refine lv_iload_n hx hb dX11_twice_62 rfl (lv_at hl 3 rfl) ?_
          refine lv_if_ne (tgt := 73) hx hb dX11_twice_63 (by decide) (fun c13 => ?_) (fun c13 => ?_)
          · skip
            replace hR := it_f hR c13
            have b14 : ¬ n3 = 0 := y_ne (a := n3) (b := 0) (by omega) (by omega) c13
            refine lv_iload_n hx hb dX11_twice_73 rfl (lv_at hl 0 rfl) ?_
            refine lv_bipush (v := 9) hx hb dX11_twice_74 (by decide) ?_
            refine lv_irem hx hb dX11_twice_76 (by decide) ?_
            refine lv_topi (fun x15 e15 => ?_)
            replace hR := bd_to hR e15.symm
            subst hPQ
            exact x_iret E h ⟨hR0.trans hR.symm, hI6, hF6⟩ dX11_twice_77
          · skip
            replace hR := it_t hR c13
            have b16 : n3 = 0 := y_eq (a := n3) (b := 0) (by omega) (by omega) c13
            refine lv_iload_n hx hb dX11_twice_66 rfl (lv_at hl 0 rfl) ?_
            refine lv_bipush (v := 9) hx hb dX11_twice_67 (by decide) ?_
            refine lv_idiv hx hb dX11_twice_69 (by decide) ?_
            refine lv_topi (fun x17 e17 => ?_)
            replace hR := bd_to hR e17.symm
            refine lv_goto (tgt := 77) hx hb dX11_twice_70 (by decide) ?_
            subst hPQ
            exact x_iret E h ⟨hR0.trans hR.symm, hI6, hF6⟩ dX11_twice_77
        · skip
          replace hR := it_t hR c11
          subst c11
          refine lv_bipush (v := (-9)) hx hb dX11_twice_59 (by decide) ?_
          subst hPQ
          exact x_iret E h ⟨hR0.trans hR.symm, hI6, hF6⟩ dX11_twice_61
      · skip
        replace hR := it_t hR (by decide)
        refine lv_if_ne (tgt := 29) hx hb dX11_twice_23 (by decide) (fun c => absurd (by decide) c) (fun _ => ?_)
        refine lv_bipush (v := (-2)) hx hb dX11_twice_26 (by decide) ?_
        subst hPQ
        exact x_iret E h ⟨hR0.trans hR.symm, hI6, hF6⟩ dX11_twice_28
    · skip
      replace hR := it_t hR (by decide)
      refine lv_if_ne (tgt := 19) hx hb dX11_twice_14 (by decide) (fun c => absurd (by decide) c) (fun _ => ?_)
      refine lv_iconst (v := (-1)) hx hb dX11_twice_17 (by decide) ?_
      subst hPQ
      exact x_iret E h ⟨hR0.trans hR.symm, hI1, hF1⟩ dX11_twice_18
  · skip
    replace hR := it_t hR (by decide)
    refine lv_if_eq (tgt := 17) hx hb dX11_twice_5 (by decide) (fun _ => ?_) (fun c => absurd (by decide) c)
    refine lv_iconst (v := (-1)) hx hb dX11_twice_17 (by decide) ?_
    subst hPQ
    exact x_iret E h ⟨hR0.trans hR.symm, hI1, hF1⟩ dX11_twice_18
