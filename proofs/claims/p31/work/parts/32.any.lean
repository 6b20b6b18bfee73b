set_option maxHeartbeats 4000000 in
set_option maxRecDepth 100000 in
theorem aX2_cut_0 (l : Launch) (g : CX) (σ : ST) (hI : INV σ) (p3 : Int32) (p4 : Int32) : XM l g yX2_cut wsX2_cut { frames := 3, cells := 0, slots := 0, locals := 75 } [.ref (g.2.1 16), .ref (g.2.1 5), .ref (g.2.1 10), .int p3, .int p4] σ (XQv g (fun σ' => fX2_cut_0 p3 p4 σ = σ' ∧ INV σ' ∧ Fr [(3, 8)] [(8, 19)] σ σ')) := by
  refine x_met (own := RX2) (cc := cX2_cut) (maxL := 7) (ret := none) (lv := [(0, .ref (g.2.1 16)), (1, .ref (g.2.1 5)), (2, .ref (g.2.1 10)), (3, .int p3), (4, .int p4)]) (by decide) rfl rfl (Nat.le_of_ble_eq_true rfl) rfl ?_
  intro p e s m args below meth c ls E h hl
  have hx := E.1
  have hb := E.2.1
  have hown := E.2.2.2.1
  have hts := E.2.2.2.2.1
  have hF : Fr [(3, 8)] [(8, 19)] σ σ := Fr.refl σ
  obtain ⟨R, hR0⟩ : ∃ R, fX2_cut_0 p3 p4 σ = R := ⟨_, rfl⟩
  have hR : fX2_cut_0b0 p3 p4 σ = R := hR0
  have hwX2 : ∀ w ∈ wsX20, w ∈ wsX2_cut := by decide +kernel
  have hwX7 : ∀ w ∈ wsX70, w ∈ wsX2_cut := by decide +kernel
  generalize hPQ : XQv g (fun σ' => fX2_cut_0 p3 p4 σ = σ' ∧ INV σ' ∧ Fr [(3, 8)] [(8, 19)] σ σ') = PQz
  refine lv_aload_n hx hb dX2_cut_0 rfl (lv_at hl 0 rfl) ?_
  refine lv_iconst (v := 0) hx hb dX2_cut_1 (by decide) ?_
  refine y_putI E h hI hF (ty := .int) (v := nI 0) (fi_cu_pieces g) rfl hwX2 tyX2_ok nmX2 (by decide) (by decide +kernel) (by decide +kernel) (by decide +kernel) rfl rfl (ba_some rfl (Bd.mk (n := 0) (by omega))) rfl dX2_cut_2 (fun s1 H locs q1 hI1 hF1 h => ?_)
  replace hR := bd_to hR q1.symm
  have e2 : s1.1 5 = nI 0 := congrArg (fun t : ST => t.1 5) q1
  refine lv_aload_n hx hb dX2_cut_5 rfl (lv_at hl 0 rfl) ?_
  refine lv_iconst (v := 0) hx hb dX2_cut_6 (by decide) ?_
  refine y_putI E h hI1 hF1 (ty := .int) (v := 0) (fi_cu_stretches g) rfl hwX2 tyX2_ok nmX2 (by decide) (by decide +kernel) (by decide +kernel) (by decide +kernel) rfl rfl (ba_none rfl) rfl dX2_cut_7 (fun s3 H locs q3 hI3 hF3 h => ?_)
  replace hR := bd_to hR q3.symm
  have e4 : s3.1 5 = 0 := (congrArg (fun t : ST => t.1 5) q3).trans e2
  have e5 : s3.1 6 = 0 := congrArg (fun t : ST => t.1 6) q3
  refine lv_aload_n hx hb dX2_cut_10 rfl (lv_at hl 0 rfl) ?_
  refine lv_iconst (v := 0) hx hb dX2_cut_11 (by decide) ?_
  refine y_putI E h hI3 hF3 (ty := .int) (v := 0) (fi_cu_total g) rfl hwX2 tyX2_ok nmX2 (by decide) (by decide +kernel) (by decide +kernel) (by decide +kernel) rfl rfl (ba_none rfl) rfl dX2_cut_12 (fun s6 H locs q6 hI6 hF6 h => ?_)
  replace hR := bd_to hR q6.symm
  have e7 : s6.1 5 = 0 := (congrArg (fun t : ST => t.1 5) q6).trans e4
  have e8 : s6.1 6 = 0 := (congrArg (fun t : ST => t.1 6) q6).trans e5
  have e9 : s6.1 7 = 0 := congrArg (fun t : ST => t.1 7) q6
  refine lv_aload_n hx hb dX2_cut_15 rfl (lv_at hl 0 rfl) ?_
  refine lv_iconst (v := 0) hx hb dX2_cut_16 (by decide) ?_
  refine y_putI E h hI6 hF6 (ty := .int) (v := 0) (fi_cu_heardRows g) rfl hwX2 tyX2_ok nmX2 (by decide) (by decide +kernel) (by decide +kernel) (by decide +kernel) rfl rfl (ba_none rfl) rfl dX2_cut_17 (fun s10 H locs q10 hI10 hF10 h => ?_)
  replace hR := bd_to hR q10.symm
  have e11 : s10.1 5 = 0 := (congrArg (fun t : ST => t.1 5) q10).trans e7
  have e12 : s10.1 6 = 0 := (congrArg (fun t : ST => t.1 6) q10).trans e8
  have e13 : s10.1 7 = 0 := (congrArg (fun t : ST => t.1 7) q10).trans e9
  have e14 : s10.1 8 = 0 := congrArg (fun t : ST => t.1 8) q10
  refine lv_aload_n hx hb dX2_cut_20 rfl (lv_at hl 0 rfl) ?_
  refine x_getR E h (fr_cu_pieceOf g) rfl hwX2 (by decide) (by decide +kernel) dX2_cut_21 ?_
  refine lv_bipush (v := (-9)) hx hb dX2_cut_24 (by decide) ?_
  refine x_sv E h (na := 2) (As := [.ref (g.2.1 22), .int (-9)]) (k_fill l g _ 22 48 17 (ia_cu_pieceOf g) (by decide) (-9)) gX2_cut_J7_fill_53178 rfl ⟨rfl, rfl⟩ rfl (by decide +kernel) ⟨Nat.le_of_ble_eq_true rfl, Nat.le_of_ble_eq_true rfl⟩ hl.1 rfl (Nat.le_of_ble_eq_true rfl) dX2_cut_26 ⟨Nat.le_of_ble_eq_true rfl, Nat.le_of_ble_eq_true rfl⟩ (fun s15 H locs q15 h => ?_)
  have hI15 : INV s15 := by rw [← q15]; exact hI10.fill rfl _
  have hF15 : Fr [(3, 8)] [(8, 19)] σ s15 := by rw [← q15]; exact hF10.putA rfl
  replace hR := bd_to hR q15
  have e16 : s15.1 5 = 0 := ((congrArg (fun t : ST => t.1 5) q15).symm).trans e11
  have e17 : s15.1 6 = 0 := ((congrArg (fun t : ST => t.1 6) q15).symm).trans e12
  have e18 : s15.1 7 = 0 := ((congrArg (fun t : ST => t.1 7) q15).symm).trans e13
  have e19 : s15.1 8 = 0 := ((congrArg (fun t : ST => t.1 8) q15).symm).trans e14
  refine lv_iconst (v := 0) hx hb dX2_cut_29 (by decide) ?_
  refine lv_istore (lv' := [(5, .int 0), (0, .ref (g.2.1 16)), (1, .ref (g.2.1 5)), (2, .ref (g.2.1 10)), (3, .int p3), (4, .int p4)]) hx hb dX2_cut_30 hl (by decide) rfl (fun ls hl => ?_)
  obtain ⟨n21, b21, e21⟩ := hI15.1 2 48 rfl
  have loop32_20 : ∀ (fu : Nat) (t20 : ST) (i20_5 : Nat), INV t20 → Fr [(3, 8)] [(8, 19)] σ t20 → t20.1 2 = nI n21 → i20_5 ≤ n21 + 1 → fX2_cut_0l32 fu p3 p4 (nI i20_5) t20 = R → n21 + 1 - i20_5 < fu → ∀ (H : Heap) (locs : List Loc) (ls : Array Slot), HW g t20 s H locs → lv_has ls 7 [(5, .int (nI i20_5)), (0, .ref (g.2.1 16)), (1, .ref (g.2.1 5)), (2, .ref (g.2.1 10)), (3, .int p3), (4, .int p4)] → W p l e { frames := 3, cells := 0, slots := 0, locals := 75 } s m args below meth c H locs 0 0 (MQ below PQz args s 0 0 (Aw g)) (F0 m 32 ls []) := by
    intro fu20
    induction fu20 with
    | zero => intro t20 i20_5 hI_20 hF_20 e22 bi20_5 hR20 hm; exact absurd hm (Nat.not_lt_zero _)
    | succ fu20 ih =>
      have ih20 := ih
      clear ih
      intro t20 i20_5 hI_20 hF_20 e22 bi20_5 hR20 hm20 H locs ls h hl
      replace hR20 : fX2_cut_0b32 (fX2_cut_0l32 fu20) p3 p4 (nI i20_5) t20 = R := hR20
      refine lv_iload hx hb dX2_cut_32 (lv_at hl 0 rfl) ?_
      refine lv_aload_n hx hb dX2_cut_34 rfl (lv_at hl 2 rfl) ?_
      refine x_getIN E h (fi_bk_rows g) rfl hwX7 (by decide) (by decide +kernel) (v := nI n21) e22 dX2_cut_35 ?_
      replace hR20 := bd_to hR20 e22
      refine lv_icmp_ge (tgt := 148) hx hb dX2_cut_38 (by decide) (fun c23 => ?_) (fun c23 => ?_)
      · skip
        replace hR20 := it_t hR20 c23
        have b24 : n21 ≤ i20_5 := y_le (a := n21) (b := i20_5) (by omega) (by omega) c23
        subst hPQ
        exact x_vret E h ⟨hR0.trans hR20.symm, hI_20, hF_20⟩ dX2_cut_148
      · skip
        replace hR20 := it_f hR20 c23
        have b25 : i20_5 < n21 := y_nle (a := n21) (b := i20_5) (by omega) (by omega) c23
        refine lv_iload hx hb dX2_cut_41 (lv_at hl 0 rfl) ?_
        refine lv_istore (lv' := [(6, .int (nI i20_5)), (5, .int (nI i20_5)), (0, .ref (g.2.1 16)), (1, .ref (g.2.1 5)), (2, .ref (g.2.1 10)), (3, .int p3), (4, .int p4)]) hx hb dX2_cut_43 hl (by decide) rfl (fun ls hl => ?_)
        have loop45_26 : ∀ (fu : Nat) (i26_6 : Nat), i26_6 ≤ n21 → i20_5 ≤ i26_6 → fX2_cut_0l45 (fX2_cut_0l32 fu20) fu p3 p4 (nI i20_5) (nI i26_6) t20 = R → n21 - i26_6 < fu → ∀ (H : Heap) (locs : List Loc) (ls : Array Slot), HW g t20 s H locs → lv_has ls 7 [(6, .int (nI i26_6)), (5, .int (nI i20_5)), (0, .ref (g.2.1 16)), (1, .ref (g.2.1 5)), (2, .ref (g.2.1 10)), (3, .int p3), (4, .int p4)] → W p l e { frames := 3, cells := 0, slots := 0, locals := 75 } s m args below meth c H locs 0 0 (MQ below PQz args s 0 0 (Aw g)) (F0 m 45 ls []) := by
          intro fu26
          induction fu26 with
          | zero => intro i26_6 bi26_6 pp26_0 hR26 hm; exact absurd hm (Nat.not_lt_zero _)
          | succ fu26 ih =>
            have ih26 := ih
            clear ih
            intro i26_6 bi26_6 pp26_0 hR26 hm26 H locs ls h hl
            replace hR26 : fX2_cut_0b45 (fX2_cut_0l32 fu20) (fX2_cut_0l45 (fX2_cut_0l32 fu20) fu26) p3 p4 (nI i20_5) (nI i26_6) t20 = R := hR26
            refine lv_iload hx hb dX2_cut_45 (lv_at hl 0 rfl) ?_
            refine lv_aload_n hx hb dX2_cut_47 rfl (lv_at hl 3 rfl) ?_
            refine x_getIN E h (fi_bk_rows g) rfl hwX7 (by decide) (by decide +kernel) (v := nI n21) e22 dX2_cut_48 ?_
            replace hR26 := bd_to hR26 e22
            refine lv_icmp_ge (tgt := 71) hx hb dX2_cut_51 (by decide) (fun c27 => ?_) (fun c27 => ?_)
            · skip
              replace hR26 := it_t hR26 c27
              have b28 : n21 ≤ i26_6 := y_le (a := n21) (b := i26_6) (by omega) (by omega) c27
              refine lv_iload hx hb dX2_cut_71 (lv_at hl 0 rfl) ?_
              refine lv_iload hx hb dX2_cut_73 (lv_at hl 1 rfl) ?_
              have j139_31 : ∀ (t31 : ST), INV t31 → Fr [(3, 8)] [(8, 19)] σ t31 → t31.1 2 = nI n21 → fX2_cut_0b139 (fX2_cut_0l32 fu20) p3 p4 (nI i26_6) t31 = R → ∀ (H : Heap) (locs : List Loc) (ls : Array Slot), HW g t31 s H locs → lv_has ls 7 [(6, .int (nI i26_6)), (5, .int (nI i20_5)), (0, .ref (g.2.1 16)), (1, .ref (g.2.1 5)), (2, .ref (g.2.1 10)), (3, .int p3), (4, .int p4)] → W p l e { frames := 3, cells := 0, slots := 0, locals := 75 } s m args below meth c H locs 0 0 (MQ below PQz args s 0 0 (Aw g)) (F0 m 139 ls []) := by
                intro t31 hI_31 hF_31 e32 hR31 H locs ls h hl
                refine lv_iload hx hb dX2_cut_139 (lv_at hl 0 rfl) ?_
                refine lv_iconst (v := 1) hx hb dX2_cut_141 (by decide) ?_
                refine lv_iadd hx hb dX2_cut_142 ?_
                refine x_topI (v2 := nI (i26_6 + 1)) (nI_add i26_6 1) ?_
                replace hR31 := bd_to hR31 (nI_add i26_6 1)
                refine lv_istore (lv' := [(5, .int (nI (i26_6 + 1))), (6, .int (nI i26_6)), (0, .ref (g.2.1 16)), (1, .ref (g.2.1 5)), (2, .ref (g.2.1 10)), (3, .int p3), (4, .int p4)]) hx hb dX2_cut_143 hl (by decide) rfl (fun ls hl => ?_)
                refine lv_goto (tgt := 32) hx hb dX2_cut_145 (by decide) ?_
                exact ih20 t31 (i26_6 + 1) hI_31 hF_31 e32 (by omega) hR31 (by omega) _ _ _ h (lv_sub hl [0, 2, 3, 4, 5, 6] rfl)
              refine lv_icmp_le (tgt := 139) hx hb dX2_cut_75 (by decide) (fun c29 => ?_) (fun c29 => ?_)
              · skip
                replace hR26 := it_t hR26 c29
                have b30 : i26_6 ≤ i20_5 := y_le (a := i26_6) (b := i20_5) (by omega) (by omega) c29
                exact j139_31 t20 hI_20 hF_20 e22 hR26 _ _ _ h (lv_sub hl [0, 1, 2, 3, 4, 5, 6] rfl)
              · skip
                replace hR26 := it_f hR26 c29
                have b33 : i20_5 < i26_6 := y_nle (a := i26_6) (b := i20_5) (by omega) (by omega) c29
                refine lv_aload_n hx hb dX2_cut_78 rfl (lv_at hl 2 rfl) ?_
                refine lv_aload_n hx hb dX2_cut_79 rfl (lv_at hl 3 rfl) ?_
                refine lv_aload_n hx hb dX2_cut_80 rfl (lv_at hl 4 rfl) ?_
                refine lv_iload_n hx hb dX2_cut_81 rfl (lv_at hl 5 rfl) ?_
                refine lv_iload hx hb dX2_cut_82 (lv_at hl 1 rfl) ?_
                refine lv_iload hx hb dX2_cut_84 (lv_at hl 0 rfl) ?_
                refine x_vv E h (na := 5) (As := [.ref (g.2.1 5), .ref (g.2.1 10), .int p3, .int (nI i20_5), .int (nI i26_6)]) (aX2_findCosts_0 l g t20 hI_20 p3 i20_5 i26_6 (by omega) (by omega)) (oc_cu g) rfl gX2_cut_X2_findCosts rfl ⟨rfl, rfl⟩ rfl (by decide +kernel) ⟨Nat.le_of_ble_eq_true rfl, Nat.le_of_ble_eq_true rfl⟩ hl.1 rfl (Nat.le_of_ble_eq_true rfl) dX2_cut_86 ⟨Nat.le_of_ble_eq_true rfl, Nat.le_of_ble_eq_true rfl⟩ (fun s34 H locs q34 h => ?_)
                obtain ⟨x34, hI34, f34⟩ := q34
                replace hR26 := bd_to hR26 x34
                have hF34 := hF_20.call f34 (I := [(3, 8)]) (J := [(8, 19)]) rfl rfl
                have e35 : s34.1 2 = nI n21 := ((f34.1 2 rfl)).trans e22
                refine lv_aload_n hx hb dX2_cut_89 rfl (lv_at hl 2 rfl) ?_
                refine lv_aload_n hx hb dX2_cut_90 rfl (lv_at hl 3 rfl) ?_
                refine lv_aload_n hx hb dX2_cut_91 rfl (lv_at hl 4 rfl) ?_
                refine lv_iload hx hb dX2_cut_92 (lv_at hl 1 rfl) ?_
                refine lv_iload hx hb dX2_cut_94 (lv_at hl 0 rfl) ?_
                refine x_vv E h (na := 4) (As := [.ref (g.2.1 5), .ref (g.2.1 10), .int (nI i20_5), .int (nI i26_6)]) (aX2_addPieces_0 l g s34 hI34 i20_5 i26_6 (by omega) (by omega)) (oc_cu g) rfl gX2_cut_X2_addPieces rfl ⟨rfl, rfl⟩ rfl (by decide +kernel) ⟨Nat.le_of_ble_eq_true rfl, Nat.le_of_ble_eq_true rfl⟩ hl.1 rfl (Nat.le_of_ble_eq_true rfl) dX2_cut_96 ⟨Nat.le_of_ble_eq_true rfl, Nat.le_of_ble_eq_true rfl⟩ (fun s36 H locs q36 h => ?_)
                obtain ⟨x36, hI36, f36⟩ := q36
                replace hR26 := bd_to hR26 x36
                have hF36 := hF34.call f36 (I := [(3, 8)]) (J := [(8, 19)]) rfl rfl
                have e37 : s36.1 2 = nI n21 := ((f36.1 2 rfl)).trans e35
                refine lv_aload_n hx hb dX2_cut_99 rfl (lv_at hl 2 rfl) ?_
                refine lv_dup hx hb dX2_cut_100 rfl ?_
                obtain ⟨x38, e38⟩ : ∃ x, s36.1 7 = x := ⟨_, rfl⟩
                refine x_getI E h (fi_cu_total g) rfl hwX2 (by decide) (by decide +kernel) (v := x38) e38 dX2_cut_101 ?_
                replace hR26 := bd_to hR26 e38
                refine lv_aload_n hx hb dX2_cut_104 rfl (lv_at hl 2 rfl) ?_
                refine x_getR E h (fr_cu_cost g) rfl hwX2 (by decide) (by decide +kernel) dX2_cut_105 ?_
                refine lv_iload hx hb dX2_cut_108 (lv_at hl 1 rfl) ?_
                refine x_ldI E h (ia_cu_cost g) (i := nI i20_5) (vp_in_nI (by omega) (by decide)) (v := s36.2.2 18 i20_5) (congrArg (s36.2.2 18) (nI_clamp (n := i20_5) (by omega))) dX2_cut_110 ?_
                replace hR26 := bd_to hR26 (congrArg (s36.2.2 18) (nI_clamp (n := i20_5) (by omega)))
                refine lv_iadd hx hb dX2_cut_111 ?_
                refine lv_topi (fun x39 e39 => ?_)
                replace hR26 := bd_to hR26 e39.symm
                refine y_putI E h hI36 hF36 (ty := .int) (v := x39) (fi_cu_total g) rfl hwX2 tyX2_ok nmX2 (by decide) (by decide +kernel) (by decide +kernel) (by decide +kernel) rfl rfl (ba_none rfl) rfl dX2_cut_112 (fun s40 H locs q40 hI40 hF40 h => ?_)
                replace hR26 := bd_to hR26 q40.symm
                have e41 : s40.1 2 = nI n21 := (congrArg (fun t : ST => t.1 2) q40).trans e37
                have e42 : s40.1 7 = x39 := congrArg (fun t : ST => t.1 7) q40
                refine lv_aload_n hx hb dX2_cut_115 rfl (lv_at hl 2 rfl) ?_
                refine lv_dup hx hb dX2_cut_116 rfl ?_
                obtain ⟨x43, e43⟩ : ∃ x, s40.1 8 = x := ⟨_, rfl⟩
                refine x_getI E h (fi_cu_heardRows g) rfl hwX2 (by decide) (by decide +kernel) (v := x43) e43 dX2_cut_117 ?_
                replace hR26 := bd_to hR26 e43
                refine lv_iload hx hb dX2_cut_120 (lv_at hl 0 rfl) ?_
                refine lv_iload hx hb dX2_cut_122 (lv_at hl 1 rfl) ?_
                refine lv_isub hx hb dX2_cut_124 ?_
                replace hR26 := bd_to hR26 rfl
                refine lv_iadd hx hb dX2_cut_125 ?_
                refine lv_topi (fun x44 e44 => ?_)
                replace hR26 := bd_to hR26 e44.symm
                refine y_putI E h hI40 hF40 (ty := .int) (v := x44) (fi_cu_heardRows g) rfl hwX2 tyX2_ok nmX2 (by decide) (by decide +kernel) (by decide +kernel) (by decide +kernel) rfl rfl (ba_none rfl) rfl dX2_cut_126 (fun s45 H locs q45 hI45 hF45 h => ?_)
                replace hR26 := bd_to hR26 q45.symm
                have e46 : s45.1 2 = nI n21 := (congrArg (fun t : ST => t.1 2) q45).trans e41
                have e47 : s45.1 7 = x39 := (congrArg (fun t : ST => t.1 7) q45).trans e42
                have e48 : s45.1 8 = x44 := congrArg (fun t : ST => t.1 8) q45
                refine lv_aload_n hx hb dX2_cut_129 rfl (lv_at hl 2 rfl) ?_
                refine lv_dup hx hb dX2_cut_130 rfl ?_
                obtain ⟨x49, e49⟩ : ∃ x, s45.1 6 = x := ⟨_, rfl⟩
                refine x_getI E h (fi_cu_stretches g) rfl hwX2 (by decide) (by decide +kernel) (v := x49) e49 dX2_cut_131 ?_
                replace hR26 := bd_to hR26 e49
                refine lv_iconst (v := 1) hx hb dX2_cut_134 (by decide) ?_
                refine lv_iadd hx hb dX2_cut_135 ?_
                refine lv_topi (fun x50 e50 => ?_)
                replace hR26 := bd_to hR26 e50.symm
                refine y_putI E h hI45 hF45 (ty := .int) (v := x50) (fi_cu_stretches g) rfl hwX2 tyX2_ok nmX2 (by decide) (by decide +kernel) (by decide +kernel) (by decide +kernel) rfl rfl (ba_none rfl) rfl dX2_cut_136 (fun s51 H locs q51 hI51 hF51 h => ?_)
                replace hR26 := bd_to hR26 q51.symm
                have e52 : s51.1 2 = nI n21 := (congrArg (fun t : ST => t.1 2) q51).trans e46
                have e53 : s51.1 7 = x39 := (congrArg (fun t : ST => t.1 7) q51).trans e47
                have e54 : s51.1 8 = x44 := (congrArg (fun t : ST => t.1 8) q51).trans e48
                have e55 : s51.1 6 = x50 := congrArg (fun t : ST => t.1 6) q51
                exact j139_31 s51 hI51 hF51 e52 hR26 _ _ _ h (lv_sub hl [0, 1, 2, 3, 4, 5, 6] rfl)
            · skip
              replace hR26 := it_f hR26 c27
              have b56 : i26_6 < n21 := y_nle (a := n21) (b := i26_6) (by omega) (by omega) c27
              refine lv_aload_n hx hb dX2_cut_54 rfl (lv_at hl 3 rfl) ?_
              refine lv_iload hx hb dX2_cut_55 (lv_at hl 0 rfl) ?_
              refine lv_iload hx hb dX2_cut_57 (lv_at hl 6 rfl) ?_
              refine x_vi E h (na := 2) (As := [.int (nI i26_6), .int p4]) (aX7_isHeard_0 l g t20 hI_20 i26_6 p4 (by omega)) (oc_bk g) rfl gX2_cut_X7_isHeard rfl ⟨rfl, rfl⟩ rfl (by decide +kernel) ⟨Nat.le_of_ble_eq_true rfl, Nat.le_of_ble_eq_true rfl⟩ hl.1 rfl (Nat.le_of_ble_eq_true rfl) dX2_cut_59 ⟨Nat.le_of_ble_eq_true rfl, Nat.le_of_ble_eq_true rfl⟩ (fun r57 s57 H locs q57 h => ?_)
              obtain ⟨x57, rfl⟩ := q57
              replace hR26 := bd_to hR26 x57
              refine lv_if_eq (tgt := 71) hx hb dX2_cut_62 (by decide) (fun c58 => ?_) (fun c58 => ?_)
              · skip
                replace hR26 := it_t hR26 c58
                subst c58
                refine lv_iload hx hb dX2_cut_71 (lv_at hl 0 rfl) ?_
                refine lv_iload hx hb dX2_cut_73 (lv_at hl 1 rfl) ?_
                have j139_62 : ∀ (t62 : ST), INV t62 → Fr [(3, 8)] [(8, 19)] σ t62 → t62.1 2 = nI n21 → fX2_cut_0b139 (fX2_cut_0l32 fu20) p3 p4 (nI i26_6) t62 = R → ∀ (H : Heap) (locs : List Loc) (ls : Array Slot), HW g t62 s H locs → lv_has ls 7 [(6, .int (nI i26_6)), (5, .int (nI i20_5)), (0, .ref (g.2.1 16)), (1, .ref (g.2.1 5)), (2, .ref (g.2.1 10)), (3, .int p3), (4, .int p4)] → W p l e { frames := 3, cells := 0, slots := 0, locals := 75 } s m args below meth c H locs 0 0 (MQ below PQz args s 0 0 (Aw g)) (F0 m 139 ls []) := by
                  intro t62 hI_62 hF_62 e63 hR62 H locs ls h hl
                  refine lv_iload hx hb dX2_cut_139 (lv_at hl 0 rfl) ?_
                  refine lv_iconst (v := 1) hx hb dX2_cut_141 (by decide) ?_
                  refine lv_iadd hx hb dX2_cut_142 ?_
                  refine x_topI (v2 := nI (i26_6 + 1)) (nI_add i26_6 1) ?_
                  replace hR62 := bd_to hR62 (nI_add i26_6 1)
                  refine lv_istore (lv' := [(5, .int (nI (i26_6 + 1))), (6, .int (nI i26_6)), (0, .ref (g.2.1 16)), (1, .ref (g.2.1 5)), (2, .ref (g.2.1 10)), (3, .int p3), (4, .int p4)]) hx hb dX2_cut_143 hl (by decide) rfl (fun ls hl => ?_)
                  refine lv_goto (tgt := 32) hx hb dX2_cut_145 (by decide) ?_
                  exact ih20 t62 (i26_6 + 1) hI_62 hF_62 e63 (by omega) hR62 (by omega) _ _ _ h (lv_sub hl [0, 2, 3, 4, 5, 6] rfl)
                refine lv_icmp_le (tgt := 139) hx hb dX2_cut_75 (by decide) (fun c60 => ?_) (fun c60 => ?_)
                · skip
                  replace hR26 := it_t hR26 c60
                  have b61 : i26_6 ≤ i20_5 := y_le (a := i26_6) (b := i20_5) (by omega) (by omega) c60
                  exact j139_62 t20 hI_20 hF_20 e22 hR26 _ _ _ h (lv_sub hl [0, 1, 2, 3, 4, 5, 6] rfl)
                · skip
                  replace hR26 := it_f hR26 c60
                  have b64 : i20_5 < i26_6 := y_nle (a := i26_6) (b := i20_5) (by omega) (by omega) c60
                  refine lv_aload_n hx hb dX2_cut_78 rfl (lv_at hl 2 rfl) ?_
                  refine lv_aload_n hx hb dX2_cut_79 rfl (lv_at hl 3 rfl) ?_
                  refine lv_aload_n hx hb dX2_cut_80 rfl (lv_at hl 4 rfl) ?_
                  refine lv_iload_n hx hb dX2_cut_81 rfl (lv_at hl 5 rfl) ?_
                  refine lv_iload hx hb dX2_cut_82 (lv_at hl 1 rfl) ?_
                  refine lv_iload hx hb dX2_cut_84 (lv_at hl 0 rfl) ?_
                  refine x_vv E h (na := 5) (As := [.ref (g.2.1 5), .ref (g.2.1 10), .int p3, .int (nI i20_5), .int (nI i26_6)]) (aX2_findCosts_0 l g t20 hI_20 p3 i20_5 i26_6 (by omega) (by omega)) (oc_cu g) rfl gX2_cut_X2_findCosts rfl ⟨rfl, rfl⟩ rfl (by decide +kernel) ⟨Nat.le_of_ble_eq_true rfl, Nat.le_of_ble_eq_true rfl⟩ hl.1 rfl (Nat.le_of_ble_eq_true rfl) dX2_cut_86 ⟨Nat.le_of_ble_eq_true rfl, Nat.le_of_ble_eq_true rfl⟩ (fun s65 H locs q65 h => ?_)
                  obtain ⟨x65, hI65, f65⟩ := q65
                  replace hR26 := bd_to hR26 x65
                  have hF65 := hF_20.call f65 (I := [(3, 8)]) (J := [(8, 19)]) rfl rfl
                  have e66 : s65.1 2 = nI n21 := ((f65.1 2 rfl)).trans e22
                  refine lv_aload_n hx hb dX2_cut_89 rfl (lv_at hl 2 rfl) ?_
                  refine lv_aload_n hx hb dX2_cut_90 rfl (lv_at hl 3 rfl) ?_
                  refine lv_aload_n hx hb dX2_cut_91 rfl (lv_at hl 4 rfl) ?_
                  refine lv_iload hx hb dX2_cut_92 (lv_at hl 1 rfl) ?_
                  refine lv_iload hx hb dX2_cut_94 (lv_at hl 0 rfl) ?_
                  refine x_vv E h (na := 4) (As := [.ref (g.2.1 5), .ref (g.2.1 10), .int (nI i20_5), .int (nI i26_6)]) (aX2_addPieces_0 l g s65 hI65 i20_5 i26_6 (by omega) (by omega)) (oc_cu g) rfl gX2_cut_X2_addPieces rfl ⟨rfl, rfl⟩ rfl (by decide +kernel) ⟨Nat.le_of_ble_eq_true rfl, Nat.le_of_ble_eq_true rfl⟩ hl.1 rfl (Nat.le_of_ble_eq_true rfl) dX2_cut_96 ⟨Nat.le_of_ble_eq_true rfl, Nat.le_of_ble_eq_true rfl⟩ (fun s67 H locs q67 h => ?_)
                  obtain ⟨x67, hI67, f67⟩ := q67
                  replace hR26 := bd_to hR26 x67
                  have hF67 := hF65.call f67 (I := [(3, 8)]) (J := [(8, 19)]) rfl rfl
                  have e68 : s67.1 2 = nI n21 := ((f67.1 2 rfl)).trans e66
                  refine lv_aload_n hx hb dX2_cut_99 rfl (lv_at hl 2 rfl) ?_
                  refine lv_dup hx hb dX2_cut_100 rfl ?_
                  obtain ⟨x69, e69⟩ : ∃ x, s67.1 7 = x := ⟨_, rfl⟩
                  refine x_getI E h (fi_cu_total g) rfl hwX2 (by decide) (by decide +kernel) (v := x69) e69 dX2_cut_101 ?_
                  replace hR26 := bd_to hR26 e69
                  refine lv_aload_n hx hb dX2_cut_104 rfl (lv_at hl 2 rfl) ?_
                  refine x_getR E h (fr_cu_cost g) rfl hwX2 (by decide) (by decide +kernel) dX2_cut_105 ?_
                  refine lv_iload hx hb dX2_cut_108 (lv_at hl 1 rfl) ?_
                  refine x_ldI E h (ia_cu_cost g) (i := nI i20_5) (vp_in_nI (by omega) (by decide)) (v := s67.2.2 18 i20_5) (congrArg (s67.2.2 18) (nI_clamp (n := i20_5) (by omega))) dX2_cut_110 ?_
                  replace hR26 := bd_to hR26 (congrArg (s67.2.2 18) (nI_clamp (n := i20_5) (by omega)))
                  refine lv_iadd hx hb dX2_cut_111 ?_
                  refine lv_topi (fun x70 e70 => ?_)
                  replace hR26 := bd_to hR26 e70.symm
                  refine y_putI E h hI67 hF67 (ty := .int) (v := x70) (fi_cu_total g) rfl hwX2 tyX2_ok nmX2 (by decide) (by decide +kernel) (by decide +kernel) (by decide +kernel) rfl rfl (ba_none rfl) rfl dX2_cut_112 (fun s71 H locs q71 hI71 hF71 h => ?_)
                  replace hR26 := bd_to hR26 q71.symm
                  have e72 : s71.1 2 = nI n21 := (congrArg (fun t : ST => t.1 2) q71).trans e68
                  have e73 : s71.1 7 = x70 := congrArg (fun t : ST => t.1 7) q71
                  refine lv_aload_n hx hb dX2_cut_115 rfl (lv_at hl 2 rfl) ?_
                  refine lv_dup hx hb dX2_cut_116 rfl ?_
                  obtain ⟨x74, e74⟩ : ∃ x, s71.1 8 = x := ⟨_, rfl⟩
                  refine x_getI E h (fi_cu_heardRows g) rfl hwX2 (by decide) (by decide +kernel) (v := x74) e74 dX2_cut_117 ?_
                  replace hR26 := bd_to hR26 e74
                  refine lv_iload hx hb dX2_cut_120 (lv_at hl 0 rfl) ?_
                  refine lv_iload hx hb dX2_cut_122 (lv_at hl 1 rfl) ?_
                  refine lv_isub hx hb dX2_cut_124 ?_
                  replace hR26 := bd_to hR26 rfl
                  refine lv_iadd hx hb dX2_cut_125 ?_
                  refine lv_topi (fun x75 e75 => ?_)
                  replace hR26 := bd_to hR26 e75.symm
                  refine y_putI E h hI71 hF71 (ty := .int) (v := x75) (fi_cu_heardRows g) rfl hwX2 tyX2_ok nmX2 (by decide) (by decide +kernel) (by decide +kernel) (by decide +kernel) rfl rfl (ba_none rfl) rfl dX2_cut_126 (fun s76 H locs q76 hI76 hF76 h => ?_)
                  replace hR26 := bd_to hR26 q76.symm
                  have e77 : s76.1 2 = nI n21 := (congrArg (fun t : ST => t.1 2) q76).trans e72
                  have e78 : s76.1 7 = x70 := (congrArg (fun t : ST => t.1 7) q76).trans e73
                  have e79 : s76.1 8 = x75 := congrArg (fun t : ST => t.1 8) q76
                  refine lv_aload_n hx hb dX2_cut_129 rfl (lv_at hl 2 rfl) ?_
                  refine lv_dup hx hb dX2_cut_130 rfl ?_
                  obtain ⟨x80, e80⟩ : ∃ x, s76.1 6 = x := ⟨_, rfl⟩
                  refine x_getI E h (fi_cu_stretches g) rfl hwX2 (by decide) (by decide +kernel) (v := x80) e80 dX2_cut_131 ?_
                  replace hR26 := bd_to hR26 e80
                  refine lv_iconst (v := 1) hx hb dX2_cut_134 (by decide) ?_
                  refine lv_iadd hx hb dX2_cut_135 ?_
                  refine lv_topi (fun x81 e81 => ?_)
                  replace hR26 := bd_to hR26 e81.symm
                  refine y_putI E h hI76 hF76 (ty := .int) (v := x81) (fi_cu_stretches g) rfl hwX2 tyX2_ok nmX2 (by decide) (by decide +kernel) (by decide +kernel) (by decide +kernel) rfl rfl (ba_none rfl) rfl dX2_cut_136 (fun s82 H locs q82 hI82 hF82 h => ?_)
                  replace hR26 := bd_to hR26 q82.symm
                  have e83 : s82.1 2 = nI n21 := (congrArg (fun t : ST => t.1 2) q82).trans e77
                  have e84 : s82.1 7 = x70 := (congrArg (fun t : ST => t.1 7) q82).trans e78
                  have e85 : s82.1 8 = x75 := (congrArg (fun t : ST => t.1 8) q82).trans e79
                  have e86 : s82.1 6 = x81 := congrArg (fun t : ST => t.1 6) q82
                  exact j139_62 s82 hI82 hF82 e83 hR26 _ _ _ h (lv_sub hl [0, 1, 2, 3, 4, 5, 6] rfl)
              · skip
                replace hR26 := it_f hR26 c58
                replace hR26 := bd_to hR26 (nI_add i26_6 1)
                refine lv_iinc (v := (nI (i26_6 + 1))) (lv' := [(6, .int (nI (i26_6 + 1))), (5, .int (nI i20_5)), (0, .ref (g.2.1 16)), (1, .ref (g.2.1 5)), (2, .ref (g.2.1 10)), (3, .int p3), (4, .int p4)]) hx hb dX2_cut_65 hl (k := 0) rfl (nI_add i26_6 1) (by decide) rfl (fun ls hl => ?_)
                refine lv_goto (tgt := 45) hx hb dX2_cut_68 (by decide) ?_
                exact ih26 (i26_6 + 1) (by omega) (by omega) hR26 (by omega) _ _ _ h (lv_sub hl [0, 1, 2, 3, 4, 5, 6] rfl)
        exact loop45_26 4096 i20_5 (by omega) (by omega) hR20 (by omega) _ _ _ h (lv_sub hl [0, 1, 2, 3, 4, 5, 6] rfl)
  exact loop32_20 4096 s15 0 hI15 hF15 e21 (Nat.zero_le _) hR (by omega) _ _ _ h (lv_sub hl [0, 1, 2, 3, 4, 5] rfl)
set_option maxHeartbeats 4000000 in
set_option maxRecDepth 100000 in
theorem aX11_cutNow_0 (l : Launch) (g : CX) (σ : ST) (hI : INV σ)  : XM l g yX11_cutNow wsX11_cutNow { frames := 4, cells := 0, slots := 0, locals := 101 } [.ref (g.2.1 0)] σ (XQv g (fun σ' => fX11_cutNow_0 σ = σ' ∧ ((σ'.1 22 = 0)) ∧ INV σ' ∧ Fr [(3, 8), (22, 22)] [(8, 19)] σ σ')) := by
  refine x_met (own := RX11) (cc := cX11_cutNow) (maxL := 1) (ret := none) (lv := [(0, .ref (g.2.1 0))]) (by decide) rfl rfl (Nat.le_of_ble_eq_true rfl) rfl ?_
  intro p e s m args below meth c ls E h hl
  have hx := E.1
  have hb := E.2.1
  have hown := E.2.2.2.1
  have hts := E.2.2.2.2.1
  have hF : Fr [(3, 8), (22, 22)] [(8, 19)] σ σ := Fr.refl σ
  obtain ⟨R, hR0⟩ : ∃ R, fX11_cutNow_0 σ = R := ⟨_, rfl⟩
  have hR : fX11_cutNow_0b0 σ = R := hR0
  have hwX11 : ∀ w ∈ wsX110, w ∈ wsX11_cutNow := by decide +kernel
  generalize hPQ : XQv g (fun σ' => fX11_cutNow_0 σ = σ' ∧ ((σ'.1 22 = 0)) ∧ INV σ' ∧ Fr [(3, 8), (22, 22)] [(8, 19)] σ σ') = PQz
  refine lv_aload_n hx hb dX11_cutNow_0 rfl (lv_at hl 0 rfl) ?_
  obtain ⟨x1, e1⟩ : ∃ x, σ.1 22 = x := ⟨_, rfl⟩
  refine x_getI E h (fi_vh_cutIsOld g) rfl hwX11 (by decide) (by decide +kernel) (v := x1) e1 dX11_cutNow_1 ?_
  replace hR := bd_to hR e1
  refine lv_if_eq (tgt := 43) hx hb dX11_cutNow_4 (by decide) (fun c2 => ?_) (fun c2 => ?_)
  · skip
    replace hR := it_t hR c2
    subst c2
    subst hPQ
    exact x_vret E h ⟨hR0.trans hR.symm, (e1), hI, hF⟩ dX11_cutNow_43
  · skip
    replace hR := it_f hR c2
    refine lv_aload_n hx hb dX11_cutNow_7 rfl (lv_at hl 0 rfl) ?_
    refine x_getR E h (fr_vh_cutting g) rfl hwX11 (by decide) (by decide +kernel) dX11_cutNow_8 ?_
    refine lv_aload_n hx hb dX11_cutNow_11 rfl (lv_at hl 0 rfl) ?_
    refine x_getR E h (fr_vh_book g) rfl hwX11 (by decide) (by decide +kernel) dX11_cutNow_12 ?_
    refine lv_aload_n hx hb dX11_cutNow_15 rfl (lv_at hl 0 rfl) ?_
    refine x_getR E h (fr_vh_gathering g) rfl hwX11 (by decide) (by decide +kernel) dX11_cutNow_16 ?_
    refine lv_aload_n hx hb dX11_cutNow_19 rfl (lv_at hl 0 rfl) ?_
    refine x_getR E h (fr_vh_ruleText g) rfl hwX11 (by decide) (by decide +kernel) dX11_cutNow_20 ?_
    refine lv_iconst (v := 0) hx hb dX11_cutNow_23 (by decide) ?_
    refine x_vi E h (na := 1) (As := [.int 0]) (aX8_ruleNow_0 l g σ hI 0) (oc_rt g) rfl gX11_cutNow_X8_ruleNow rfl ⟨rfl, rfl⟩ rfl (by decide +kernel) ⟨Nat.le_of_ble_eq_true rfl, Nat.le_of_ble_eq_true rfl⟩ hl.1 rfl (Nat.le_of_ble_eq_true rfl) dX11_cutNow_24 ⟨Nat.le_of_ble_eq_true rfl, Nat.le_of_ble_eq_true rfl⟩ (fun r5 s5 H locs q5 h => ?_)
    obtain ⟨x5, rfl⟩ := q5
    replace hR := bd_to hR x5
    refine lv_aload_n hx hb dX11_cutNow_27 rfl (lv_at hl 0 rfl) ?_
    refine x_getR E h (fr_vh_ruleText g) rfl hwX11 (by decide) (by decide +kernel) dX11_cutNow_28 ?_
    refine lv_iconst (v := 1) hx hb dX11_cutNow_31 (by decide) ?_
    refine x_vi E h (na := 1) (As := [.int 1]) (aX8_ruleNow_0 l g σ hI 1) (oc_rt g) rfl gX11_cutNow_X8_ruleNow rfl ⟨rfl, rfl⟩ rfl (by decide +kernel) ⟨Nat.le_of_ble_eq_true rfl, Nat.le_of_ble_eq_true rfl⟩ hl.1 rfl (Nat.le_of_ble_eq_true rfl) dX11_cutNow_32 ⟨Nat.le_of_ble_eq_true rfl, Nat.le_of_ble_eq_true rfl⟩ (fun r6 s6 H locs q6 h => ?_)
    obtain ⟨x6, rfl⟩ := q6
    replace hR := bd_to hR x6
    refine x_vv E h (na := 4) (As := [.ref (g.2.1 5), .ref (g.2.1 10), .int r5, .int r6]) (aX2_cut_0 l g σ hI r5 r6) (oc_cu g) rfl gX11_cutNow_X2_cut rfl ⟨rfl, rfl⟩ rfl (by decide +kernel) ⟨Nat.le_of_ble_eq_true rfl, Nat.le_of_ble_eq_true rfl⟩ hl.1 rfl (Nat.le_of_ble_eq_true rfl) dX11_cutNow_35 ⟨Nat.le_of_ble_eq_true rfl, Nat.le_of_ble_eq_true rfl⟩ (fun s7 H locs q7 h => ?_)
    obtain ⟨x7, hI7, f7⟩ := q7
    replace hR := bd_to hR x7
    have hF7 := hF.call f7 (I := [(3, 8), (22, 22)]) (J := [(8, 19)]) rfl rfl
    have e8 : s7.1 22 = x1 := ((f7.1 22 rfl)).trans e1
    refine lv_aload_n hx hb dX11_cutNow_38 rfl (lv_at hl 0 rfl) ?_
    refine lv_iconst (v := 0) hx hb dX11_cutNow_39 (by decide) ?_
    refine y_putI E h hI7 hF7 (ty := .boolean) (v := 0) (fi_vh_cutIsOld g) rfl hwX11 tyX11_ok nmX11 (by decide) (by decide +kernel) (by decide +kernel) (by decide +kernel) rfl rfl (ba_none rfl) rfl dX11_cutNow_40 (fun s9 H locs q9 hI9 hF9 h => ?_)
    replace hR := bd_to hR q9.symm
    have e10 : s9.1 22 = 0 := congrArg (fun t : ST => t.1 22) q9
    subst hPQ
    exact x_vret E h ⟨hR0.trans hR.symm, (e10), hI9, hF9⟩ dX11_cutNow_43
set_option maxHeartbeats 4000000 in
set_option maxRecDepth 100000 in
theorem aX11_pieces_0 (l : Launch) (g : CX) (σ : ST) (hI : INV σ) (p1 : Int32) : XM l g yX11_pieces wsX11_pieces { frames := 5, cells := 0, slots := 0, locals := 121 } [.ref (g.2.1 0), .int p1] σ (XQi g (fun r σ' => fX11_pieces_0 p1 σ = (r, σ') ∧ INV σ' ∧ Fr [(3, 8), (22, 22)] [(8, 19)] σ σ')) := by
  refine x_met (own := RX11) (cc := cX11_pieces) (maxL := 2) (ret := (some .int)) (lv := [(0, .ref (g.2.1 0)), (1, .int p1)]) (by decide) rfl rfl (Nat.le_of_ble_eq_true rfl) rfl ?_
  intro p e s m args below meth c ls E h hl
  have hx := E.1
  have hb := E.2.1
  have hown := E.2.2.2.1
  have hts := E.2.2.2.2.1
  have hF : Fr [(3, 8), (22, 22)] [(8, 19)] σ σ := Fr.refl σ
  obtain ⟨R, hR0⟩ : ∃ R, fX11_pieces_0 p1 σ = R := ⟨_, rfl⟩
  have hR : fX11_pieces_0b0 p1 σ = R := hR0
  have hwX11 : ∀ w ∈ wsX110, w ∈ wsX11_pieces := by decide +kernel
  have hwX2 : ∀ w ∈ wsX20, w ∈ wsX11_pieces := by decide +kernel
  generalize hPQ : XQi g (fun r σ' => fX11_pieces_0 p1 σ = (r, σ') ∧ INV σ' ∧ Fr [(3, 8), (22, 22)] [(8, 19)] σ σ') = PQz
  refine lv_aload_n hx hb dX11_pieces_0 rfl (lv_at hl 0 rfl) ?_
  refine x_vv E h (na := 0) (As := []) (aX11_cutNow_0 l g σ hI) (oc_vh g) rfl gX11_pieces_X11_cutNow rfl ⟨rfl, rfl⟩ rfl (by decide +kernel) ⟨Nat.le_of_ble_eq_true rfl, Nat.le_of_ble_eq_true rfl⟩ hl.1 rfl (Nat.le_of_ble_eq_true rfl) dX11_pieces_1 ⟨Nat.le_of_ble_eq_true rfl, Nat.le_of_ble_eq_true rfl⟩ (fun s1 H locs q1 h => ?_)
  obtain ⟨x1, d1, hI1, f1⟩ := q1
  replace hR := bd_to hR x1
  have hF1 := hF.call f1 (I := [(3, 8), (22, 22)]) (J := [(8, 19)]) rfl rfl
  have u1_0_0 := d1
  refine lv_iload_n hx hb dX11_pieces_4 rfl (lv_at hl 1 rfl) ?_
  by_cases c_5_0 : p1 = 0
  · refine x_topI (v2 := 0) c_5_0 ?_
    replace hR := it_t hR c_5_0
    refine lv_tableIn (tgt := 36) (off := 31) hx hb dX11_pieces_5 (by decide) (by decide) (by decide) (by decide) ?_
    refine lv_aload_n hx hb dX11_pieces_36 rfl (lv_at hl 0 rfl) ?_
    refine x_getR E h (fr_vh_cutting g) rfl hwX11 (by decide) (by decide +kernel) dX11_pieces_37 ?_
    obtain ⟨n2, b2, e2⟩ := hI1.1 5 48 rfl
    refine x_getIN E h (fi_cu_pieces g) rfl hwX2 (by decide) (by decide +kernel) (v := nI n2) e2 dX11_pieces_40 ?_
    replace hR := bd_to hR e2
    subst hPQ
    exact x_iret E h ⟨hR0.trans hR.symm, hI1, hF1⟩ dX11_pieces_43
  replace hR := it_f hR c_5_0
  by_cases c_5_1 : p1 = 1
  · refine x_topI (v2 := 1) c_5_1 ?_
    replace hR := it_t hR c_5_1
    refine lv_tableIn (tgt := 44) (off := 39) hx hb dX11_pieces_5 (by decide) (by decide) (by decide) (by decide) ?_
    refine lv_aload_n hx hb dX11_pieces_44 rfl (lv_at hl 0 rfl) ?_
    refine x_getR E h (fr_vh_cutting g) rfl hwX11 (by decide) (by decide +kernel) dX11_pieces_45 ?_
    obtain ⟨x3, e3⟩ : ∃ x, s1.1 6 = x := ⟨_, rfl⟩
    refine x_getIN E h (fi_cu_stretches g) rfl hwX2 (by decide) (by decide +kernel) (v := x3) e3 dX11_pieces_48 ?_
    replace hR := bd_to hR e3
    subst hPQ
    exact x_iret E h ⟨hR0.trans hR.symm, hI1, hF1⟩ dX11_pieces_51
  replace hR := it_f hR c_5_1
  by_cases c_5_2 : p1 = 2
  · refine x_topI (v2 := 2) c_5_2 ?_
    replace hR := it_t hR c_5_2
    refine lv_tableIn (tgt := 52) (off := 47) hx hb dX11_pieces_5 (by decide) (by decide) (by decide) (by decide) ?_
    refine lv_aload_n hx hb dX11_pieces_52 rfl (lv_at hl 0 rfl) ?_
    refine x_getR E h (fr_vh_cutting g) rfl hwX11 (by decide) (by decide +kernel) dX11_pieces_53 ?_
    obtain ⟨x4, e4⟩ : ∃ x, s1.1 7 = x := ⟨_, rfl⟩
    refine x_getIN E h (fi_cu_total g) rfl hwX2 (by decide) (by decide +kernel) (v := x4) e4 dX11_pieces_56 ?_
    replace hR := bd_to hR e4
    subst hPQ
    exact x_iret E h ⟨hR0.trans hR.symm, hI1, hF1⟩ dX11_pieces_59
  replace hR := it_f hR c_5_2
  by_cases c_5_3 : p1 = 3
  · refine x_topI (v2 := 3) c_5_3 ?_
    replace hR := it_t hR c_5_3
    refine lv_tableIn (tgt := 60) (off := 55) hx hb dX11_pieces_5 (by decide) (by decide) (by decide) (by decide) ?_
    refine lv_aload_n hx hb dX11_pieces_60 rfl (lv_at hl 0 rfl) ?_
    refine x_getR E h (fr_vh_cutting g) rfl hwX11 (by decide) (by decide +kernel) dX11_pieces_61 ?_
    obtain ⟨x5, e5⟩ : ∃ x, s1.1 8 = x := ⟨_, rfl⟩
    refine x_getIN E h (fi_cu_heardRows g) rfl hwX2 (by decide) (by decide +kernel) (v := x5) e5 dX11_pieces_64 ?_
    replace hR := bd_to hR e5
    subst hPQ
    exact x_iret E h ⟨hR0.trans hR.symm, hI1, hF1⟩ dX11_pieces_67
  replace hR := it_f hR c_5_3
  refine lv_tableOut (tgt := 68) hx hb dX11_pieces_5 (x_out3 c_5_0 c_5_1 c_5_2 c_5_3) (by decide) ?_
  refine lv_iconst (v := (-1)) hx hb dX11_pieces_68 (by decide) ?_
  subst hPQ
  exact x_iret E h ⟨hR0.trans hR.symm, hI1, hF1⟩ dX11_pieces_69
set_option maxHeartbeats 4000000 in
set_option maxRecDepth 100000 in
theorem aX11_isPiece_0 (l : Launch) (g : CX) (σ : ST) (hI : INV σ) (p1 : Int32) : XM l g yX11_isPiece wsX11_isPiece { frames := 5, cells := 0, slots := 0, locals := 121 } [.ref (g.2.1 0), .int p1] σ (XQi g (fun r σ' => fX11_isPiece_0 p1 σ = (r, σ') ∧ ((1 = r ∧ ∃ n P : Nat, σ'.1 22 = 0 ∧ σ'.1 5 = nI P ∧ P ≤ 48 ∧ n < P ∧ p1 = nI n) ∨ (0 = r)) ∧ INV σ' ∧ Fr [(3, 8), (22, 22)] [(8, 19)] σ σ')) := by
  refine x_met (own := RX11) (cc := cX11_isPiece) (maxL := 2) (ret := (some .boolean)) (lv := [(0, .ref (g.2.1 0)), (1, .int p1)]) (by decide) rfl rfl (Nat.le_of_ble_eq_true rfl) rfl ?_
  intro p e s m args below meth c ls E h hl
  have hx := E.1
  have hb := E.2.1
  have hown := E.2.2.2.1
  have hts := E.2.2.2.2.1
  have hF : Fr [(3, 8), (22, 22)] [(8, 19)] σ σ := Fr.refl σ
  obtain ⟨R, hR0⟩ : ∃ R, fX11_isPiece_0 p1 σ = R := ⟨_, rfl⟩
  have hR : fX11_isPiece_0b0 p1 σ = R := hR0
  have hwX11 : ∀ w ∈ wsX110, w ∈ wsX11_isPiece := by decide +kernel
  have hwX2 : ∀ w ∈ wsX20, w ∈ wsX11_isPiece := by decide +kernel
  generalize hPQ : XQi g (fun r σ' => fX11_isPiece_0 p1 σ = (r, σ') ∧ ((1 = r ∧ ∃ n P : Nat, σ'.1 22 = 0 ∧ σ'.1 5 = nI P ∧ P ≤ 48 ∧ n < P ∧ p1 = nI n) ∨ (0 = r)) ∧ INV σ' ∧ Fr [(3, 8), (22, 22)] [(8, 19)] σ σ') = PQz
  refine lv_aload_n hx hb dX11_isPiece_0 rfl (lv_at hl 0 rfl) ?_
  refine x_vv E h (na := 0) (As := []) (aX11_cutNow_0 l g σ hI) (oc_vh g) rfl gX11_isPiece_X11_cutNow rfl ⟨rfl, rfl⟩ rfl (by decide +kernel) ⟨Nat.le_of_ble_eq_true rfl, Nat.le_of_ble_eq_true rfl⟩ hl.1 rfl (Nat.le_of_ble_eq_true rfl) dX11_isPiece_1 ⟨Nat.le_of_ble_eq_true rfl, Nat.le_of_ble_eq_true rfl⟩ (fun s1 H locs q1 h => ?_)
  obtain ⟨x1, d1, hI1, f1⟩ := q1
  replace hR := bd_to hR x1
  have hF1 := hF.call f1 (I := [(3, 8), (22, 22)]) (J := [(8, 19)]) rfl rfl
  have u1_0_0 := d1
  refine lv_iload_n hx hb dX11_isPiece_4 rfl (lv_at hl 1 rfl) ?_
  refine lv_iconst (v := 0) hx hb dX11_isPiece_5 (by decide) ?_
  refine lv_aload_n hx hb dX11_isPiece_6 rfl (lv_at hl 0 rfl) ?_
  refine x_getR E h (fr_vh_cutting g) rfl hwX11 (by decide) (by decide +kernel) dX11_isPiece_7 ?_
  obtain ⟨n2, b2, e2⟩ := hI1.1 5 48 rfl
  refine x_getIN E h (fi_cu_pieces g) rfl hwX2 (by decide) (by decide +kernel) (v := nI n2) e2 dX11_isPiece_10 ?_
  replace hR := bd_to hR e2
  refine lv_iconst (v := 1) hx hb dX11_isPiece_13 (by decide) ?_
  refine lv_isub hx hb dX11_isPiece_14 ?_
  replace hR := bd_to hR rfl
  refine x_si E h (na := 3) (As := [.int p1, .int 0, .int (nI n2 - 1)]) (aX11_within_0 l g s1 hI1 p1 0 (nI n2 - 1)) gX11_isPiece_X11_within rfl ⟨rfl, rfl⟩ rfl (by decide +kernel) ⟨Nat.le_of_ble_eq_true rfl, Nat.le_of_ble_eq_true rfl⟩ hl.1 rfl (Nat.le_of_ble_eq_true rfl) dX11_isPiece_15 ⟨Nat.le_of_ble_eq_true rfl, Nat.le_of_ble_eq_true rfl⟩ (fun r3 s3 H locs q3 h => ?_)
  obtain ⟨x3, d3, rfl⟩ := q3
  replace hR := bd_to hR x3
  rcases d3 with ⟨rfl, u3_0_0, u3_0_1⟩ | rfl
  · skip
    obtain ⟨n4, b4, rfl⟩ := y_rnltM (N := n2) (y_lo1 u3_0_0 (by decide)) u3_0_1 (by omega)
    have b5 : 0 ≤ n4 := y_nlt (a := n4) (b := 0) (by omega) (by omega) u3_0_0
    subst hPQ
    exact x_zret E h rfl ⟨hR0.trans hR.symm, (Or.inl ⟨rfl, n4, n2, u1_0_0, e2, (by omega), (by omega), rfl⟩), hI1, hF1⟩ dX11_isPiece_18
  · skip
    subst hPQ
    exact x_zret E h rfl ⟨hR0.trans hR.symm, (Or.inr (rfl)), hI1, hF1⟩ dX11_isPiece_18
set_option maxHeartbeats 4000000 in
set_option maxRecDepth 100000 in
theorem aX2_middleOf_0 (l : Launch) (g : CX) (σ : ST) (hI : INV σ) (p1 : Int32) (p2 : Int32) : XM l g yX2_middleOf wsX2_middleOf { frames := 0, cells := 0, slots := 0, locals := 0 } [.ref (g.2.1 16), .int p1, .int p2] σ (XQi g (fun r σ' => fX2_middleOf_0 p1 p2 σ = r ∧ σ = σ')) := by
  refine x_met (own := RX2) (cc := cX2_middleOf) (maxL := 3) (ret := (some .int)) (lv := [(0, .ref (g.2.1 16)), (1, .int p1), (2, .int p2)]) (by decide) rfl rfl (Nat.le_of_ble_eq_true rfl) rfl ?_
  intro p e s m args below meth c ls E h hl
  have hx := E.1
  have hb := E.2.1
  have hown := E.2.2.2.1
  have hts := E.2.2.2.2.1
  obtain ⟨R, hR0⟩ : ∃ R, fX2_middleOf_0 p1 p2 σ = R := ⟨_, rfl⟩
  have hR : fX2_middleOf_0b0 p1 p2 σ = R := hR0
  have hwX2 : ∀ w ∈ wsX20, w ∈ wsX2_middleOf := by decide +kernel
  generalize hPQ : XQi g (fun r σ' => fX2_middleOf_0 p1 p2 σ = r ∧ σ = σ') = PQz
  refine lv_iload_n hx hb dX2_middleOf_0 rfl (lv_at hl 1 rfl) ?_
  refine lv_if_lt (tgt := 34) hx hb dX2_middleOf_1 (by decide) (fun c1 => ?_) (fun c1 => ?_)
  · skip
    replace hR := it_t hR c1
    refine lv_iconst (v := 0) hx hb dX2_middleOf_34 (by decide) ?_
    replace hR : fX2_middleOf_0b35 0 σ = R := hR
    subst hPQ
    exact x_iret E h ⟨hR0.trans hR.symm, rfl⟩ dX2_middleOf_35
  · skip
    replace hR := it_f hR c1
    refine lv_iload_n hx hb dX2_middleOf_4 rfl (lv_at hl 1 rfl) ?_
    refine lv_aload_n hx hb dX2_middleOf_5 rfl (lv_at hl 0 rfl) ?_
    obtain ⟨n4, b4, e4⟩ := hI.1 5 48 rfl
    refine x_getI E h (fi_cu_pieces g) rfl hwX2 (by decide) (by decide +kernel) (v := nI n4) e4 dX2_middleOf_6 ?_
    replace hR := bd_to hR e4
    refine lv_icmp_ge (tgt := 34) hx hb dX2_middleOf_9 (by decide) (fun c5 => ?_) (fun c5 => ?_)
    · skip
      replace hR := it_t hR c5
      refine lv_iconst (v := 0) hx hb dX2_middleOf_34 (by decide) ?_
      replace hR : fX2_middleOf_0b35 0 σ = R := hR
      subst hPQ
      exact x_iret E h ⟨hR0.trans hR.symm, rfl⟩ dX2_middleOf_35
    · skip
      replace hR := it_f hR c5
      obtain ⟨n8, b8, rfl⟩ := y_rnle (N := n4) (y_lo1 c1 (by decide)) c5 (by omega)
      have b9 : 0 ≤ n8 := y_nlt (a := n8) (b := 0) (by omega) (by omega) c1
      have b10 : n8 < n4 := y_nle (a := n4) (b := n8) (by omega) (by omega) c5
      refine lv_iload_n hx hb dX2_middleOf_12 rfl (lv_at hl 2 rfl) ?_
      refine lv_if_lt (tgt := 34) hx hb dX2_middleOf_13 (by decide) (fun c11 => ?_) (fun c11 => ?_)
      · skip
        replace hR := it_t hR c11
        refine lv_iconst (v := 0) hx hb dX2_middleOf_34 (by decide) ?_
        replace hR : fX2_middleOf_0b35 0 σ = R := hR
        subst hPQ
        exact x_iret E h ⟨hR0.trans hR.symm, rfl⟩ dX2_middleOf_35
      · skip
        replace hR := it_f hR c11
        refine lv_iload_n hx hb dX2_middleOf_16 rfl (lv_at hl 2 rfl) ?_
        refine lv_iconst (v := 4) hx hb dX2_middleOf_17 (by decide) ?_
        refine lv_icmp_ge (tgt := 34) hx hb dX2_middleOf_18 (by decide) (fun c14 => ?_) (fun c14 => ?_)
        · skip
          replace hR := it_t hR c14
          refine lv_iconst (v := 0) hx hb dX2_middleOf_34 (by decide) ?_
          replace hR : fX2_middleOf_0b35 0 σ = R := hR
          subst hPQ
          exact x_iret E h ⟨hR0.trans hR.symm, rfl⟩ dX2_middleOf_35
        · skip
          replace hR := it_f hR c14
          obtain ⟨n17, b17, rfl⟩ := y_rnle (N := 4) (y_lo1 c11 (by decide)) c14 (by omega)
          have b18 : 0 ≤ n17 := y_nlt (a := n17) (b := 0) (by omega) (by omega) c11
          have b19 : n17 < 4 := y_nle (a := 4) (b := n17) (by omega) (by omega) c14
          refine lv_aload_n hx hb dX2_middleOf_21 rfl (lv_at hl 0 rfl) ?_
          refine x_getR E h (fr_cu_middles g) rfl hwX2 (by decide) (by decide +kernel) dX2_middleOf_22 ?_
          refine lv_iload_n hx hb dX2_middleOf_25 rfl (lv_at hl 1 rfl) ?_
          refine lv_iconst (v := 4) hx hb dX2_middleOf_26 (by decide) ?_
          refine lv_imul hx hb dX2_middleOf_27 ?_
          refine x_topI (v2 := nI (n8 * 4)) (pk_mul n8 4) ?_
          replace hR := bd_to hR (pk_mul n8 4)
          refine lv_iload_n hx hb dX2_middleOf_28 rfl (lv_at hl 2 rfl) ?_
          refine lv_iadd hx hb dX2_middleOf_29 ?_
          refine x_topI (v2 := nI ((n8 * 4) + n17)) (nI_add (n8 * 4) n17) ?_
          replace hR := bd_to hR (nI_add (n8 * 4) n17)
          refine x_ldI E h (ia_cu_middles g) (i := nI ((n8 * 4) + n17)) (vp_in_nI (by omega) (by decide)) (v := σ.2.2 15 ((n8 * 4) + n17)) (congrArg (σ.2.2 15) (nI_clamp (n := (n8 * 4) + n17) (by omega))) dX2_middleOf_30 ?_
          replace hR := bd_to hR (congrArg (σ.2.2 15) (nI_clamp (n := (n8 * 4) + n17) (by omega)))
          refine lv_goto (tgt := 35) hx hb dX2_middleOf_31 (by decide) ?_
          subst hPQ
          exact x_iret E h ⟨hR0.trans hR.symm, rfl⟩ dX2_middleOf_35
set_option maxHeartbeats 4000000 in
set_option maxRecDepth 100000 in
theorem aX11_piece_0 (l : Launch) (g : CX) (σ : ST) (hI : INV σ) (p1 : Int32) (p2 : Int32) : XM l g yX11_piece wsX11_piece { frames := 6, cells := 0, slots := 0, locals := 142 } [.ref (g.2.1 0), .int p1, .int p2] σ (XQi g (fun r σ' => fX11_piece_0 p1 p2 σ = (r, σ') ∧ INV σ' ∧ Fr [(3, 8), (22, 22)] [(8, 19)] σ σ')) := by
  refine x_met (own := RX11) (cc := cX11_piece) (maxL := 3) (ret := (some .int)) (lv := [(0, .ref (g.2.1 0)), (1, .int p1), (2, .int p2)]) (by decide) rfl rfl (Nat.le_of_ble_eq_true rfl) rfl ?_
  intro p e s m args below meth c ls E h hl
  have hx := E.1
  have hb := E.2.1
  have hown := E.2.2.2.1
  have hts := E.2.2.2.2.1
  have hF : Fr [(3, 8), (22, 22)] [(8, 19)] σ σ := Fr.refl σ
  obtain ⟨R, hR0⟩ : ∃ R, fX11_piece_0 p1 p2 σ = R := ⟨_, rfl⟩
  have hR : fX11_piece_0b0 p1 p2 σ = R := hR0
  have hwX11 : ∀ w ∈ wsX110, w ∈ wsX11_piece := by decide +kernel
  have hwX2 : ∀ w ∈ wsX20, w ∈ wsX11_piece := by decide +kernel
  generalize hPQ : XQi g (fun r σ' => fX11_piece_0 p1 p2 σ = (r, σ') ∧ INV σ' ∧ Fr [(3, 8), (22, 22)] [(8, 19)] σ σ') = PQz
  refine lv_aload_n hx hb dX11_piece_0 rfl (lv_at hl 0 rfl) ?_
  refine lv_iload_n hx hb dX11_piece_1 rfl (lv_at hl 1 rfl) ?_
  refine x_vi E h (na := 1) (As := [.int p1]) (aX11_isPiece_0 l g σ hI p1) (oc_vh g) rfl gX11_piece_X11_isPiece rfl ⟨rfl, rfl⟩ rfl (by decide +kernel) ⟨Nat.le_of_ble_eq_true rfl, Nat.le_of_ble_eq_true rfl⟩ hl.1 rfl (Nat.le_of_ble_eq_true rfl) dX11_piece_2 ⟨Nat.le_of_ble_eq_true rfl, Nat.le_of_ble_eq_true rfl⟩ (fun r1 s1 H locs q1 h => ?_)
  obtain ⟨x1, d1, hI1, f1⟩ := q1
  replace hR := bp_to hR x1
  have hF1 := hF.call f1 (I := [(3, 8), (22, 22)]) (J := [(8, 19)]) rfl rfl
  rcases d1 with ⟨rfl, m1_0n, m1_0P, u1_0_0, u1_0_1, u1_0_2, u1_0_3, rfl⟩ | rfl
  · skip
    replace hR := it_f hR (by decide)
    refine lv_if_ne (tgt := 10) hx hb dX11_piece_5 (by decide) (fun _ => ?_) (fun c => absurd c (by decide))
    refine lv_iload_n hx hb dX11_piece_10 rfl (lv_at hl 2 rfl) ?_
    by_cases c_11_0 : p2 = 0
    · refine x_topI (v2 := 0) c_11_0 ?_
      replace hR := it_t hR c_11_0
      refine lv_tableIn (tgt := 52) (off := 41) hx hb dX11_piece_11 (by decide) (by decide) (by decide) (by decide) ?_
      refine lv_aload_n hx hb dX11_piece_52 rfl (lv_at hl 0 rfl) ?_
      refine x_getR E h (fr_vh_cutting g) rfl hwX11 (by decide) (by decide +kernel) dX11_piece_53 ?_
      refine x_getRN E h (fr_cu_first g) rfl hwX2 (by decide) (by decide +kernel) dX11_piece_56 ?_
      refine lv_iload_n hx hb dX11_piece_59 rfl (lv_at hl 1 rfl) ?_
      refine x_ldI E h (ia_cu_first g) (i := nI m1_0n) (vp_in_nI (by omega) (by decide)) (v := s1.2.2 12 m1_0n) (congrArg (s1.2.2 12) (nI_clamp (n := m1_0n) (by omega))) dX11_piece_60 ?_
      replace hR := bd_to hR (congrArg (s1.2.2 12) (nI_clamp (n := m1_0n) (by omega)))
      subst hPQ
      exact x_iret E h ⟨hR0.trans hR.symm, hI1, hF1⟩ dX11_piece_61
    replace hR := it_f hR c_11_0
    by_cases c_11_1 : p2 = 1
    · refine x_topI (v2 := 1) c_11_1 ?_
      replace hR := it_t hR c_11_1
      refine lv_tableIn (tgt := 62) (off := 51) hx hb dX11_piece_11 (by decide) (by decide) (by decide) (by decide) ?_
      refine lv_aload_n hx hb dX11_piece_62 rfl (lv_at hl 0 rfl) ?_
      refine x_getR E h (fr_vh_cutting g) rfl hwX11 (by decide) (by decide +kernel) dX11_piece_63 ?_
      refine x_getRN E h (fr_cu_size g) rfl hwX2 (by decide) (by decide +kernel) dX11_piece_66 ?_
      refine lv_iload_n hx hb dX11_piece_69 rfl (lv_at hl 1 rfl) ?_
      refine x_ldI E h (ia_cu_size g) (i := nI m1_0n) (vp_in_nI (by omega) (by decide)) (v := s1.2.2 13 m1_0n) (congrArg (s1.2.2 13) (nI_clamp (n := m1_0n) (by omega))) dX11_piece_70 ?_
      replace hR := bd_to hR (congrArg (s1.2.2 13) (nI_clamp (n := m1_0n) (by omega)))
      subst hPQ
      exact x_iret E h ⟨hR0.trans hR.symm, hI1, hF1⟩ dX11_piece_71
    replace hR := it_f hR c_11_1
    by_cases c_11_2 : p2 = 2
    · refine x_topI (v2 := 2) c_11_2 ?_
      replace hR := it_t hR c_11_2
      refine lv_tableIn (tgt := 72) (off := 61) hx hb dX11_piece_11 (by decide) (by decide) (by decide) (by decide) ?_
      refine lv_aload_n hx hb dX11_piece_72 rfl (lv_at hl 0 rfl) ?_
      refine x_getR E h (fr_vh_cutting g) rfl hwX11 (by decide) (by decide +kernel) dX11_piece_73 ?_
      refine x_getRN E h (fr_cu_spread g) rfl hwX2 (by decide) (by decide +kernel) dX11_piece_76 ?_
      refine lv_iload_n hx hb dX11_piece_79 rfl (lv_at hl 1 rfl) ?_
      refine x_ldI E h (ia_cu_spread g) (i := nI m1_0n) (vp_in_nI (by omega) (by decide)) (v := s1.2.2 14 m1_0n) (congrArg (s1.2.2 14) (nI_clamp (n := m1_0n) (by omega))) dX11_piece_80 ?_
      replace hR := bd_to hR (congrArg (s1.2.2 14) (nI_clamp (n := m1_0n) (by omega)))
      subst hPQ
      exact x_iret E h ⟨hR0.trans hR.symm, hI1, hF1⟩ dX11_piece_81
    replace hR := it_f hR c_11_2
    by_cases c_11_3 : p2 = 3
    · refine x_topI (v2 := 3) c_11_3 ?_
      replace hR := it_t hR c_11_3
      refine lv_tableIn (tgt := 82) (off := 71) hx hb dX11_piece_11 (by decide) (by decide) (by decide) (by decide) ?_
      refine lv_aload_n hx hb dX11_piece_82 rfl (lv_at hl 0 rfl) ?_
      refine x_getR E h (fr_vh_cutting g) rfl hwX11 (by decide) (by decide +kernel) dX11_piece_83 ?_
      refine lv_iload_n hx hb dX11_piece_86 rfl (lv_at hl 1 rfl) ?_
      refine lv_iload_n hx hb dX11_piece_87 rfl (lv_at hl 2 rfl) ?_
      refine lv_iconst (v := 3) hx hb dX11_piece_88 (by decide) ?_
      refine lv_isub hx hb dX11_piece_89 ?_
      refine lv_topi (fun x2 e2 => ?_)
      replace hR := bd_to hR e2.symm
      refine x_vi E h (na := 2) (As := [.int (nI m1_0n), .int x2]) (aX2_middleOf_0 l g s1 hI1 (nI m1_0n) x2) (oc_cu g) rfl gX11_piece_X2_middleOf rfl ⟨rfl, rfl⟩ rfl (by decide +kernel) ⟨Nat.le_of_ble_eq_true rfl, Nat.le_of_ble_eq_true rfl⟩ hl.1 rfl (Nat.le_of_ble_eq_true rfl) dX11_piece_90 ⟨Nat.le_of_ble_eq_true rfl, Nat.le_of_ble_eq_true rfl⟩ (fun r3 s3 H locs q3 h => ?_)
      obtain ⟨x3, rfl⟩ := q3
      replace hR := bd_to hR x3
      subst hPQ
      exact x_iret E h ⟨hR0.trans hR.symm, hI1, hF1⟩ dX11_piece_93
    replace hR := it_f hR c_11_3
    by_cases c_11_4 : p2 = 4
    · refine x_topI (v2 := 4) c_11_4 ?_
      replace hR := it_t hR c_11_4
      refine lv_tableIn (tgt := 82) (off := 71) hx hb dX11_piece_11 (by decide) (by decide) (by decide) (by decide) ?_
      refine lv_aload_n hx hb dX11_piece_82 rfl (lv_at hl 0 rfl) ?_
      refine x_getR E h (fr_vh_cutting g) rfl hwX11 (by decide) (by decide +kernel) dX11_piece_83 ?_
      refine lv_iload_n hx hb dX11_piece_86 rfl (lv_at hl 1 rfl) ?_
      refine lv_iload_n hx hb dX11_piece_87 rfl (lv_at hl 2 rfl) ?_
      refine lv_iconst (v := 3) hx hb dX11_piece_88 (by decide) ?_
      refine lv_isub hx hb dX11_piece_89 ?_
      refine lv_topi (fun x4 e4 => ?_)
      replace hR := bd_to hR e4.symm
      refine x_vi E h (na := 2) (As := [.int (nI m1_0n), .int x4]) (aX2_middleOf_0 l g s1 hI1 (nI m1_0n) x4) (oc_cu g) rfl gX11_piece_X2_middleOf rfl ⟨rfl, rfl⟩ rfl (by decide +kernel) ⟨Nat.le_of_ble_eq_true rfl, Nat.le_of_ble_eq_true rfl⟩ hl.1 rfl (Nat.le_of_ble_eq_true rfl) dX11_piece_90 ⟨Nat.le_of_ble_eq_true rfl, Nat.le_of_ble_eq_true rfl⟩ (fun r5 s5 H locs q5 h => ?_)
      obtain ⟨x5, rfl⟩ := q5
      replace hR := bd_to hR x5
      subst hPQ
      exact x_iret E h ⟨hR0.trans hR.symm, hI1, hF1⟩ dX11_piece_93
    replace hR := it_f hR c_11_4
    by_cases c_11_5 : p2 = 5
    · refine x_topI (v2 := 5) c_11_5 ?_
      replace hR := it_t hR c_11_5
      refine lv_tableIn (tgt := 82) (off := 71) hx hb dX11_piece_11 (by decide) (by decide) (by decide) (by decide) ?_
      refine lv_aload_n hx hb dX11_piece_82 rfl (lv_at hl 0 rfl) ?_
      refine x_getR E h (fr_vh_cutting g) rfl hwX11 (by decide) (by decide +kernel) dX11_piece_83 ?_
      refine lv_iload_n hx hb dX11_piece_86 rfl (lv_at hl 1 rfl) ?_
      refine lv_iload_n hx hb dX11_piece_87 rfl (lv_at hl 2 rfl) ?_
      refine lv_iconst (v := 3) hx hb dX11_piece_88 (by decide) ?_
      refine lv_isub hx hb dX11_piece_89 ?_
      refine lv_topi (fun x6 e6 => ?_)
      replace hR := bd_to hR e6.symm
      refine x_vi E h (na := 2) (As := [.int (nI m1_0n), .int x6]) (aX2_middleOf_0 l g s1 hI1 (nI m1_0n) x6) (oc_cu g) rfl gX11_piece_X2_middleOf rfl ⟨rfl, rfl⟩ rfl (by decide +kernel) ⟨Nat.le_of_ble_eq_true rfl, Nat.le_of_ble_eq_true rfl⟩ hl.1 rfl (Nat.le_of_ble_eq_true rfl) dX11_piece_90 ⟨Nat.le_of_ble_eq_true rfl, Nat.le_of_ble_eq_true rfl⟩ (fun r7 s7 H locs q7 h => ?_)
      obtain ⟨x7, rfl⟩ := q7
      replace hR := bd_to hR x7
      subst hPQ
      exact x_iret E h ⟨hR0.trans hR.symm, hI1, hF1⟩ dX11_piece_93
    replace hR := it_f hR c_11_5
    by_cases c_11_6 : p2 = 6
    · refine x_topI (v2 := 6) c_11_6 ?_
      replace hR := it_t hR c_11_6
      refine lv_tableIn (tgt := 82) (off := 71) hx hb dX11_piece_11 (by decide) (by decide) (by decide) (by decide) ?_
      refine lv_aload_n hx hb dX11_piece_82 rfl (lv_at hl 0 rfl) ?_
      refine x_getR E h (fr_vh_cutting g) rfl hwX11 (by decide) (by decide +kernel) dX11_piece_83 ?_
      refine lv_iload_n hx hb dX11_piece_86 rfl (lv_at hl 1 rfl) ?_
      refine lv_iload_n hx hb dX11_piece_87 rfl (lv_at hl 2 rfl) ?_
      refine lv_iconst (v := 3) hx hb dX11_piece_88 (by decide) ?_
      refine lv_isub hx hb dX11_piece_89 ?_
      refine lv_topi (fun x8 e8 => ?_)
      replace hR := bd_to hR e8.symm
      refine x_vi E h (na := 2) (As := [.int (nI m1_0n), .int x8]) (aX2_middleOf_0 l g s1 hI1 (nI m1_0n) x8) (oc_cu g) rfl gX11_piece_X2_middleOf rfl ⟨rfl, rfl⟩ rfl (by decide +kernel) ⟨Nat.le_of_ble_eq_true rfl, Nat.le_of_ble_eq_true rfl⟩ hl.1 rfl (Nat.le_of_ble_eq_true rfl) dX11_piece_90 ⟨Nat.le_of_ble_eq_true rfl, Nat.le_of_ble_eq_true rfl⟩ (fun r9 s9 H locs q9 h => ?_)
      obtain ⟨x9, rfl⟩ := q9
      replace hR := bd_to hR x9
      subst hPQ
      exact x_iret E h ⟨hR0.trans hR.symm, hI1, hF1⟩ dX11_piece_93
    replace hR := it_f hR c_11_6
    refine lv_tableOut (tgt := 94) hx hb dX11_piece_11 (x_out6 c_11_0 c_11_1 c_11_2 c_11_3 c_11_4 c_11_5 c_11_6) (by decide) ?_
    refine lv_iconst (v := (-1)) hx hb dX11_piece_94 (by decide) ?_
    subst hPQ
    exact x_iret E h ⟨hR0.trans hR.symm, hI1, hF1⟩ dX11_piece_95
  · skip
    replace hR := it_t hR (by decide)
    refine lv_if_ne (tgt := 10) hx hb dX11_piece_5 (by decide) (fun c => absurd (by decide) c) (fun _ => ?_)
    refine lv_iconst (v := (-1)) hx hb dX11_piece_8 (by decide) ?_
    subst hPQ
    exact x_iret E h ⟨hR0.trans hR.symm, hI1, hF1⟩ dX11_piece_9
set_option maxHeartbeats 4000000 in
set_option maxRecDepth 100000 in
theorem aX11_of_0 (l : Launch) (g : CX) (σ : ST) (hI : INV σ) (p1 : Int32) : XM l g yX11_of wsX11_of { frames := 5, cells := 0, slots := 0, locals := 121 } [.ref (g.2.1 0), .int p1] σ (XQi g (fun r σ' => fX11_of_0 p1 σ = (r, σ') ∧ INV σ' ∧ Fr [(3, 8), (22, 22)] [(8, 19)] σ σ')) := by
  refine x_met (own := RX11) (cc := cX11_of) (maxL := 2) (ret := (some .int)) (lv := [(0, .ref (g.2.1 0)), (1, .int p1)]) (by decide) rfl rfl (Nat.le_of_ble_eq_true rfl) rfl ?_
  intro p e s m args below meth c ls E h hl
  have hx := E.1
  have hb := E.2.1
  have hown := E.2.2.2.1
  have hts := E.2.2.2.2.1
  have hF : Fr [(3, 8), (22, 22)] [(8, 19)] σ σ := Fr.refl σ
  obtain ⟨R, hR0⟩ : ∃ R, fX11_of_0 p1 σ = R := ⟨_, rfl⟩
  have hR : fX11_of_0b0 p1 σ = R := hR0
  have hwX11 : ∀ w ∈ wsX110, w ∈ wsX11_of := by decide +kernel
  have hwX2 : ∀ w ∈ wsX20, w ∈ wsX11_of := by decide +kernel
  have hwX7 : ∀ w ∈ wsX70, w ∈ wsX11_of := by decide +kernel
  generalize hPQ : XQi g (fun r σ' => fX11_of_0 p1 σ = (r, σ') ∧ INV σ' ∧ Fr [(3, 8), (22, 22)] [(8, 19)] σ σ') = PQz
  refine lv_iload_n hx hb dX11_of_0 rfl (lv_at hl 1 rfl) ?_
  refine lv_iconst (v := 0) hx hb dX11_of_1 (by decide) ?_
  refine lv_aload_n hx hb dX11_of_2 rfl (lv_at hl 0 rfl) ?_
  refine x_getR E h (fr_vh_book g) rfl hwX11 (by decide) (by decide +kernel) dX11_of_3 ?_
  obtain ⟨n1, b1, e1⟩ := hI.1 2 48 rfl
  refine x_getIN E h (fi_bk_rows g) rfl hwX7 (by decide) (by decide +kernel) (v := nI n1) e1 dX11_of_6 ?_
  replace hR := bd_to hR e1
  refine lv_iconst (v := 1) hx hb dX11_of_9 (by decide) ?_
  refine lv_isub hx hb dX11_of_10 ?_
  replace hR := bd_to hR rfl
  refine x_si E h (na := 3) (As := [.int p1, .int 0, .int (nI n1 - 1)]) (aX11_within_0 l g σ hI p1 0 (nI n1 - 1)) gX11_of_X11_within rfl ⟨rfl, rfl⟩ rfl (by decide +kernel) ⟨Nat.le_of_ble_eq_true rfl, Nat.le_of_ble_eq_true rfl⟩ hl.1 rfl (Nat.le_of_ble_eq_true rfl) dX11_of_11 ⟨Nat.le_of_ble_eq_true rfl, Nat.le_of_ble_eq_true rfl⟩ (fun r2 s2 H locs q2 h => ?_)
  obtain ⟨x2, d2, rfl⟩ := q2
  replace hR := bd_to hR x2
  rcases d2 with ⟨rfl, u2_0_0, u2_0_1⟩ | rfl
  · skip
    obtain ⟨n3, b3, rfl⟩ := y_rnltM (N := n1) (y_lo1 u2_0_0 (by decide)) u2_0_1 (by omega)
    have b4 : 0 ≤ n3 := y_nlt (a := n3) (b := 0) (by omega) (by omega) u2_0_0
    replace hR := it_f hR (by decide)
    refine lv_if_ne (tgt := 19) hx hb dX11_of_14 (by decide) (fun _ => ?_) (fun c => absurd c (by decide))
    refine lv_aload_n hx hb dX11_of_19 rfl (lv_at hl 0 rfl) ?_
    refine x_vv E h (na := 0) (As := []) (aX11_cutNow_0 l g σ hI) (oc_vh g) rfl gX11_of_X11_cutNow rfl ⟨rfl, rfl⟩ rfl (by decide +kernel) ⟨Nat.le_of_ble_eq_true rfl, Nat.le_of_ble_eq_true rfl⟩ hl.1 rfl (Nat.le_of_ble_eq_true rfl) dX11_of_20 ⟨Nat.le_of_ble_eq_true rfl, Nat.le_of_ble_eq_true rfl⟩ (fun s5 H locs q5 h => ?_)
    obtain ⟨x5, d5, hI5, f5⟩ := q5
    replace hR := bd_to hR x5
    have hF5 := hF.call f5 (I := [(3, 8), (22, 22)]) (J := [(8, 19)]) rfl rfl
    have e6 : s5.1 2 = nI n1 := ((f5.1 2 rfl)).trans e1
    have u5_0_0 := d5
    refine lv_aload_n hx hb dX11_of_23 rfl (lv_at hl 0 rfl) ?_
    refine x_getR E h (fr_vh_cutting g) rfl hwX11 (by decide) (by decide +kernel) dX11_of_24 ?_
    refine x_getRN E h (fr_cu_pieceOf g) rfl hwX2 (by decide) (by decide +kernel) dX11_of_27 ?_
    refine lv_iload_n hx hb dX11_of_30 rfl (lv_at hl 1 rfl) ?_
    refine x_ldI E h (ia_cu_pieceOf g) (i := nI n3) (vp_in_nI (by omega) (by decide)) (v := s5.2.2 17 n3) (congrArg (s5.2.2 17) (nI_clamp (n := n3) (by omega))) dX11_of_31 ?_
    replace hR := bd_to hR (congrArg (s5.2.2 17) (nI_clamp (n := n3) (by omega)))
    subst hPQ
    exact x_iret E h ⟨hR0.trans hR.symm, hI5, hF5⟩ dX11_of_32
  · skip
    replace hR := it_t hR (by decide)
    refine lv_if_ne (tgt := 19) hx hb dX11_of_14 (by decide) (fun c => absurd (by decide) c) (fun _ => ?_)
    refine lv_iconst (v := (-1)) hx hb dX11_of_17 (by decide) ?_
    subst hPQ
    exact x_iret E h ⟨hR0.trans hR.symm, hI, hF⟩ dX11_of_18
set_option maxHeartbeats 4000000 in
set_option maxRecDepth 100000 in
theorem aX11_cutNow_1 (l : Launch) (g : CX) (σ : ST) (hI : INV σ) (eF22 : σ.1 22 = 0) : XM l g yX11_cutNow wsX11_cutNow { frames := 0, cells := 0, slots := 0, locals := 0 } [.ref (g.2.1 0)] σ (XQv g (fun σ' => fX11_cutNow_0 σ = σ' ∧ ((σ'.1 22 = 0)) ∧ INV σ' ∧ Fr [] [] σ σ')) := by
  refine x_met (own := RX11) (cc := cX11_cutNow) (maxL := 1) (ret := none) (lv := [(0, .ref (g.2.1 0))]) (by decide) rfl rfl (Nat.le_of_ble_eq_true rfl) rfl ?_
  intro p e s m args below meth c ls E h hl
  have hx := E.1
  have hb := E.2.1
  have hown := E.2.2.2.1
  have hts := E.2.2.2.2.1
  have hF : Fr [] [] σ σ := Fr.refl σ
  obtain ⟨R, hR0⟩ : ∃ R, fX11_cutNow_0 σ = R := ⟨_, rfl⟩
  have hR : fX11_cutNow_0b0 σ = R := hR0
  have hwX11 : ∀ w ∈ wsX110, w ∈ wsX11_cutNow := by decide +kernel
  generalize hPQ : XQv g (fun σ' => fX11_cutNow_0 σ = σ' ∧ ((σ'.1 22 = 0)) ∧ INV σ' ∧ Fr [] [] σ σ') = PQz
  refine lv_aload_n hx hb dX11_cutNow_0 rfl (lv_at hl 0 rfl) ?_
  refine x_getI E h (fi_vh_cutIsOld g) rfl hwX11 (by decide) (by decide +kernel) (v := 0) eF22 dX11_cutNow_1 ?_
  replace hR := bd_to hR eF22
  replace hR := it_t hR (by decide)
  refine lv_if_eq (tgt := 43) hx hb dX11_cutNow_4 (by decide) (fun _ => ?_) (fun c => absurd (by decide) c)
  subst hPQ
  exact x_vret E h ⟨hR0.trans hR.symm, (eF22), hI, hF⟩ dX11_cutNow_43
set_option maxHeartbeats 4000000 in
set_option maxRecDepth 100000 in
theorem aX11_isPiece_1 (l : Launch) (g : CX) (σ : ST) (hI : INV σ) (p1 : Int32) (eF22 : σ.1 22 = 0) : XM l g yX11_isPiece wsX11_isPiece { frames := 1, cells := 0, slots := 0, locals := 22 } [.ref (g.2.1 0), .int p1] σ (XQi g (fun r σ' => fX11_isPiece_0 p1 σ = (r, σ') ∧ ((1 = r ∧ ∃ n P : Nat, σ'.1 22 = 0 ∧ σ'.1 5 = nI P ∧ P ≤ 48 ∧ n < P ∧ p1 = nI n) ∨ (0 = r)) ∧ INV σ' ∧ Fr [] [] σ σ')) := by
  refine x_met (own := RX11) (cc := cX11_isPiece) (maxL := 2) (ret := (some .boolean)) (lv := [(0, .ref (g.2.1 0)), (1, .int p1)]) (by decide) rfl rfl (Nat.le_of_ble_eq_true rfl) rfl ?_
  intro p e s m args below meth c ls E h hl
  have hx := E.1
  have hb := E.2.1
  have hown := E.2.2.2.1
  have hts := E.2.2.2.2.1
  have hF : Fr [] [] σ σ := Fr.refl σ
  obtain ⟨R, hR0⟩ : ∃ R, fX11_isPiece_0 p1 σ = R := ⟨_, rfl⟩
  have hR : fX11_isPiece_0b0 p1 σ = R := hR0
  have hwX11 : ∀ w ∈ wsX110, w ∈ wsX11_isPiece := by decide +kernel
  have hwX2 : ∀ w ∈ wsX20, w ∈ wsX11_isPiece := by decide +kernel
  generalize hPQ : XQi g (fun r σ' => fX11_isPiece_0 p1 σ = (r, σ') ∧ ((1 = r ∧ ∃ n P : Nat, σ'.1 22 = 0 ∧ σ'.1 5 = nI P ∧ P ≤ 48 ∧ n < P ∧ p1 = nI n) ∨ (0 = r)) ∧ INV σ' ∧ Fr [] [] σ σ') = PQz
  refine lv_aload_n hx hb dX11_isPiece_0 rfl (lv_at hl 0 rfl) ?_
  refine x_vv E h (na := 0) (As := []) (aX11_cutNow_1 l g σ hI eF22) (oc_vh g) rfl gX11_isPiece_X11_cutNow rfl ⟨rfl, rfl⟩ rfl (by decide +kernel) ⟨Nat.le_of_ble_eq_true rfl, Nat.le_of_ble_eq_true rfl⟩ hl.1 rfl (Nat.le_of_ble_eq_true rfl) dX11_isPiece_1 ⟨Nat.le_of_ble_eq_true rfl, Nat.le_of_ble_eq_true rfl⟩ (fun s1 H locs q1 h => ?_)
  obtain ⟨x1, d1, hI1, f1⟩ := q1
  replace hR := bd_to hR x1
  have hF1 := hF.call f1 (I := []) (J := []) rfl rfl
  have e2 : s1.1 22 = 0 := ((f1.1 22 rfl)).trans eF22
  have u1_0_0 := d1
  refine lv_iload_n hx hb dX11_isPiece_4 rfl (lv_at hl 1 rfl) ?_
  refine lv_iconst (v := 0) hx hb dX11_isPiece_5 (by decide) ?_
  refine lv_aload_n hx hb dX11_isPiece_6 rfl (lv_at hl 0 rfl) ?_
  refine x_getR E h (fr_vh_cutting g) rfl hwX11 (by decide) (by decide +kernel) dX11_isPiece_7 ?_
  obtain ⟨n3, b3, e3⟩ := hI1.1 5 48 rfl
  refine x_getIN E h (fi_cu_pieces g) rfl hwX2 (by decide) (by decide +kernel) (v := nI n3) e3 dX11_isPiece_10 ?_
  replace hR := bd_to hR e3
  refine lv_iconst (v := 1) hx hb dX11_isPiece_13 (by decide) ?_
  refine lv_isub hx hb dX11_isPiece_14 ?_
  replace hR := bd_to hR rfl
  refine x_si E h (na := 3) (As := [.int p1, .int 0, .int (nI n3 - 1)]) (aX11_within_0 l g s1 hI1 p1 0 (nI n3 - 1)) gX11_isPiece_X11_within rfl ⟨rfl, rfl⟩ rfl (by decide +kernel) ⟨Nat.le_of_ble_eq_true rfl, Nat.le_of_ble_eq_true rfl⟩ hl.1 rfl (Nat.le_of_ble_eq_true rfl) dX11_isPiece_15 ⟨Nat.le_of_ble_eq_true rfl, Nat.le_of_ble_eq_true rfl⟩ (fun r4 s4 H locs q4 h => ?_)
  obtain ⟨x4, d4, rfl⟩ := q4
  replace hR := bd_to hR x4
  rcases d4 with ⟨rfl, u4_0_0, u4_0_1⟩ | rfl
  · skip
    obtain ⟨n5, b5, rfl⟩ := y_rnltM (N := n3) (y_lo1 u4_0_0 (by decide)) u4_0_1 (by omega)
    have b6 : 0 ≤ n5 := y_nlt (a := n5) (b := 0) (by omega) (by omega) u4_0_0
    subst hPQ
    exact x_zret E h rfl ⟨hR0.trans hR.symm, (Or.inl ⟨rfl, n5, n3, u1_0_0, e3, (by omega), (by omega), rfl⟩), hI1, hF1⟩ dX11_isPiece_18
  · skip
    subst hPQ
    exact x_zret E h rfl ⟨hR0.trans hR.symm, (Or.inr (rfl)), hI1, hF1⟩ dX11_isPiece_18
set_option maxHeartbeats 4000000 in
set_option maxRecDepth 100000 in
theorem aX11_off_0 (l : Launch) (g : CX) (σ : ST) (hI : INV σ) (p1 : Int32) (p3 : Int32) : XM l g yX11_off wsX11_off { frames := 1, cells := 0, slots := 0, locals := 21 } [.ref (g.2.1 20), .int p1, .ref (g.2.1 20), .int p3] σ (XQi g (fun r σ' => fX11_off_0 p1 p3 σ = r ∧ σ = σ')) := by
  refine x_met (own := RX11) (cc := cX11_off) (maxL := 6) (ret := (some .int)) (lv := [(0, .ref (g.2.1 20)), (1, .int p1), (2, .ref (g.2.1 20)), (3, .int p3)]) (by decide) rfl rfl (Nat.le_of_ble_eq_true rfl) rfl ?_
  intro p e s m args below meth c ls E h hl
  have hx := E.1
  have hb := E.2.1
  have hown := E.2.2.2.1
  have hts := E.2.2.2.2.1
  obtain ⟨R, hR0⟩ : ∃ R, fX11_off_0 p1 p3 σ = R := ⟨_, rfl⟩
  have hR : fX11_off_0b0 p1 p3 σ = R := hR0
  generalize hPQ : XQi g (fun r σ' => fX11_off_0 p1 p3 σ = r ∧ σ = σ') = PQz
  refine lv_iload_n hx hb dX11_off_0 rfl (lv_at hl 1 rfl) ?_
  refine lv_if_lt (tgt := 24) hx hb dX11_off_1 (by decide) (fun c1 => ?_) (fun c1 => ?_)
  · skip
    replace hR := it_t hR c1
    refine lv_iconst (v := 0) hx hb dX11_off_24 (by decide) ?_
    subst hPQ
    exact x_iret E h ⟨hR0.trans hR.symm, rfl⟩ dX11_off_25
  · skip
    replace hR := it_f hR c1
    refine lv_iload_n hx hb dX11_off_4 rfl (lv_at hl 1 rfl) ?_
    refine lv_aload_n hx hb dX11_off_5 rfl (lv_at hl 0 rfl) ?_
    refine x_len E h (ia_cu_middles g) (v := 192) (by decide) dX11_off_6 ?_
    refine lv_iconst (v := 4) hx hb dX11_off_7 (by decide) ?_
    refine lv_isub hx hb dX11_off_8 ?_
    refine x_topI (v2 := 188) (by decide) ?_
    replace hR := bd_to hR (show (192 : Int32) - (4 : Int32) = 188 by decide)
    refine lv_icmp_gt (tgt := 24) hx hb dX11_off_9 (by decide) (fun c4 => ?_) (fun c4 => ?_)
    · skip
      replace hR := it_t hR c4
      refine lv_iconst (v := 0) hx hb dX11_off_24 (by decide) ?_
      subst hPQ
      exact x_iret E h ⟨hR0.trans hR.symm, rfl⟩ dX11_off_25
    · skip
      replace hR := it_f hR c4
      obtain ⟨n7, b7, rfl⟩ := y_rnlt (N := 188) (y_lo1 c1 (by decide)) c4 (by omega)
      have b8 : 0 ≤ n7 := y_nlt (a := n7) (b := 0) (by omega) (by omega) c1
      have b9 : n7 ≤ 188 := y_nlt (a := 188) (b := n7) (by omega) (by omega) c4
      refine lv_iload_n hx hb dX11_off_12 rfl (lv_at hl 3 rfl) ?_
      refine lv_if_lt (tgt := 24) hx hb dX11_off_13 (by decide) (fun c10 => ?_) (fun c10 => ?_)
      · skip
        replace hR := it_t hR c10
        refine lv_iconst (v := 0) hx hb dX11_off_24 (by decide) ?_
        subst hPQ
        exact x_iret E h ⟨hR0.trans hR.symm, rfl⟩ dX11_off_25
      · skip
        replace hR := it_f hR c10
        refine lv_iload_n hx hb dX11_off_16 rfl (lv_at hl 3 rfl) ?_
        refine lv_aload_n hx hb dX11_off_17 rfl (lv_at hl 2 rfl) ?_
        refine x_len E h (ia_cu_middles g) (v := 192) (by decide) dX11_off_18 ?_
        refine lv_iconst (v := 4) hx hb dX11_off_19 (by decide) ?_
        refine lv_isub hx hb dX11_off_20 ?_
        refine x_topI (v2 := 188) (by decide) ?_
        replace hR := bd_to hR (show (192 : Int32) - (4 : Int32) = 188 by decide)
        refine lv_icmp_le (tgt := 26) hx hb dX11_off_21 (by decide) (fun c13 => ?_) (fun c13 => ?_)
        · skip
          replace hR := it_t hR c13
          obtain ⟨n15, b15, rfl⟩ := y_rle (N := 188) (y_lo1 c10 (by decide)) c13 (by omega)
          have b16 : 0 ≤ n15 := y_nlt (a := n15) (b := 0) (by omega) (by omega) c10
          have b17 : n15 ≤ 188 := y_le (a := n15) (b := 188) (by omega) (by omega) c13
          refine lv_iconst (v := 0) hx hb dX11_off_26 (by decide) ?_
          refine lv_istore (lv' := [(4, .int 0), (0, .ref (g.2.1 20)), (1, .int (nI n7)), (2, .ref (g.2.1 20)), (3, .int (nI n15))]) hx hb dX11_off_27 hl (by decide) rfl (fun ls hl => ?_)
          refine lv_iconst (v := 0) hx hb dX11_off_29 (by decide) ?_
          refine lv_istore (lv' := [(5, .int 0), (4, .int 0), (0, .ref (g.2.1 20)), (1, .int (nI n7)), (2, .ref (g.2.1 20)), (3, .int (nI n15))]) hx hb dX11_off_30 hl (by decide) rfl (fun ls hl => ?_)
          have loop32_18 : ∀ (fu : Nat) (i18_5 : Nat) (i18_4 : Int32), i18_5 ≤ 4 → fX11_off_0l32 fu (nI n7) (nI n15) i18_4 (nI i18_5) σ = R → 4 - i18_5 < fu → ∀ (H : Heap) (locs : List Loc) (ls : Array Slot), HW g σ s H locs → lv_has ls 6 [(5, .int (nI i18_5)), (4, .int i18_4), (0, .ref (g.2.1 20)), (1, .int (nI n7)), (2, .ref (g.2.1 20)), (3, .int (nI n15))] → W p l e { frames := 1, cells := 0, slots := 0, locals := 21 } s m args below meth c H locs 0 0 (MQ below PQz args s 0 0 (Aw g)) (F0 m 32 ls []) := by
            intro fu18
            induction fu18 with
            | zero => intro i18_5 i18_4 bi18_5 hR18 hm; exact absurd hm (Nat.not_lt_zero _)
            | succ fu18 ih =>
              have ih18 := ih
              clear ih
              intro i18_5 i18_4 bi18_5 hR18 hm18 H locs ls h hl
              replace hR18 : fX11_off_0b32 (fX11_off_0l32 fu18) (nI n7) (nI n15) i18_4 (nI i18_5) σ = R := hR18
              refine lv_iload hx hb dX11_off_32 (lv_at hl 0 rfl) ?_
              refine lv_iconst (v := 4) hx hb dX11_off_34 (by decide) ?_
              refine lv_icmp_ge (tgt := 65) hx hb dX11_off_35 (by decide) (fun c19 => ?_) (fun c19 => ?_)
              · skip
                replace hR18 := it_t hR18 c19
                have b20 : 4 ≤ i18_5 := y_le (a := 4) (b := i18_5) (by omega) (by omega) c19
                refine lv_iload hx hb dX11_off_65 (lv_at hl 1 rfl) ?_
                subst hPQ
                exact x_iret E h ⟨hR0.trans hR18.symm, rfl⟩ dX11_off_67
              · skip
                replace hR18 := it_f hR18 c19
                have b21 : i18_5 < 4 := y_nle (a := 4) (b := i18_5) (by omega) (by omega) c19
                refine lv_iload hx hb dX11_off_38 (lv_at hl 1 rfl) ?_
                refine lv_aload_n hx hb dX11_off_40 rfl (lv_at hl 2 rfl) ?_
                refine lv_iload_n hx hb dX11_off_41 rfl (lv_at hl 3 rfl) ?_
                refine lv_iload hx hb dX11_off_42 (lv_at hl 0 rfl) ?_
                refine lv_iadd hx hb dX11_off_44 ?_
                refine x_topI (v2 := nI (n7 + i18_5)) (nI_add n7 i18_5) ?_
                replace hR18 := bd_to hR18 (nI_add n7 i18_5)
                refine x_ldI E h (ia_cu_middles g) (i := nI (n7 + i18_5)) (vp_in_nI (by omega) (by decide)) (v := σ.2.2 15 (n7 + i18_5)) (congrArg (σ.2.2 15) (nI_clamp (n := n7 + i18_5) (by omega))) dX11_off_45 ?_
                replace hR18 := bd_to hR18 (congrArg (σ.2.2 15) (nI_clamp (n := n7 + i18_5) (by omega)))
                refine lv_aload_n hx hb dX11_off_46 rfl (lv_at hl 4 rfl) ?_
                refine lv_iload_n hx hb dX11_off_47 rfl (lv_at hl 5 rfl) ?_
                refine lv_iload hx hb dX11_off_48 (lv_at hl 0 rfl) ?_
                refine lv_iadd hx hb dX11_off_50 ?_
                refine x_topI (v2 := nI (n15 + i18_5)) (nI_add n15 i18_5) ?_
                replace hR18 := bd_to hR18 (nI_add n15 i18_5)
                refine x_ldI E h (ia_cu_middles g) (i := nI (n15 + i18_5)) (vp_in_nI (by omega) (by decide)) (v := σ.2.2 15 (n15 + i18_5)) (congrArg (σ.2.2 15) (nI_clamp (n := n15 + i18_5) (by omega))) dX11_off_51 ?_
                replace hR18 := bd_to hR18 (congrArg (σ.2.2 15) (nI_clamp (n := n15 + i18_5) (by omega)))
                refine lv_isub hx hb dX11_off_52 ?_
                refine lv_topi (fun x22 e22 => ?_)
                replace hR18 := bd_to hR18 e22.symm
                refine x_abs E hl.1 (by decide +kernel) (by decide +kernel) (by decide +kernel) (by decide +kernel) ⟨Nat.le_of_ble_eq_true rfl, Nat.le_of_ble_eq_true rfl⟩ ⟨Nat.zero_le _, Nat.zero_le _⟩ dX11_off_53 ?_
                refine lv_topi (fun x23 e23 => ?_)
                replace hR18 := bd_to hR18 e23.symm
                refine lv_iadd hx hb dX11_off_56 ?_
                refine lv_topi (fun x24 e24 => ?_)
                replace hR18 := bd_to hR18 e24.symm
                refine lv_istore (lv' := [(4, .int x24), (5, .int (nI i18_5)), (0, .ref (g.2.1 20)), (1, .int (nI n7)), (2, .ref (g.2.1 20)), (3, .int (nI n15))]) hx hb dX11_off_57 hl (by decide) rfl (fun ls hl => ?_)
                replace hR18 := bd_to hR18 (nI_add i18_5 1)
                refine lv_iinc (v := (nI (i18_5 + 1))) (lv' := [(5, .int (nI (i18_5 + 1))), (4, .int x24), (0, .ref (g.2.1 20)), (1, .int (nI n7)), (2, .ref (g.2.1 20)), (3, .int (nI n15))]) hx hb dX11_off_59 hl (k := 1) rfl (nI_add i18_5 1) (by decide) rfl (fun ls hl => ?_)
                refine lv_goto (tgt := 32) hx hb dX11_off_62 (by decide) ?_
                exact ih18 (i18_5 + 1) x24 (by omega) hR18 (by omega) _ _ _ h (lv_sub hl [0, 1, 2, 3, 4, 5] rfl)
          exact loop32_18 4096 0 0 (Nat.zero_le _) hR (by omega) _ _ _ h (lv_sub hl [0, 1, 2, 3, 4, 5] rfl)
        · skip
          replace hR := it_f hR c13
          refine lv_iconst (v := 0) hx hb dX11_off_24 (by decide) ?_
          subst hPQ
          exact x_iret E h ⟨hR0.trans hR.symm, rfl⟩ dX11_off_25
set_option maxHeartbeats 4000000 in
set_option maxRecDepth 100000 in
theorem aX2_likeness_0 (l : Launch) (g : CX) (σ : ST) (hI : INV σ) (p1 : Nat) (p2 : Nat) (p3 : Int32) (hh0 : p1 < 48) (hh1 : p2 < 48) : XM l g yX2_likeness wsX2_likeness { frames := 2, cells := 0, slots := 0, locals := 46 } [.ref (g.2.1 16), .int (nI p1), .int (nI p2), .int p3] σ (XQi g (fun r σ' => fX2_likeness_0 (nI p1) (nI p2) p3 σ = r ∧ σ = σ')) := by
  refine x_met (own := RX2) (cc := cX2_likeness) (maxL := 4) (ret := (some .int)) (lv := [(0, .ref (g.2.1 16)), (1, .int (nI p1)), (2, .int (nI p2)), (3, .int p3)]) (by decide) rfl rfl (Nat.le_of_ble_eq_true rfl) rfl ?_
  intro p e s m args below meth c ls E h hl
  have hx := E.1
  have hb := E.2.1
  have hown := E.2.2.2.1
  have hts := E.2.2.2.2.1
  obtain ⟨R, hR0⟩ : ∃ R, fX2_likeness_0 (nI p1) (nI p2) p3 σ = R := ⟨_, rfl⟩
  have hR : fX2_likeness_0b0 (nI p1) (nI p2) p3 σ = R := hR0
  have hwX2 : ∀ w ∈ wsX20, w ∈ wsX2_likeness := by decide +kernel
  generalize hPQ : XQi g (fun r σ' => fX2_likeness_0 (nI p1) (nI p2) p3 σ = r ∧ σ = σ') = PQz
  refine lv_iload_n hx hb dX2_likeness_0 rfl (lv_at hl 3 rfl) ?_
  refine lv_aload_n hx hb dX2_likeness_1 rfl (lv_at hl 0 rfl) ?_
  refine x_getR E h (fr_cu_middles g) rfl hwX2 (by decide) (by decide +kernel) dX2_likeness_2 ?_
  refine lv_iload_n hx hb dX2_likeness_5 rfl (lv_at hl 1 rfl) ?_
  refine lv_iconst (v := 4) hx hb dX2_likeness_6 (by decide) ?_
  refine lv_imul hx hb dX2_likeness_7 ?_
  refine x_topI (v2 := nI (p1 * 4)) (pk_mul p1 4) ?_
  replace hR := bd_to hR (pk_mul p1 4)
  refine lv_aload_n hx hb dX2_likeness_8 rfl (lv_at hl 0 rfl) ?_
  refine x_getR E h (fr_cu_middles g) rfl hwX2 (by decide) (by decide +kernel) dX2_likeness_9 ?_
  refine lv_iload_n hx hb dX2_likeness_12 rfl (lv_at hl 2 rfl) ?_
  refine lv_iconst (v := 4) hx hb dX2_likeness_13 (by decide) ?_
  refine lv_imul hx hb dX2_likeness_14 ?_
  refine x_topI (v2 := nI (p2 * 4)) (pk_mul p2 4) ?_
  replace hR := bd_to hR (pk_mul p2 4)
  refine x_siN (host := "VoiceHeaps") E h (na := 4) (As := [.ref (g.2.1 20), .int (nI (p1 * 4)), .ref (g.2.1 20), .int (nI (p2 * 4))]) (aX11_off_0 l g σ hI (nI (p1 * 4)) (nI (p2 * 4))) gX2_likeness_X11_off_n96 (by decide +kernel) (by decide +kernel) (by decide +kernel) rfl ⟨rfl, rfl⟩ rfl (by decide +kernel) ⟨Nat.le_of_ble_eq_true rfl, Nat.le_of_ble_eq_true rfl⟩ hl.1 rfl (Nat.le_of_ble_eq_true rfl) dX2_likeness_15 ⟨Nat.le_of_ble_eq_true rfl, Nat.le_of_ble_eq_true rfl⟩ (fun r1 s1 H locs q1 h => ?_)
  obtain ⟨x1, rfl⟩ := q1
  replace hR := bd_to hR x1
  refine lv_isub hx hb dX2_likeness_18 ?_
  refine lv_topi (fun x2 e2 => ?_)
  replace hR := bd_to hR e2.symm
  refine lv_aload_n hx hb dX2_likeness_19 rfl (lv_at hl 0 rfl) ?_
  refine x_getR E h (fr_cu_size g) rfl hwX2 (by decide) (by decide +kernel) dX2_likeness_20 ?_
  refine lv_iload_n hx hb dX2_likeness_23 rfl (lv_at hl 1 rfl) ?_
  refine x_ldI E h (ia_cu_size g) (i := nI p1) (vp_in_nI (by omega) (by decide)) (v := σ.2.2 13 p1) (congrArg (σ.2.2 13) (nI_clamp (n := p1) (by omega))) dX2_likeness_24 ?_
  replace hR := bd_to hR (congrArg (σ.2.2 13) (nI_clamp (n := p1) (by omega)))
  refine lv_aload_n hx hb dX2_likeness_25 rfl (lv_at hl 0 rfl) ?_
  refine x_getR E h (fr_cu_size g) rfl hwX2 (by decide) (by decide +kernel) dX2_likeness_26 ?_
  refine lv_iload_n hx hb dX2_likeness_29 rfl (lv_at hl 2 rfl) ?_
  refine x_ldI E h (ia_cu_size g) (i := nI p2) (vp_in_nI (by omega) (by decide)) (v := σ.2.2 13 p2) (congrArg (σ.2.2 13) (nI_clamp (n := p2) (by omega))) dX2_likeness_30 ?_
  replace hR := bd_to hR (congrArg (σ.2.2 13) (nI_clamp (n := p2) (by omega)))
  refine x_min E hl.1 (by decide +kernel) (by decide +kernel) (by decide +kernel) (by decide +kernel) ⟨Nat.le_of_ble_eq_true rfl, Nat.le_of_ble_eq_true rfl⟩ ⟨Nat.zero_le _, Nat.zero_le _⟩ dX2_likeness_31 ?_
  refine lv_topi (fun x3 e3 => ?_)
  replace hR := bd_to hR e3.symm
  refine lv_imul hx hb dX2_likeness_34 ?_
  refine lv_topi (fun x4 e4 => ?_)
  replace hR := bd_to hR e4.symm
  subst hPQ
  exact x_iret E h ⟨hR0.trans hR.symm, rfl⟩ dX2_likeness_35
set_option maxHeartbeats 4000000 in
set_option maxRecDepth 100000 in
theorem aX11_like_0 (l : Launch) (g : CX) (σ : ST) (hI : INV σ) (p1 : Int32) (p2 : Int32) : XM l g yX11_like wsX11_like { frames := 6, cells := 0, slots := 0, locals := 142 } [.ref (g.2.1 0), .int p1, .int p2] σ (XQi g (fun r σ' => fX11_like_0 p1 p2 σ = (r, σ') ∧ INV σ' ∧ Fr [(3, 8), (22, 22)] [(8, 19)] σ σ')) := by
  refine x_met (own := RX11) (cc := cX11_like) (maxL := 3) (ret := (some .int)) (lv := [(0, .ref (g.2.1 0)), (1, .int p1), (2, .int p2)]) (by decide) rfl rfl (Nat.le_of_ble_eq_true rfl) rfl ?_
  intro p e s m args below meth c ls E h hl
  have hx := E.1
  have hb := E.2.1
  have hown := E.2.2.2.1
  have hts := E.2.2.2.2.1
  have hF : Fr [(3, 8), (22, 22)] [(8, 19)] σ σ := Fr.refl σ
  obtain ⟨R, hR0⟩ : ∃ R, fX11_like_0 p1 p2 σ = R := ⟨_, rfl⟩
  have hR : fX11_like_0b0 p1 p2 σ = R := hR0
  have hwX11 : ∀ w ∈ wsX110, w ∈ wsX11_like := by decide +kernel
  generalize hPQ : XQi g (fun r σ' => fX11_like_0 p1 p2 σ = (r, σ') ∧ INV σ' ∧ Fr [(3, 8), (22, 22)] [(8, 19)] σ σ') = PQz
  refine lv_aload_n hx hb dX11_like_0 rfl (lv_at hl 0 rfl) ?_
  refine lv_iload_n hx hb dX11_like_1 rfl (lv_at hl 1 rfl) ?_
  refine x_vi E h (na := 1) (As := [.int p1]) (aX11_isPiece_0 l g σ hI p1) (oc_vh g) rfl gX11_like_X11_isPiece rfl ⟨rfl, rfl⟩ rfl (by decide +kernel) ⟨Nat.le_of_ble_eq_true rfl, Nat.le_of_ble_eq_true rfl⟩ hl.1 rfl (Nat.le_of_ble_eq_true rfl) dX11_like_2 ⟨Nat.le_of_ble_eq_true rfl, Nat.le_of_ble_eq_true rfl⟩ (fun r1 s1 H locs q1 h => ?_)
  obtain ⟨x1, d1, hI1, f1⟩ := q1
  replace hR := bp_to hR x1
  have hF1 := hF.call f1 (I := [(3, 8), (22, 22)]) (J := [(8, 19)]) rfl rfl
  rcases d1 with ⟨rfl, m1_0n, m1_0P, u1_0_0, u1_0_1, u1_0_2, u1_0_3, rfl⟩ | rfl
  · skip
    replace hR := it_f hR (by decide)
    refine lv_if_eq (tgt := 21) hx hb dX11_like_5 (by decide) (fun c => absurd c (by decide)) (fun _ => ?_)
    refine lv_aload_n hx hb dX11_like_8 rfl (lv_at hl 0 rfl) ?_
    refine lv_iload_n hx hb dX11_like_9 rfl (lv_at hl 2 rfl) ?_
    refine x_vi E h (na := 1) (As := [.int p2]) (aX11_isPiece_1 l g s1 hI1 p2 u1_0_0) (oc_vh g) rfl gX11_like_X11_isPiece rfl ⟨rfl, rfl⟩ rfl (by decide +kernel) ⟨Nat.le_of_ble_eq_true rfl, Nat.le_of_ble_eq_true rfl⟩ hl.1 rfl (Nat.le_of_ble_eq_true rfl) dX11_like_10 ⟨Nat.le_of_ble_eq_true rfl, Nat.le_of_ble_eq_true rfl⟩ (fun r2 s2 H locs q2 h => ?_)
    obtain ⟨x2, d2, hI2, f2⟩ := q2
    replace hR := bp_to hR x2
    have hF2 := hF1.call f2 (I := [(3, 8), (22, 22)]) (J := [(8, 19)]) rfl rfl
    have e3 : s2.1 22 = 0 := ((f2.1 22 rfl)).trans u1_0_0
    have e4 : s2.1 5 = nI m1_0P := ((f2.1 5 rfl)).trans u1_0_1
    rcases d2 with ⟨rfl, m2_0n, m2_0P, u2_0_0, u2_0_1, u2_0_2, u2_0_3, rfl⟩ | rfl
    · skip
      obtain rfl : m1_0P = m2_0P := y_eq (by omega) (by omega) ((e4).symm.trans u2_0_1)
      replace hR := it_f hR (by decide)
      refine lv_if_eq (tgt := 21) hx hb dX11_like_13 (by decide) (fun c => absurd c (by decide)) (fun _ => ?_)
      refine lv_iload_n hx hb dX11_like_16 rfl (lv_at hl 1 rfl) ?_
      refine lv_iload_n hx hb dX11_like_17 rfl (lv_at hl 2 rfl) ?_
      refine lv_icmp_ne (tgt := 24) hx hb dX11_like_18 (by decide) (fun c5 => ?_) (fun c5 => ?_)
      · skip
        replace hR := it_f hR c5
        have b6 : ¬ m1_0n = m2_0n := y_ne (a := m1_0n) (b := m2_0n) (by omega) (by omega) c5
        refine lv_aload_n hx hb dX11_like_24 rfl (lv_at hl 0 rfl) ?_
        refine x_getR E h (fr_vh_cutting g) rfl hwX11 (by decide) (by decide +kernel) dX11_like_25 ?_
        refine lv_iload_n hx hb dX11_like_28 rfl (lv_at hl 1 rfl) ?_
        refine lv_iload_n hx hb dX11_like_29 rfl (lv_at hl 2 rfl) ?_
        refine lv_aload_n hx hb dX11_like_30 rfl (lv_at hl 0 rfl) ?_
        refine x_getR E h (fr_vh_ruleText g) rfl hwX11 (by decide) (by decide +kernel) dX11_like_31 ?_
        refine lv_iconst (v := 2) hx hb dX11_like_34 (by decide) ?_
        refine x_vi E h (na := 1) (As := [.int 2]) (aX8_ruleNow_0 l g s2 hI2 2) (oc_rt g) rfl gX11_like_X8_ruleNow rfl ⟨rfl, rfl⟩ rfl (by decide +kernel) ⟨Nat.le_of_ble_eq_true rfl, Nat.le_of_ble_eq_true rfl⟩ hl.1 rfl (Nat.le_of_ble_eq_true rfl) dX11_like_35 ⟨Nat.le_of_ble_eq_true rfl, Nat.le_of_ble_eq_true rfl⟩ (fun r7 s7 H locs q7 h => ?_)
        obtain ⟨x7, rfl⟩ := q7
        replace hR := bd_to hR x7
        refine x_vi E h (na := 3) (As := [.int (nI m1_0n), .int (nI m2_0n), .int r7]) (aX2_likeness_0 l g s2 hI2 m1_0n m2_0n r7 (by omega) (by omega)) (oc_cu g) rfl gX11_like_X2_likeness rfl ⟨rfl, rfl⟩ rfl (by decide +kernel) ⟨Nat.le_of_ble_eq_true rfl, Nat.le_of_ble_eq_true rfl⟩ hl.1 rfl (Nat.le_of_ble_eq_true rfl) dX11_like_38 ⟨Nat.le_of_ble_eq_true rfl, Nat.le_of_ble_eq_true rfl⟩ (fun r8 s8 H locs q8 h => ?_)
        obtain ⟨x8, rfl⟩ := q8
        replace hR := bd_to hR x8
        subst hPQ
        exact x_iret E h ⟨hR0.trans hR.symm, hI2, hF2⟩ dX11_like_41
      · skip
        replace hR := it_t hR c5
        have b9 : m1_0n = m2_0n := y_eq (a := m1_0n) (b := m2_0n) (by omega) (by omega) c5
        refine lv_ldc (v := (-1000000)) hx hb hown (hts (.constant RX11 185 (-1000000)) (by decide +kernel)) dX11_like_21 ?_
        subst hPQ
        exact x_iret E h ⟨hR0.trans hR.symm, hI2, hF2⟩ dX11_like_23
    · skip
      replace hR := it_t hR (by decide)
      refine lv_if_eq (tgt := 21) hx hb dX11_like_13 (by decide) (fun _ => ?_) (fun c => absurd (by decide) c)
      refine lv_ldc (v := (-1000000)) hx hb hown (hts (.constant RX11 185 (-1000000)) (by decide +kernel)) dX11_like_21 ?_
      subst hPQ
      exact x_iret E h ⟨hR0.trans hR.symm, hI2, hF2⟩ dX11_like_23
  · skip
    replace hR := it_t hR (by decide)
    refine lv_if_eq (tgt := 21) hx hb dX11_like_5 (by decide) (fun _ => ?_) (fun c => absurd (by decide) c)
    refine lv_ldc (v := (-1000000)) hx hb hown (hts (.constant RX11 185 (-1000000)) (by decide +kernel)) dX11_like_21 ?_
    subst hPQ
    exact x_iret E h ⟨hR0.trans hR.symm, hI1, hF1⟩ dX11_like_23
set_option maxHeartbeats 4000000 in
set_option maxRecDepth 100000 in
theorem aX1_fillGains_0 (l : Launch) (g : CX) (σ : ST) (hI : INV σ) (p1 : Nat) (hh0 : p1 < 9) : XM l g yX1_fillGains wsX1_fillGains { frames := 0, cells := 0, slots := 0, locals := 0 } [.ref (g.2.1 25), .int (nI p1)] σ (XQv g (fun σ' => fX1_fillGains_0 (nI p1) σ = σ' ∧ INV σ' ∧ Fr [] [(40, 40)] σ σ')) := by
  refine x_met (own := RX1) (cc := cX1_fillGains) (maxL := 6) (ret := none) (lv := [(0, .ref (g.2.1 25)), (1, .int (nI p1))]) (by decide) rfl rfl (Nat.le_of_ble_eq_true rfl) rfl ?_
  intro p e s m args below meth c ls E h hl
  have hx := E.1
  have hb := E.2.1
  have hown := E.2.2.2.1
  have hts := E.2.2.2.2.1
  have hF : Fr [] [(40, 40)] σ σ := Fr.refl σ
  obtain ⟨R, hR0⟩ : ∃ R, fX1_fillGains_0 (nI p1) σ = R := ⟨_, rfl⟩
  have hR : fX1_fillGains_0b0 (nI p1) σ = R := hR0
  have hwX1 : ∀ w ∈ wsX10, w ∈ wsX1_fillGains := by decide +kernel
  generalize hPQ : XQv g (fun σ' => fX1_fillGains_0 (nI p1) σ = σ' ∧ INV σ' ∧ Fr [] [(40, 40)] σ σ') = PQz
  refine lv_iconst (v := 1) hx hb dX1_fillGains_0 (by decide) ?_
  refine lv_iload_n hx hb dX1_fillGains_1 rfl (lv_at hl 1 rfl) ?_
  refine lv_ishl hx hb dX1_fillGains_2 ?_
  refine x_topI (v2 := nI (2 ^ p1)) (y_shl1 (p := p1) (by omega)) ?_
  replace hR := bd_to hR (y_shl1 (p := p1) (by omega))
  have b1 := y_pow (p := p1) (by omega)
  refine lv_istore_n (lv' := [(2, .int (nI (2 ^ p1))), (0, .ref (g.2.1 25)), (1, .int (nI p1))]) hx hb dX1_fillGains_3 rfl hl (by decide) rfl (fun ls hl => ?_)
  refine lv_aload_n hx hb dX1_fillGains_4 rfl (lv_at hl 1 rfl) ?_
  refine x_getR E h (fr_bo_gain g) rfl hwX1 (by decide) (by decide +kernel) dX1_fillGains_5 ?_
  refine lv_iload_n hx hb dX1_fillGains_8 rfl (lv_at hl 0 rfl) ?_
  refine lv_iconst (v := 0) hx hb dX1_fillGains_9 (by decide) ?_
  refine y_stI E h hI hF (ia_bo_gain g) (i := nI (2 ^ p1)) (vp_in_nI (by omega) (by decide)) (j := (2 ^ p1)) (nI_clamp (by omega)) (ba_none rfl) rfl dX1_fillGains_10 (fun s2 H locs q2 hI2 hF2 h => ?_)
  replace hR := st_to hR (nI_clamp (n := 2 ^ p1) (by omega)) q2
  refine lv_iconst (v := 0) hx hb dX1_fillGains_11 (by decide) ?_
  refine lv_istore_n (lv' := [(3, .int 0), (2, .int (nI (2 ^ p1))), (0, .ref (g.2.1 25)), (1, .int (nI p1))]) hx hb dX1_fillGains_12 rfl hl (by decide) rfl (fun ls hl => ?_)
  have loop13_3 : ∀ (fu : Nat) (t3 : ST) (i3_3 : Nat), INV t3 → Fr [] [(40, 40)] σ t3 → i3_3 ≤ p1 → fX1_fillGains_0l13 fu (nI p1) (nI (2 ^ p1)) (nI i3_3) t3 = R → p1 - i3_3 < fu → ∀ (H : Heap) (locs : List Loc) (ls : Array Slot), HW g t3 s H locs → lv_has ls 6 [(3, .int (nI i3_3)), (2, .int (nI (2 ^ p1))), (0, .ref (g.2.1 25)), (1, .int (nI p1))] → W p l e { frames := 0, cells := 0, slots := 0, locals := 0 } s m args below meth c H locs 0 0 (MQ below PQz args s 0 0 (Aw g)) (F0 m 13 ls []) := by
    intro fu3
    induction fu3 with
    | zero => intro t3 i3_3 hI_3 hF_3 bi3_3 hR3 hm; exact absurd hm (Nat.not_lt_zero _)
    | succ fu3 ih =>
      have ih3 := ih
      clear ih
      intro t3 i3_3 hI_3 hF_3 bi3_3 hR3 hm3 H locs ls h hl
      replace hR3 : fX1_fillGains_0b13 (fX1_fillGains_0l13 fu3) (nI p1) (nI (2 ^ p1)) (nI i3_3) t3 = R := hR3
      refine lv_iload_n hx hb dX1_fillGains_13 rfl (lv_at hl 0 rfl) ?_
      refine lv_iload_n hx hb dX1_fillGains_14 rfl (lv_at hl 3 rfl) ?_
      refine lv_icmp_ge (tgt := 75) hx hb dX1_fillGains_15 (by decide) (fun c4 => ?_) (fun c4 => ?_)
      · skip
        replace hR3 := it_t hR3 c4
        have b5 : p1 ≤ i3_3 := y_le (a := p1) (b := i3_3) (by omega) (by omega) c4
        subst hPQ
        exact x_vret E h ⟨hR0.trans hR3.symm, hI_3, hF_3⟩ dX1_fillGains_75
      · skip
        replace hR3 := it_f hR3 c4
        have b6 : i3_3 < p1 := y_nle (a := p1) (b := i3_3) (by omega) (by omega) c4
        refine lv_iconst (v := 1) hx hb dX1_fillGains_18 (by decide) ?_
        refine lv_iload_n hx hb dX1_fillGains_19 rfl (lv_at hl 0 rfl) ?_
        refine lv_ishl hx hb dX1_fillGains_20 ?_
        refine x_topI (v2 := nI (2 ^ i3_3)) (y_shl1 (p := i3_3) (by omega)) ?_
        replace hR3 := bd_to hR3 (y_shl1 (p := i3_3) (by omega))
        have b7 := y_pow (p := i3_3) (by omega)
        refine lv_istore (lv' := [(4, .int (nI (2 ^ i3_3))), (3, .int (nI i3_3)), (2, .int (nI (2 ^ p1))), (0, .ref (g.2.1 25)), (1, .int (nI p1))]) hx hb dX1_fillGains_21 hl (by decide) rfl (fun ls hl => ?_)
        refine lv_iconst (v := 0) hx hb dX1_fillGains_23 (by decide) ?_
        refine lv_istore (lv' := [(5, .int 0), (4, .int (nI (2 ^ i3_3))), (3, .int (nI i3_3)), (2, .int (nI (2 ^ p1))), (0, .ref (g.2.1 25)), (1, .int (nI p1))]) hx hb dX1_fillGains_24 hl (by decide) rfl (fun ls hl => ?_)
        have loop26_8 : ∀ (fu : Nat) (t8 : ST) (i8_5 : Nat), INV t8 → Fr [] [(40, 40)] σ t8 → i8_5 ≤ (2 ^ i3_3) → fX1_fillGains_0l26 (fX1_fillGains_0l13 fu3) fu (nI p1) (nI (2 ^ p1)) (nI i3_3) (nI (2 ^ i3_3)) (nI i8_5) t8 = R → (2 ^ i3_3) - i8_5 < fu → ∀ (H : Heap) (locs : List Loc) (ls : Array Slot), HW g t8 s H locs → lv_has ls 6 [(5, .int (nI i8_5)), (4, .int (nI (2 ^ i3_3))), (3, .int (nI i3_3)), (2, .int (nI (2 ^ p1))), (0, .ref (g.2.1 25)), (1, .int (nI p1))] → W p l e { frames := 0, cells := 0, slots := 0, locals := 0 } s m args below meth c H locs 0 0 (MQ below PQz args s 0 0 (Aw g)) (F0 m 26 ls []) := by
          intro fu8
          induction fu8 with
          | zero => intro t8 i8_5 hI_8 hF_8 bi8_5 hR8 hm; exact absurd hm (Nat.not_lt_zero _)
          | succ fu8 ih =>
            have ih8 := ih
            clear ih
            intro t8 i8_5 hI_8 hF_8 bi8_5 hR8 hm8 H locs ls h hl
            replace hR8 : fX1_fillGains_0b26 (fX1_fillGains_0l13 fu3) (fX1_fillGains_0l26 (fX1_fillGains_0l13 fu3) fu8) (nI p1) (nI (2 ^ p1)) (nI i3_3) (nI (2 ^ i3_3)) (nI i8_5) t8 = R := hR8
            refine lv_iload hx hb dX1_fillGains_26 (lv_at hl 0 rfl) ?_
            refine lv_iload hx hb dX1_fillGains_28 (lv_at hl 1 rfl) ?_
            refine lv_icmp_ge (tgt := 69) hx hb dX1_fillGains_30 (by decide) (fun c9 => ?_) (fun c9 => ?_)
            · skip
              replace hR8 := it_t hR8 c9
              have b10 : (2 ^ i3_3) ≤ i8_5 := y_le (a := (2 ^ i3_3)) (b := i8_5) (by omega) (by omega) c9
              replace hR8 := bd_to hR8 (nI_add i3_3 1)
              refine lv_iinc (v := (nI (i3_3 + 1))) (lv' := [(3, .int (nI (i3_3 + 1))), (5, .int (nI i8_5)), (4, .int (nI (2 ^ i3_3))), (2, .int (nI (2 ^ p1))), (0, .ref (g.2.1 25)), (1, .int (nI p1))]) hx hb dX1_fillGains_69 hl (k := 2) rfl (nI_add i3_3 1) (by decide) rfl (fun ls hl => ?_)
              refine lv_goto (tgt := 13) hx hb dX1_fillGains_72 (by decide) ?_
              exact ih3 t8 (i3_3 + 1) hI_8 hF_8 (by omega) hR8 (by omega) _ _ _ h (lv_sub hl [0, 3, 4, 5] rfl)
            · skip
              replace hR8 := it_f hR8 c9
              have b11 : i8_5 < (2 ^ i3_3) := y_nle (a := (2 ^ i3_3)) (b := i8_5) (by omega) (by omega) c9
              refine lv_aload_n hx hb dX1_fillGains_33 rfl (lv_at hl 4 rfl) ?_
              refine x_getR E h (fr_bo_gain g) rfl hwX1 (by decide) (by decide +kernel) dX1_fillGains_34 ?_
              refine lv_iload_n hx hb dX1_fillGains_37 rfl (lv_at hl 3 rfl) ?_
              refine lv_iload hx hb dX1_fillGains_38 (lv_at hl 1 rfl) ?_
              refine lv_ior hx hb dX1_fillGains_40 ?_
              refine x_topI (v2 := nI ((2 ^ p1) ||| (2 ^ i3_3))) (y_or (2 ^ p1) (2 ^ i3_3)) ?_
              replace hR8 := bd_to hR8 (y_or (2 ^ p1) (2 ^ i3_3))
              have b12 : ((2 ^ p1) ||| (2 ^ i3_3)) < 512 := y_or9 (by omega) (by omega)
              refine lv_iload hx hb dX1_fillGains_41 (lv_at hl 0 rfl) ?_
              refine lv_ior hx hb dX1_fillGains_43 ?_
              refine x_topI (v2 := nI (((2 ^ p1) ||| (2 ^ i3_3)) ||| i8_5)) (y_or ((2 ^ p1) ||| (2 ^ i3_3)) i8_5) ?_
              replace hR8 := bd_to hR8 (y_or ((2 ^ p1) ||| (2 ^ i3_3)) i8_5)
              have b13 : (((2 ^ p1) ||| (2 ^ i3_3)) ||| i8_5) < 512 := y_or9 (by omega) (by omega)
              refine lv_aload_n hx hb dX1_fillGains_44 rfl (lv_at hl 4 rfl) ?_
              refine x_getR E h (fr_bo_gain g) rfl hwX1 (by decide) (by decide +kernel) dX1_fillGains_45 ?_
              refine lv_iload_n hx hb dX1_fillGains_48 rfl (lv_at hl 3 rfl) ?_
              refine lv_iload hx hb dX1_fillGains_49 (lv_at hl 0 rfl) ?_
              refine lv_ior hx hb dX1_fillGains_51 ?_
              refine x_topI (v2 := nI ((2 ^ p1) ||| i8_5)) (y_or (2 ^ p1) i8_5) ?_
              replace hR8 := bd_to hR8 (y_or (2 ^ p1) i8_5)
              have b14 : ((2 ^ p1) ||| i8_5) < 512 := y_or9 (by omega) (by omega)
              refine x_ldI E h (ia_bo_gain g) (i := nI ((2 ^ p1) ||| i8_5)) (vp_in_nI (by omega) (by decide)) (v := t8.2.2 40 ((2 ^ p1) ||| i8_5)) (congrArg (t8.2.2 40) (nI_clamp (n := (2 ^ p1) ||| i8_5) (by omega))) dX1_fillGains_52 ?_
              replace hR8 := bd_to hR8 (congrArg (t8.2.2 40) (nI_clamp (n := (2 ^ p1) ||| i8_5) (by omega)))
              refine lv_aload_n hx hb dX1_fillGains_53 rfl (lv_at hl 4 rfl) ?_
              refine x_getR E h (fr_bo_bond g) rfl hwX1 (by decide) (by decide +kernel) dX1_fillGains_54 ?_
              refine lv_iload_n hx hb dX1_fillGains_57 rfl (lv_at hl 2 rfl) ?_
              refine x_row E h (fg_bo_bond g) (i := nI i3_3) (vp_in_nI (by omega) (by decide)) (kr := 27 + i3_3) (by rw [nI_clamp (by omega)]) dX1_fillGains_58 ?_
              replace hR8 := bd_to hR8 (nI_clamp (n := i3_3) (by omega))
              refine lv_iload_n hx hb dX1_fillGains_59 rfl (lv_at hl 5 rfl) ?_
              refine x_ldI E h (gi_bo_bond g i3_3 (by omega)) (i := nI p1) (vp_in_nI (by omega) (by decide)) (v := t8.2.2 (21 + i3_3) p1) (congrArg (t8.2.2 (21 + i3_3)) (nI_clamp (n := p1) (by omega))) dX1_fillGains_60 ?_
              replace hR8 := bd_to hR8 (congrArg (t8.2.2 (21 + i3_3)) (nI_clamp (n := p1) (by omega)))
              refine lv_iadd hx hb dX1_fillGains_61 ?_
              refine lv_topi (fun x15 e15 => ?_)
              replace hR8 := bd_to hR8 e15.symm
              refine y_stI E h hI_8 hF_8 (ia_bo_gain g) (i := nI (((2 ^ p1) ||| (2 ^ i3_3)) ||| i8_5)) (vp_in_nI (by omega) (by decide)) (j := (((2 ^ p1) ||| (2 ^ i3_3)) ||| i8_5)) (nI_clamp (by omega)) (ba_none rfl) rfl dX1_fillGains_62 (fun s16 H locs q16 hI16 hF16 h => ?_)
              replace hR8 := st_to hR8 (nI_clamp (n := ((2 ^ p1) ||| (2 ^ i3_3)) ||| i8_5) (by omega)) q16
              replace hR8 := bd_to hR8 (nI_add i8_5 1)
              refine lv_iinc (v := (nI (i8_5 + 1))) (lv' := [(5, .int (nI (i8_5 + 1))), (4, .int (nI (2 ^ i3_3))), (3, .int (nI i3_3)), (2, .int (nI (2 ^ p1))), (0, .ref (g.2.1 25)), (1, .int (nI p1))]) hx hb dX1_fillGains_63 hl (k := 0) rfl (nI_add i8_5 1) (by decide) rfl (fun ls hl => ?_)
              refine lv_goto (tgt := 26) hx hb dX1_fillGains_66 (by decide) ?_
              exact ih8 s16 (i8_5 + 1) hI16 hF16 (by omega) hR8 (by omega) _ _ _ h (lv_sub hl [0, 1, 2, 3, 4, 5] rfl)
        exact loop26_8 4096 t3 0 hI_3 hF_3 (Nat.zero_le _) hR3 (by omega) _ _ _ h (lv_sub hl [0, 1, 2, 3, 4, 5] rfl)
  exact loop13_3 4096 s2 0 hI2 hF2 (Nat.zero_le _) hR (by omega) _ _ _ h (lv_sub hl [0, 1, 2, 3] rfl)
set_option maxHeartbeats 4000000 in
set_option maxRecDepth 100000 in
theorem aX2_doTouch_0 (l : Launch) (g : CX) (σ : ST) (hI : INV σ) (p1 : Nat) (p2 : Nat) (hh0 : p1 < 48) (hh1 : p2 < 48) : XM l g yX2_doTouch wsX2_doTouch { frames := 1, cells := 0, slots := 0, locals := 21 } [.ref (g.2.1 16), .int (nI p1), .int (nI p2)] σ (XQi g (fun r σ' => fX2_doTouch_0 (nI p1) (nI p2) σ = r ∧ σ = σ')) := by
  refine x_met (own := RX2) (cc := cX2_doTouch) (maxL := 3) (ret := (some .boolean)) (lv := [(0, .ref (g.2.1 16)), (1, .int (nI p1)), (2, .int (nI p2))]) (by decide) rfl rfl (Nat.le_of_ble_eq_true rfl) rfl ?_
  intro p e s m args below meth c ls E h hl
  have hx := E.1
  have hb := E.2.1
  have hown := E.2.2.2.1
  have hts := E.2.2.2.2.1
  obtain ⟨R, hR0⟩ : ∃ R, fX2_doTouch_0 (nI p1) (nI p2) σ = R := ⟨_, rfl⟩
  have hR : fX2_doTouch_0b0 (nI p1) (nI p2) σ = R := hR0
  have hwX2 : ∀ w ∈ wsX20, w ∈ wsX2_doTouch := by decide +kernel
  generalize hPQ : XQi g (fun r σ' => fX2_doTouch_0 (nI p1) (nI p2) σ = r ∧ σ = σ') = PQz
  refine lv_iload_n hx hb dX2_doTouch_0 rfl (lv_at hl 1 rfl) ?_
  refine lv_iload_n hx hb dX2_doTouch_1 rfl (lv_at hl 2 rfl) ?_
  refine lv_isub hx hb dX2_doTouch_2 ?_
  replace hR := bd_to hR rfl
  refine x_abs E hl.1 (by decide +kernel) (by decide +kernel) (by decide +kernel) (by decide +kernel) ⟨Nat.le_of_ble_eq_true rfl, Nat.le_of_ble_eq_true rfl⟩ ⟨Nat.zero_le _, Nat.zero_le _⟩ dX2_doTouch_3 ?_
  refine lv_topi (fun x1 e1 => ?_)
  replace hR := bd_to hR e1.symm
  refine lv_iconst (v := 1) hx hb dX2_doTouch_6 (by decide) ?_
  refine lv_icmp_ne (tgt := 29) hx hb dX2_doTouch_7 (by decide) (fun c2 => ?_) (fun c2 => ?_)
  · skip
    replace hR := it_f hR c2
    refine lv_iconst (v := 0) hx hb dX2_doTouch_29 (by decide) ?_
    replace hR : fX2_doTouch_0b30 0 σ = R := hR
    subst hPQ
    exact x_zret E h rfl ⟨hR0.trans hR.symm, rfl⟩ dX2_doTouch_30
  · skip
    replace hR := it_t hR c2
    subst c2
    refine lv_aload_n hx hb dX2_doTouch_10 rfl (lv_at hl 0 rfl) ?_
    refine x_getR E h (fr_cu_stretchOf g) rfl hwX2 (by decide) (by decide +kernel) dX2_doTouch_11 ?_
    refine lv_iload_n hx hb dX2_doTouch_14 rfl (lv_at hl 1 rfl) ?_
    refine x_ldI E h (ia_cu_stretchOf g) (i := nI p1) (vp_in_nI (by omega) (by decide)) (v := σ.2.2 16 p1) (congrArg (σ.2.2 16) (nI_clamp (n := p1) (by omega))) dX2_doTouch_15 ?_
    replace hR := bd_to hR (congrArg (σ.2.2 16) (nI_clamp (n := p1) (by omega)))
    refine lv_aload_n hx hb dX2_doTouch_16 rfl (lv_at hl 0 rfl) ?_
    refine x_getR E h (fr_cu_stretchOf g) rfl hwX2 (by decide) (by decide +kernel) dX2_doTouch_17 ?_
    refine lv_iload_n hx hb dX2_doTouch_20 rfl (lv_at hl 2 rfl) ?_
    refine x_ldI E h (ia_cu_stretchOf g) (i := nI p2) (vp_in_nI (by omega) (by decide)) (v := σ.2.2 16 p2) (congrArg (σ.2.2 16) (nI_clamp (n := p2) (by omega))) dX2_doTouch_21 ?_
    replace hR := bd_to hR (congrArg (σ.2.2 16) (nI_clamp (n := p2) (by omega)))
    refine lv_icmp_ne (tgt := 29) hx hb dX2_doTouch_22 (by decide) (fun c5 => ?_) (fun c5 => ?_)
    · skip
      replace hR := it_f hR c5
      refine lv_iconst (v := 0) hx hb dX2_doTouch_29 (by decide) ?_
      replace hR : fX2_doTouch_0b30 0 σ = R := hR
      subst hPQ
      exact x_zret E h rfl ⟨hR0.trans hR.symm, rfl⟩ dX2_doTouch_30
    · skip
      replace hR := it_t hR c5
      refine lv_iconst (v := 1) hx hb dX2_doTouch_25 (by decide) ?_
      refine lv_goto (tgt := 30) hx hb dX2_doTouch_26 (by decide) ?_
      replace hR : fX2_doTouch_0b30 1 σ = R := hR
      subst hPQ
      exact x_zret E h rfl ⟨hR0.trans hR.symm, rfl⟩ dX2_doTouch_30
set_option maxHeartbeats 4000000 in
set_option maxRecDepth 100000 in
theorem aX1_tie_0 (l : Launch) (g : CX) (σ : ST) (hI : INV σ) (p2 : Int32) (p3 : Int32) : XM l g yX1_tie wsX1_tie { frames := 3, cells := 0, slots := 0, locals := 69 } [.ref (g.2.1 25), .ref (g.2.1 16), .int p2, .int p3] σ (XQv g (fun σ' => fX1_tie_0 p2 p3 σ = σ' ∧ INV σ' ∧ Fr [(9, 9)] [(21, 29), (40, 40)] σ σ')) := by
  refine x_met (own := RX1) (cc := cX1_tie) (maxL := 7) (ret := none) (lv := [(0, .ref (g.2.1 25)), (1, .ref (g.2.1 16)), (2, .int p2), (3, .int p3)]) (by decide) rfl rfl (Nat.le_of_ble_eq_true rfl) rfl ?_
  intro p e s m args below meth c ls E h hl
  have hx := E.1
  have hb := E.2.1
  have hown := E.2.2.2.1
  have hts := E.2.2.2.2.1
  have hF : Fr [(9, 9)] [(21, 29), (40, 40)] σ σ := Fr.refl σ
  obtain ⟨R, hR0⟩ : ∃ R, fX1_tie_0 p2 p3 σ = R := ⟨_, rfl⟩
  have hR : fX1_tie_0b0 p2 p3 σ = R := hR0
  have hwX1 : ∀ w ∈ wsX10, w ∈ wsX1_tie := by decide +kernel
  have hwX2 : ∀ w ∈ wsX20, w ∈ wsX1_tie := by decide +kernel
  generalize hPQ : XQv g (fun σ' => fX1_tie_0 p2 p3 σ = σ' ∧ INV σ' ∧ Fr [(9, 9)] [(21, 29), (40, 40)] σ σ') = PQz
  refine lv_aload_n hx hb dX1_tie_0 rfl (lv_at hl 0 rfl) ?_
  refine lv_aload_n hx hb dX1_tie_1 rfl (lv_at hl 1 rfl) ?_
  obtain ⟨n1, b1, e1⟩ := hI.1 5 48 rfl
  refine x_getIN E h (fi_cu_pieces g) rfl hwX2 (by decide) (by decide +kernel) (v := nI n1) e1 dX1_tie_2 ?_
  replace hR := bd_to hR e1
  refine lv_bipush (v := 9) hx hb dX1_tie_5 (by decide) ?_
  refine x_min E hl.1 (by decide +kernel) (by decide +kernel) (by decide +kernel) (by decide +kernel) ⟨Nat.le_of_ble_eq_true rfl, Nat.le_of_ble_eq_true rfl⟩ ⟨Nat.zero_le _, Nat.zero_le _⟩ dX1_tie_7 ?_
  obtain ⟨n2, b2, e2⟩ := y_min (a := n1) (b := 9) (by omega) (by omega)
  refine x_topI (v2 := nI n2) e2 ?_
  replace hR := bd_to hR e2
  refine y_putI E h hI hF (ty := .int) (v := nI n2) (fi_bo_pieces g) rfl hwX1 tyX1_ok nmX1 (by decide) (by decide +kernel) (by decide +kernel) (by decide +kernel) rfl rfl (ba_some rfl (Bd.mk (n := n2) (by omega))) rfl dX1_tie_10 (fun s3 H locs q3 hI3 hF3 h => ?_)
  replace hR := bd_to hR q3.symm
  have e4 : s3.1 5 = nI n1 := (congrArg (fun t : ST => t.1 5) q3).trans e1
  have e5 : s3.1 9 = nI n2 := congrArg (fun t : ST => t.1 9) q3
  refine lv_iconst (v := 0) hx hb dX1_tie_13 (by decide) ?_
  refine lv_istore (lv' := [(4, .int 0), (0, .ref (g.2.1 25)), (1, .ref (g.2.1 16)), (2, .int p2), (3, .int p3)]) hx hb dX1_tie_14 hl (by decide) rfl (fun ls hl => ?_)
  have loop16_6 : ∀ (fu : Nat) (t6 : ST) (i6_4 : Nat), INV t6 → Fr [(9, 9)] [(21, 29), (40, 40)] σ t6 → t6.1 5 = nI n1 → t6.1 9 = nI n2 → i6_4 ≤ n2 → fX1_tie_0l16 fu p2 p3 (nI i6_4) t6 = R → n2 - i6_4 < fu → ∀ (H : Heap) (locs : List Loc) (ls : Array Slot), HW g t6 s H locs → lv_has ls 7 [(4, .int (nI i6_4)), (0, .ref (g.2.1 25)), (1, .ref (g.2.1 16)), (2, .int p2), (3, .int p3)] → W p l e { frames := 3, cells := 0, slots := 0, locals := 69 } s m args below meth c H locs 0 0 (MQ below PQz args s 0 0 (Aw g)) (F0 m 16 ls []) := by
    intro fu6
    induction fu6 with
    | zero => intro t6 i6_4 hI_6 hF_6 e7 e8 bi6_4 hR6 hm; exact absurd hm (Nat.not_lt_zero _)
    | succ fu6 ih =>
      have ih6 := ih
      clear ih
      intro t6 i6_4 hI_6 hF_6 e7 e8 bi6_4 hR6 hm6 H locs ls h hl
      replace hR6 : fX1_tie_0b16 (fX1_tie_0l16 fu6) p2 p3 (nI i6_4) t6 = R := hR6
      refine lv_iload hx hb dX1_tie_16 (lv_at hl 0 rfl) ?_
      refine lv_aload_n hx hb dX1_tie_18 rfl (lv_at hl 1 rfl) ?_
      refine x_getI E h (fi_bo_pieces g) rfl hwX1 (by decide) (by decide +kernel) (v := nI n2) e8 dX1_tie_19 ?_
      replace hR6 := bd_to hR6 e8
      refine lv_icmp_ge (tgt := 104) hx hb dX1_tie_22 (by decide) (fun c9 => ?_) (fun c9 => ?_)
      · skip
        replace hR6 := it_t hR6 c9
        have b10 : n2 ≤ i6_4 := y_le (a := n2) (b := i6_4) (by omega) (by omega) c9
        refine lv_iconst (v := 0) hx hb dX1_tie_104 (by decide) ?_
        refine lv_istore (lv' := [(4, .int 0), (0, .ref (g.2.1 25)), (1, .ref (g.2.1 16)), (2, .int p2), (3, .int p3)]) hx hb dX1_tie_105 hl (by decide) rfl (fun ls hl => ?_)
        have loop107_11 : ∀ (fu : Nat) (t11 : ST) (i11_4 : Nat), INV t11 → Fr [(9, 9)] [(21, 29), (40, 40)] σ t11 → t11.1 5 = nI n1 → t11.1 9 = nI n2 → i11_4 ≤ n2 → fX1_tie_0l107 fu (nI i11_4) t11 = R → n2 - i11_4 < fu → ∀ (H : Heap) (locs : List Loc) (ls : Array Slot), HW g t11 s H locs → lv_has ls 7 [(4, .int (nI i11_4)), (0, .ref (g.2.1 25)), (1, .ref (g.2.1 16)), (2, .int p2), (3, .int p3)] → W p l e { frames := 3, cells := 0, slots := 0, locals := 69 } s m args below meth c H locs 0 0 (MQ below PQz args s 0 0 (Aw g)) (F0 m 107 ls []) := by
          intro fu11
          induction fu11 with
          | zero => intro t11 i11_4 hI_11 hF_11 e12 e13 bi11_4 hR11 hm; exact absurd hm (Nat.not_lt_zero _)
          | succ fu11 ih =>
            have ih11 := ih
            clear ih
            intro t11 i11_4 hI_11 hF_11 e12 e13 bi11_4 hR11 hm11 H locs ls h hl
            replace hR11 : fX1_tie_0b107 (fX1_tie_0l107 fu11) (nI i11_4) t11 = R := hR11
            refine lv_iload hx hb dX1_tie_107 (lv_at hl 0 rfl) ?_
            refine lv_aload_n hx hb dX1_tie_109 rfl (lv_at hl 1 rfl) ?_
            refine x_getI E h (fi_bo_pieces g) rfl hwX1 (by decide) (by decide +kernel) (v := nI n2) e13 dX1_tie_110 ?_
            replace hR11 := bd_to hR11 e13
            refine lv_icmp_ge (tgt := 128) hx hb dX1_tie_113 (by decide) (fun c14 => ?_) (fun c14 => ?_)
            · skip
              replace hR11 := it_t hR11 c14
              have b15 : n2 ≤ i11_4 := y_le (a := n2) (b := i11_4) (by omega) (by omega) c14
              subst hPQ
              exact x_vret E h ⟨hR0.trans hR11.symm, hI_11, hF_11⟩ dX1_tie_128
            · skip
              replace hR11 := it_f hR11 c14
              have b16 : i11_4 < n2 := y_nle (a := n2) (b := i11_4) (by omega) (by omega) c14
              refine lv_aload_n hx hb dX1_tie_116 rfl (lv_at hl 1 rfl) ?_
              refine lv_iload hx hb dX1_tie_117 (lv_at hl 0 rfl) ?_
              refine x_vv E h (na := 1) (As := [.int (nI i11_4)]) (aX1_fillGains_0 l g t11 hI_11 i11_4 (by omega)) (oc_bo g) rfl gX1_tie_X1_fillGains rfl ⟨rfl, rfl⟩ rfl (by decide +kernel) ⟨Nat.le_of_ble_eq_true rfl, Nat.le_of_ble_eq_true rfl⟩ hl.1 rfl (Nat.le_of_ble_eq_true rfl) dX1_tie_119 ⟨Nat.le_of_ble_eq_true rfl, Nat.le_of_ble_eq_true rfl⟩ (fun s17 H locs q17 h => ?_)
              obtain ⟨x17, hI17, f17⟩ := q17
              replace hR11 := bd_to hR11 x17
              have hF17 := hF_11.call f17 (I := [(9, 9)]) (J := [(21, 29), (40, 40)]) rfl rfl
              have e18 : s17.1 5 = nI n1 := ((f17.1 5 rfl)).trans e12
              have e19 : s17.1 9 = nI n2 := ((f17.1 9 rfl)).trans e13
              replace hR11 := bd_to hR11 (nI_add i11_4 1)
              refine lv_iinc (v := (nI (i11_4 + 1))) (lv' := [(4, .int (nI (i11_4 + 1))), (0, .ref (g.2.1 25)), (1, .ref (g.2.1 16)), (2, .int p2), (3, .int p3)]) hx hb dX1_tie_122 hl (k := 0) rfl (nI_add i11_4 1) (by decide) rfl (fun ls hl => ?_)
              refine lv_goto (tgt := 107) hx hb dX1_tie_125 (by decide) ?_
              exact ih11 s17 (i11_4 + 1) hI17 hF17 e18 e19 (by omega) hR11 (by omega) _ _ _ h (lv_sub hl [0, 1, 2, 3, 4] rfl)
        exact loop107_11 4096 t6 0 hI_6 hF_6 e7 e8 (Nat.zero_le _) hR6 (by omega) _ _ _ h (lv_sub hl [0, 1, 2, 3, 4] rfl)
      · skip
        replace hR6 := it_f hR6 c9
        have b20 : i6_4 < n2 := y_nle (a := n2) (b := i6_4) (by omega) (by omega) c9
        refine lv_iload hx hb dX1_tie_25 (lv_at hl 0 rfl) ?_
        refine lv_iconst (v := 1) hx hb dX1_tie_27 (by decide) ?_
        refine lv_iadd hx hb dX1_tie_28 ?_
        refine x_topI (v2 := nI (i6_4 + 1)) (nI_add i6_4 1) ?_
        replace hR6 := bd_to hR6 (nI_add i6_4 1)
        refine lv_istore (lv' := [(5, .int (nI (i6_4 + 1))), (4, .int (nI i6_4)), (0, .ref (g.2.1 25)), (1, .ref (g.2.1 16)), (2, .int p2), (3, .int p3)]) hx hb dX1_tie_29 hl (by decide) rfl (fun ls hl => ?_)
        have loop31_21 : ∀ (fu : Nat) (t21 : ST) (i21_5 : Nat), INV t21 → Fr [(9, 9)] [(21, 29), (40, 40)] σ t21 → t21.1 5 = nI n1 → t21.1 9 = nI n2 → i21_5 ≤ n2 → fX1_tie_0l31 (fX1_tie_0l16 fu6) fu p2 p3 (nI i6_4) (nI i21_5) t21 = R → n2 - i21_5 < fu → ∀ (H : Heap) (locs : List Loc) (ls : Array Slot), HW g t21 s H locs → lv_has ls 7 [(5, .int (nI i21_5)), (4, .int (nI i6_4)), (0, .ref (g.2.1 25)), (1, .ref (g.2.1 16)), (2, .int p2), (3, .int p3)] → W p l e { frames := 3, cells := 0, slots := 0, locals := 69 } s m args below meth c H locs 0 0 (MQ below PQz args s 0 0 (Aw g)) (F0 m 31 ls []) := by
          intro fu21
          induction fu21 with
          | zero => intro t21 i21_5 hI_21 hF_21 e22 e23 bi21_5 hR21 hm; exact absurd hm (Nat.not_lt_zero _)
          | succ fu21 ih =>
            have ih21 := ih
            clear ih
            intro t21 i21_5 hI_21 hF_21 e22 e23 bi21_5 hR21 hm21 H locs ls h hl
            replace hR21 : fX1_tie_0b31 (fX1_tie_0l16 fu6) (fX1_tie_0l31 (fX1_tie_0l16 fu6) fu21) p2 p3 (nI i6_4) (nI i21_5) t21 = R := hR21
            refine lv_iload hx hb dX1_tie_31 (lv_at hl 0 rfl) ?_
            refine lv_aload_n hx hb dX1_tie_33 rfl (lv_at hl 2 rfl) ?_
            refine x_getI E h (fi_bo_pieces g) rfl hwX1 (by decide) (by decide +kernel) (v := nI n2) e23 dX1_tie_34 ?_
            replace hR21 := bd_to hR21 e23
            refine lv_icmp_ge (tgt := 98) hx hb dX1_tie_37 (by decide) (fun c24 => ?_) (fun c24 => ?_)
            · skip
              replace hR21 := it_t hR21 c24
              have b25 : n2 ≤ i21_5 := y_le (a := n2) (b := i21_5) (by omega) (by omega) c24
              replace hR21 := bd_to hR21 (nI_add i6_4 1)
              refine lv_iinc (v := (nI (i6_4 + 1))) (lv' := [(4, .int (nI (i6_4 + 1))), (5, .int (nI i21_5)), (0, .ref (g.2.1 25)), (1, .ref (g.2.1 16)), (2, .int p2), (3, .int p3)]) hx hb dX1_tie_98 hl (k := 1) rfl (nI_add i6_4 1) (by decide) rfl (fun ls hl => ?_)
              refine lv_goto (tgt := 16) hx hb dX1_tie_101 (by decide) ?_
              exact ih6 t21 (i6_4 + 1) hI_21 hF_21 e22 e23 (by omega) hR21 (by omega) _ _ _ h (lv_sub hl [0, 2, 3, 4, 5] rfl)
            · skip
              replace hR21 := it_f hR21 c24
              have b26 : i21_5 < n2 := y_nle (a := n2) (b := i21_5) (by omega) (by omega) c24
              refine lv_aload_n hx hb dX1_tie_40 rfl (lv_at hl 3 rfl) ?_
              refine lv_iload hx hb dX1_tie_41 (lv_at hl 1 rfl) ?_
              refine lv_iload hx hb dX1_tie_43 (lv_at hl 0 rfl) ?_
              refine lv_iload_n hx hb dX1_tie_45 rfl (lv_at hl 4 rfl) ?_
              refine x_vi E h (na := 3) (As := [.int (nI i6_4), .int (nI i21_5), .int p2]) (aX2_likeness_0 l g t21 hI_21 i6_4 i21_5 p2 (by omega) (by omega)) (oc_cu g) rfl gX1_tie_X2_likeness rfl ⟨rfl, rfl⟩ rfl (by decide +kernel) ⟨Nat.le_of_ble_eq_true rfl, Nat.le_of_ble_eq_true rfl⟩ hl.1 rfl (Nat.le_of_ble_eq_true rfl) dX1_tie_46 ⟨Nat.le_of_ble_eq_true rfl, Nat.le_of_ble_eq_true rfl⟩ (fun r27 s27 H locs q27 h => ?_)
              obtain ⟨x27, rfl⟩ := q27
              replace hR21 := bd_to hR21 x27
              refine lv_aload_n hx hb dX1_tie_49 rfl (lv_at hl 3 rfl) ?_
              refine lv_iload hx hb dX1_tie_50 (lv_at hl 1 rfl) ?_
              refine lv_iload hx hb dX1_tie_52 (lv_at hl 0 rfl) ?_
              refine x_vi E h (na := 2) (As := [.int (nI i6_4), .int (nI i21_5)]) (aX2_doTouch_0 l g t21 hI_21 i6_4 i21_5 (by omega) (by omega)) (oc_cu g) rfl gX1_tie_X2_doTouch rfl ⟨rfl, rfl⟩ rfl (by decide +kernel) ⟨Nat.le_of_ble_eq_true rfl, Nat.le_of_ble_eq_true rfl⟩ hl.1 rfl (Nat.le_of_ble_eq_true rfl) dX1_tie_54 ⟨Nat.le_of_ble_eq_true rfl, Nat.le_of_ble_eq_true rfl⟩ (fun r28 s28 H locs q28 h => ?_)
              obtain ⟨x28, rfl⟩ := q28
              replace hR21 := bd_to hR21 x28
              have j65_31 : ∀ (y31_s0 : Int32), fX1_tie_0b65 (fX1_tie_0l16 fu6) (fX1_tie_0l31 (fX1_tie_0l16 fu6) fu21) p2 p3 (nI i6_4) (nI i21_5) y31_s0 r27 t21 = R → ∀ (H : Heap) (locs : List Loc) (ls : Array Slot), HW g t21 s H locs → lv_has ls 7 [(5, .int (nI i21_5)), (4, .int (nI i6_4)), (0, .ref (g.2.1 25)), (1, .ref (g.2.1 16)), (2, .int p2), (3, .int p3)] → W p l e { frames := 3, cells := 0, slots := 0, locals := 69 } s m args below meth c H locs 0 0 (MQ below PQz args s 0 0 (Aw g)) (F0 m 65 ls [.int y31_s0, .int r27]) := by
                intro y31_s0 hR31 H locs ls h hl
                refine lv_isub hx hb dX1_tie_65 ?_
                refine lv_topi (fun x32 e32 => ?_)
                replace hR31 := bd_to hR31 e32.symm
                refine lv_istore (lv' := [(6, .int x32), (5, .int (nI i21_5)), (4, .int (nI i6_4)), (0, .ref (g.2.1 25)), (1, .ref (g.2.1 16)), (2, .int p2), (3, .int p3)]) hx hb dX1_tie_66 hl (by decide) rfl (fun ls hl => ?_)
                refine lv_aload_n hx hb dX1_tie_68 rfl (lv_at hl 3 rfl) ?_
                refine x_getR E h (fr_bo_bond g) rfl hwX1 (by decide) (by decide +kernel) dX1_tie_69 ?_
                refine lv_iload hx hb dX1_tie_72 (lv_at hl 2 rfl) ?_
                refine x_row E h (fg_bo_bond g) (i := nI i6_4) (vp_in_nI (by omega) (by decide)) (kr := 27 + i6_4) (by rw [nI_clamp (by omega)]) dX1_tie_74 ?_
                replace hR31 := bd_to hR31 (nI_clamp (n := i6_4) (by omega))
                refine lv_iload hx hb dX1_tie_75 (lv_at hl 1 rfl) ?_
                refine lv_iload hx hb dX1_tie_77 (lv_at hl 0 rfl) ?_
                refine y_stI E h hI_21 hF_21 (gi_bo_bond g i6_4 (by omega)) (i := nI i21_5) (vp_in_nI (by omega) (by decide)) (j := i21_5) (nI_clamp (by omega)) (ba_none ((gb_bo_bond i6_4) (by omega))) (gr_bo_bond i6_4 [(21, 29), (40, 40)] (by omega) rfl) dX1_tie_79 (fun s33 H locs q33 hI33 hF33 h => ?_)
                replace hR31 := st_to hR31 (nI_clamp (n := i21_5) (by omega)) q33
                have e34 : s33.1 5 = nI n1 := (congrArg (fun t : ST => t.1 5) q33).trans e22
                have e35 : s33.1 9 = nI n2 := (congrArg (fun t : ST => t.1 9) q33).trans e23
                refine lv_aload_n hx hb dX1_tie_80 rfl (lv_at hl 3 rfl) ?_
                refine x_getR E h (fr_bo_bond g) rfl hwX1 (by decide) (by decide +kernel) dX1_tie_81 ?_
                refine lv_iload hx hb dX1_tie_84 (lv_at hl 1 rfl) ?_
                refine x_row E h (fg_bo_bond g) (i := nI i21_5) (vp_in_nI (by omega) (by decide)) (kr := 27 + i21_5) (by rw [nI_clamp (by omega)]) dX1_tie_86 ?_
                replace hR31 := bd_to hR31 (nI_clamp (n := i21_5) (by omega))
                refine lv_iload hx hb dX1_tie_87 (lv_at hl 2 rfl) ?_
                refine lv_iload hx hb dX1_tie_89 (lv_at hl 0 rfl) ?_
                refine y_stI E h hI33 hF33 (gi_bo_bond g i21_5 (by omega)) (i := nI i6_4) (vp_in_nI (by omega) (by decide)) (j := i6_4) (nI_clamp (by omega)) (ba_none ((gb_bo_bond i21_5) (by omega))) (gr_bo_bond i21_5 [(21, 29), (40, 40)] (by omega) rfl) dX1_tie_91 (fun s36 H locs q36 hI36 hF36 h => ?_)
                replace hR31 := st_to hR31 (nI_clamp (n := i6_4) (by omega)) q36
                have e37 : s36.1 5 = nI n1 := (congrArg (fun t : ST => t.1 5) q36).trans e34
                have e38 : s36.1 9 = nI n2 := (congrArg (fun t : ST => t.1 9) q36).trans e35
                replace hR31 := bd_to hR31 (nI_add i21_5 1)
                refine lv_iinc (v := (nI (i21_5 + 1))) (lv' := [(5, .int (nI (i21_5 + 1))), (6, .int x32), (4, .int (nI i6_4)), (0, .ref (g.2.1 25)), (1, .ref (g.2.1 16)), (2, .int p2), (3, .int p3)]) hx hb dX1_tie_92 hl (k := 1) rfl (nI_add i21_5 1) (by decide) rfl (fun ls hl => ?_)
                refine lv_goto (tgt := 31) hx hb dX1_tie_95 (by decide) ?_
                exact ih21 s36 (i21_5 + 1) hI36 hF36 e37 e38 (by omega) hR31 (by omega) _ _ _ h (lv_sub hl [0, 2, 3, 4, 5, 6] rfl)
              refine lv_if_eq (tgt := 64) hx hb dX1_tie_57 (by decide) (fun c29 => ?_) (fun c29 => ?_)
              · skip
                replace hR21 := it_t hR21 c29
                subst c29
                refine lv_iconst (v := 0) hx hb dX1_tie_64 (by decide) ?_
                exact j65_31 0 hR21 _ _ _ h (lv_sub hl [0, 1, 2, 3, 4, 5] rfl)
              · skip
                replace hR21 := it_f hR21 c29
                refine lv_iload_n hx hb dX1_tie_60 rfl (lv_at hl 5 rfl) ?_
                refine lv_goto (tgt := 65) hx hb dX1_tie_61 (by decide) ?_
                exact j65_31 p3 hR21 _ _ _ h (lv_sub hl [0, 1, 2, 3, 4, 5] rfl)
        exact loop31_21 4096 t6 (i6_4 + 1) hI_6 hF_6 e7 e8 (by omega) hR6 (by omega) _ _ _ h (lv_sub hl [0, 1, 2, 3, 4, 5] rfl)
  exact loop16_6 4096 s3 0 hI3 hF3 e4 e5 (Nat.zero_le _) hR (by omega) _ _ _ h (lv_sub hl [0, 1, 2, 3, 4] rfl)
set_option maxHeartbeats 4000000 in
set_option maxRecDepth 100000 in
theorem aX0_meetNear_0 (l : Launch) (g : CX) (σ : ST) (hI : INV σ) (p1 : Int32) (p2 : Int32) (p3 : Int64) : XM l g yX0_meetNear wsX0_meetNear { frames := 1, cells := 0, slots := 0, locals := 21 } [.ref (g.2.1 47), .int p1, .int p2, .long p3] σ (XQv g (fun σ' => fX0_meetNear_0 p1 p2 p3 σ = σ' ∧ INV σ' ∧ Fr [(14, 16)] [] σ σ')) := by
  refine x_met (own := RX0) (cc := cX0_meetNear) (maxL := 5) (ret := none) (lv := [(0, .ref (g.2.1 47)), (1, .int p1), (2, .int p2), (3, .long p3)]) (by decide) rfl rfl (Nat.le_of_ble_eq_true rfl) rfl ?_
  intro p e s m args below meth c ls E h hl
  have hx := E.1
  have hb := E.2.1
  have hown := E.2.2.2.1
  have hts := E.2.2.2.2.1
  have hF : Fr [(14, 16)] [] σ σ := Fr.refl σ
  obtain ⟨R, hR0⟩ : ∃ R, fX0_meetNear_0 p1 p2 p3 σ = R := ⟨_, rfl⟩
  have hR : fX0_meetNear_0b0 p1 p2 p3 σ = R := hR0
  have hwX0 : ∀ w ∈ wsX00, w ∈ wsX0_meetNear := by decide +kernel
  generalize hPQ : XQv g (fun σ' => fX0_meetNear_0 p1 p2 p3 σ = σ' ∧ INV σ' ∧ Fr [(14, 16)] [] σ σ') = PQz
  refine lv_iload_n hx hb dX0_meetNear_0 rfl (lv_at hl 2 rfl) ?_
  refine lv_aload_n hx hb dX0_meetNear_1 rfl (lv_at hl 0 rfl) ?_
  obtain ⟨x1, e1⟩ : ∃ x, σ.1 13 = x := ⟨_, rfl⟩
  refine x_getI E h (fi_al_least g) rfl hwX0 (by decide) (by decide +kernel) (v := x1) e1 dX0_meetNear_2 ?_
  replace hR := bd_to hR e1
  refine lv_icmp_lt (tgt := 62) hx hb dX0_meetNear_5 (by decide) (fun c2 => ?_) (fun c2 => ?_)
  · skip
    replace hR := it_t hR c2
    subst hPQ
    exact x_vret E h ⟨hR0.trans hR.symm, hI, hF⟩ dX0_meetNear_62
  · skip
    replace hR := it_f hR c2
    refine lv_aload_n hx hb dX0_meetNear_8 rfl (lv_at hl 0 rfl) ?_
    refine lv_dup hx hb dX0_meetNear_9 rfl ?_
    obtain ⟨x5, e5⟩ : ∃ x, σ.1 14 = x := ⟨_, rfl⟩
    refine x_getI E h (fi_al_nearOnes g) rfl hwX0 (by decide) (by decide +kernel) (v := x5) e5 dX0_meetNear_10 ?_
    replace hR := bd_to hR e5
    refine lv_iconst (v := 1) hx hb dX0_meetNear_13 (by decide) ?_
    refine lv_iadd hx hb dX0_meetNear_14 ?_
    refine lv_topi (fun x6 e6 => ?_)
    replace hR := bd_to hR e6.symm
    refine y_putI E h hI hF (ty := .int) (v := x6) (fi_al_nearOnes g) rfl hwX0 tyX0_ok nmX0 (by decide) (by decide +kernel) (by decide +kernel) (by decide +kernel) rfl rfl (ba_none rfl) rfl dX0_meetNear_15 (fun s7 H locs q7 hI7 hF7 h => ?_)
    replace hR := bd_to hR q7.symm
    have e8 : s7.1 13 = x1 := (congrArg (fun t : ST => t.1 13) q7).trans e1
    have e9 : s7.1 14 = x6 := congrArg (fun t : ST => t.1 14) q7
    refine lv_aload_n hx hb dX0_meetNear_18 rfl (lv_at hl 0 rfl) ?_
    refine lv_aload_n hx hb dX0_meetNear_19 rfl (lv_at hl 0 rfl) ?_
    obtain ⟨x10, e10⟩ : ∃ x, s7.1 15 = x := ⟨_, rfl⟩
    refine x_getI E h (fi_al_fewest g) rfl hwX0 (by decide) (by decide +kernel) (v := x10) e10 dX0_meetNear_20 ?_
    replace hR := bd_to hR e10
    refine lv_iload_n hx hb dX0_meetNear_23 rfl (lv_at hl 1 rfl) ?_
    refine x_min E hl.1 (by decide +kernel) (by decide +kernel) (by decide +kernel) (by decide +kernel) ⟨Nat.le_of_ble_eq_true rfl, Nat.le_of_ble_eq_true rfl⟩ ⟨Nat.zero_le _, Nat.zero_le _⟩ dX0_meetNear_24 ?_
    refine lv_topi (fun x11 e11 => ?_)
    replace hR := bd_to hR e11.symm
    refine y_putI E h hI7 hF7 (ty := .int) (v := x11) (fi_al_fewest g) rfl hwX0 tyX0_ok nmX0 (by decide) (by decide +kernel) (by decide +kernel) (by decide +kernel) rfl rfl (ba_none rfl) rfl dX0_meetNear_27 (fun s12 H locs q12 hI12 hF12 h => ?_)
    replace hR := bd_to hR q12.symm
    have e13 : s12.1 13 = x1 := (congrArg (fun t : ST => t.1 13) q12).trans e8
    have e14 : s12.1 14 = x6 := (congrArg (fun t : ST => t.1 14) q12).trans e9
    have e15 : s12.1 15 = x11 := congrArg (fun t : ST => t.1 15) q12
    refine lv_aload_n hx hb dX0_meetNear_30 rfl (lv_at hl 0 rfl) ?_
    refine lv_aload_n hx hb dX0_meetNear_31 rfl (lv_at hl 0 rfl) ?_
    obtain ⟨x16, e16⟩ : ∃ x, s12.1 16 = x := ⟨_, rfl⟩
    refine x_getI E h (fi_al_most g) rfl hwX0 (by decide) (by decide +kernel) (v := x16) e16 dX0_meetNear_32 ?_
    replace hR := bd_to hR e16
    refine lv_iload_n hx hb dX0_meetNear_35 rfl (lv_at hl 1 rfl) ?_
    refine x_max E hl.1 (by decide +kernel) (by decide +kernel) (by decide +kernel) (by decide +kernel) ⟨Nat.le_of_ble_eq_true rfl, Nat.le_of_ble_eq_true rfl⟩ ⟨Nat.zero_le _, Nat.zero_le _⟩ dX0_meetNear_36 ?_
    refine lv_topi (fun x17 e17 => ?_)
    replace hR := bd_to hR e17.symm
    refine y_putI E h hI12 hF12 (ty := .int) (v := x17) (fi_al_most g) rfl hwX0 tyX0_ok nmX0 (by decide) (by decide +kernel) (by decide +kernel) (by decide +kernel) rfl rfl (ba_none rfl) rfl dX0_meetNear_39 (fun s18 H locs q18 hI18 hF18 h => ?_)
    replace hR := bd_to hR q18.symm
    have e19 : s18.1 13 = x1 := (congrArg (fun t : ST => t.1 13) q18).trans e13
    have e20 : s18.1 14 = x6 := (congrArg (fun t : ST => t.1 14) q18).trans e14
    have e21 : s18.1 15 = x11 := (congrArg (fun t : ST => t.1 15) q18).trans e15
    have e22 : s18.1 16 = x17 := congrArg (fun t : ST => t.1 16) q18
    refine lv_aload_n hx hb dX0_meetNear_42 rfl (lv_at hl 0 rfl) ?_
    refine lv_dup hx hb dX0_meetNear_43 rfl ?_
    refine x_getL E h (fl_al_always g) rfl hwX0 (by decide) (by decide +kernel) rfl dX0_meetNear_44 ?_
    replace hR := bd_to hR rfl
    refine lv_lload_n hx hb dX0_meetNear_47 rfl (lv_at hl 3 rfl) ?_
    refine lv_land hx hb dX0_meetNear_48 ?_
    refine lv_topl (fun y23 e23 => ?_)
    replace hR := bd_to hR e23.symm
    refine y_putL E h hI18 hF18 (ty := .long) (v := y23) (fl_al_always g) rfl hwX0 tyX0_ok nmX0 (by decide) (by decide +kernel) (by decide +kernel) (by decide +kernel) rfl rfl dX0_meetNear_49 (fun s24 H locs q24 hI24 hF24 h => ?_)
    replace hR := bd_to hR q24.symm
    have e25 : s24.1 13 = x1 := (congrArg (fun t : ST => t.1 13) q24).trans e19
    have e26 : s24.1 14 = x6 := (congrArg (fun t : ST => t.1 14) q24).trans e20
    have e27 : s24.1 15 = x11 := (congrArg (fun t : ST => t.1 15) q24).trans e21
    have e28 : s24.1 16 = x17 := (congrArg (fun t : ST => t.1 16) q24).trans e22
    refine lv_aload_n hx hb dX0_meetNear_52 rfl (lv_at hl 0 rfl) ?_
    refine lv_dup hx hb dX0_meetNear_53 rfl ?_
    refine x_getL E h (fl_al_ever g) rfl hwX0 (by decide) (by decide +kernel) rfl dX0_meetNear_54 ?_
    replace hR := bd_to hR rfl
    refine lv_lload_n hx hb dX0_meetNear_57 rfl (lv_at hl 3 rfl) ?_
    refine lv_lor hx hb dX0_meetNear_58 ?_
    refine lv_topl (fun y29 e29 => ?_)
    replace hR := bd_to hR e29.symm
    refine y_putL E h hI24 hF24 (ty := .long) (v := y29) (fl_al_ever g) rfl hwX0 tyX0_ok nmX0 (by decide) (by decide +kernel) (by decide +kernel) (by decide +kernel) rfl rfl dX0_meetNear_59 (fun s30 H locs q30 hI30 hF30 h => ?_)
    replace hR := bd_to hR q30.symm
    have e31 : s30.1 13 = x1 := (congrArg (fun t : ST => t.1 13) q30).trans e25
    have e32 : s30.1 14 = x6 := (congrArg (fun t : ST => t.1 14) q30).trans e26
    have e33 : s30.1 15 = x11 := (congrArg (fun t : ST => t.1 15) q30).trans e27
    have e34 : s30.1 16 = x17 := (congrArg (fun t : ST => t.1 16) q30).trans e28
    subst hPQ
    exact x_vret E h ⟨hR0.trans hR.symm, hI30, hF30⟩ dX0_meetNear_62
