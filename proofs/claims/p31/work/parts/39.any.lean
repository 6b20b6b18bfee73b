set_option maxHeartbeats 4000000 in
set_option maxRecDepth 100000 in
theorem aX12_isHeard_0 (l : Launch) (g : CX) (σ : ST) (hI : INV σ) (p1 : Nat) (hh0 : p1 < 48) : XM l g yX12_isHeard wsX12_isHeard { frames := 0, cells := 0, slots := 0, locals := 0 } [.ref (g.2.1 79), .int (nI p1)] σ (XQi g (fun r σ' => fX12_isHeard_0 (nI p1) σ = r ∧ ((1 = r ∧ hdS (σ.2.2 68) (σ.2.2 69) (σ.2.2 70) (σ.2.2 66) p1 = true) ∨ (0 = r ∧ hdS (σ.2.2 68) (σ.2.2 69) (σ.2.2 70) (σ.2.2 66) p1 = false)) ∧ σ = σ')) := by
  refine x_met (own := RX12) (cc := cX12_isHeard) (maxL := 3) (ret := (some .boolean)) (lv := [(0, .ref (g.2.1 79)), (1, .int (nI p1))]) (by decide) rfl rfl (Nat.le_of_ble_eq_true rfl) rfl ?_
  intro p e s m args below meth c ls E h hl
  have hx := E.1
  have hb := E.2.1
  have hown := E.2.2.2.1
  have hts := E.2.2.2.2.1
  obtain ⟨R, hR0⟩ : ∃ R, fX12_isHeard_0 (nI p1) σ = R := ⟨_, rfl⟩
  have hR : fX12_isHeard_0b0 (nI p1) σ = R := hR0
  have hwX12 : ∀ w ∈ wsX120, w ∈ wsX12_isHeard := by decide +kernel
  generalize hPQ : XQi g (fun r σ' => fX12_isHeard_0 (nI p1) σ = r ∧ ((1 = r ∧ hdS (σ.2.2 68) (σ.2.2 69) (σ.2.2 70) (σ.2.2 66) p1 = true) ∨ (0 = r ∧ hdS (σ.2.2 68) (σ.2.2 69) (σ.2.2 70) (σ.2.2 66) p1 = false)) ∧ σ = σ') = PQz
  refine lv_aload_n hx hb dX12_isHeard_0 rfl (lv_at hl 0 rfl) ?_
  refine x_getR E h (fr_mo_number g) rfl hwX12 (by decide) (by decide +kernel) dX12_isHeard_1 ?_
  refine lv_iconst (v := 4) hx hb dX12_isHeard_4 (by decide) ?_
  refine lv_iload_n hx hb dX12_isHeard_5 rfl (lv_at hl 1 rfl) ?_
  refine lv_imul hx hb dX12_isHeard_6 ?_
  refine x_topI (v2 := nI (4 * p1)) (pk_mul 4 p1) ?_
  replace hR := bd_to hR (pk_mul 4 p1)
  refine x_ldI E h (ia_mo_number g) (i := nI (4 * p1)) (vp_in_nI (by omega) (by decide)) (v := σ.2.2 68 (4 * p1)) (congrArg (σ.2.2 68) (nI_clamp (n := 4 * p1) (by omega))) dX12_isHeard_7 ?_
  replace hR := bd_to hR (congrArg (σ.2.2 68) (nI_clamp (n := 4 * p1) (by omega)))
  refine lv_aload_n hx hb dX12_isHeard_8 rfl (lv_at hl 0 rfl) ?_
  refine x_getR E h (fr_mo_number g) rfl hwX12 (by decide) (by decide +kernel) dX12_isHeard_9 ?_
  refine lv_iconst (v := 4) hx hb dX12_isHeard_12 (by decide) ?_
  refine lv_iload_n hx hb dX12_isHeard_13 rfl (lv_at hl 1 rfl) ?_
  refine lv_imul hx hb dX12_isHeard_14 ?_
  refine x_topI (v2 := nI (4 * p1)) (pk_mul 4 p1) ?_
  replace hR := bd_to hR (pk_mul 4 p1)
  refine lv_iconst (v := 1) hx hb dX12_isHeard_15 (by decide) ?_
  refine lv_iadd hx hb dX12_isHeard_16 ?_
  refine x_topI (v2 := nI ((4 * p1) + 1)) (nI_add (4 * p1) 1) ?_
  replace hR := bd_to hR (nI_add (4 * p1) 1)
  refine x_ldI E h (ia_mo_number g) (i := nI ((4 * p1) + 1)) (vp_in_nI (by omega) (by decide)) (v := σ.2.2 68 ((4 * p1) + 1)) (congrArg (σ.2.2 68) (nI_clamp (n := (4 * p1) + 1) (by omega))) dX12_isHeard_17 ?_
  replace hR := bd_to hR (congrArg (σ.2.2 68) (nI_clamp (n := (4 * p1) + 1) (by omega)))
  refine lv_iadd hx hb dX12_isHeard_18 ?_
  refine lv_topi (fun x1 e1 => ?_)
  replace hR := bd_to hR e1.symm
  refine lv_aload_n hx hb dX12_isHeard_19 rfl (lv_at hl 0 rfl) ?_
  refine x_getR E h (fr_mo_number g) rfl hwX12 (by decide) (by decide +kernel) dX12_isHeard_20 ?_
  refine lv_iconst (v := 4) hx hb dX12_isHeard_23 (by decide) ?_
  refine lv_iload_n hx hb dX12_isHeard_24 rfl (lv_at hl 1 rfl) ?_
  refine lv_imul hx hb dX12_isHeard_25 ?_
  refine x_topI (v2 := nI (4 * p1)) (pk_mul 4 p1) ?_
  replace hR := bd_to hR (pk_mul 4 p1)
  refine lv_iconst (v := 2) hx hb dX12_isHeard_26 (by decide) ?_
  refine lv_iadd hx hb dX12_isHeard_27 ?_
  refine x_topI (v2 := nI ((4 * p1) + 2)) (nI_add (4 * p1) 2) ?_
  replace hR := bd_to hR (nI_add (4 * p1) 2)
  refine x_ldI E h (ia_mo_number g) (i := nI ((4 * p1) + 2)) (vp_in_nI (by omega) (by decide)) (v := σ.2.2 68 ((4 * p1) + 2)) (congrArg (σ.2.2 68) (nI_clamp (n := (4 * p1) + 2) (by omega))) dX12_isHeard_28 ?_
  replace hR := bd_to hR (congrArg (σ.2.2 68) (nI_clamp (n := (4 * p1) + 2) (by omega)))
  refine lv_iadd hx hb dX12_isHeard_29 ?_
  refine lv_topi (fun x2 e2 => ?_)
  replace hR := bd_to hR e2.symm
  refine lv_aload_n hx hb dX12_isHeard_30 rfl (lv_at hl 0 rfl) ?_
  refine x_getR E h (fr_mo_number g) rfl hwX12 (by decide) (by decide +kernel) dX12_isHeard_31 ?_
  refine lv_iconst (v := 4) hx hb dX12_isHeard_34 (by decide) ?_
  refine lv_iload_n hx hb dX12_isHeard_35 rfl (lv_at hl 1 rfl) ?_
  refine lv_imul hx hb dX12_isHeard_36 ?_
  refine x_topI (v2 := nI (4 * p1)) (pk_mul 4 p1) ?_
  replace hR := bd_to hR (pk_mul 4 p1)
  refine lv_iconst (v := 3) hx hb dX12_isHeard_37 (by decide) ?_
  refine lv_iadd hx hb dX12_isHeard_38 ?_
  refine x_topI (v2 := nI ((4 * p1) + 3)) (nI_add (4 * p1) 3) ?_
  replace hR := bd_to hR (nI_add (4 * p1) 3)
  refine x_ldI E h (ia_mo_number g) (i := nI ((4 * p1) + 3)) (vp_in_nI (by omega) (by decide)) (v := σ.2.2 68 ((4 * p1) + 3)) (congrArg (σ.2.2 68) (nI_clamp (n := (4 * p1) + 3) (by omega))) dX12_isHeard_39 ?_
  replace hR := bd_to hR (congrArg (σ.2.2 68) (nI_clamp (n := (4 * p1) + 3) (by omega)))
  refine lv_iadd hx hb dX12_isHeard_40 ?_
  refine lv_topi (fun x3 e3 => ?_)
  replace hR := bd_to hR e3.symm
  refine lv_istore_n (lv' := [(2, .int x3), (0, .ref (g.2.1 79)), (1, .int (nI p1))]) hx hb dX12_isHeard_41 rfl hl (by decide) rfl (fun ls hl => ?_)
  refine lv_aload_n hx hb dX12_isHeard_42 rfl (lv_at hl 1 rfl) ?_
  refine x_getR E h (fr_mo_isDeaf g) rfl hwX12 (by decide) (by decide +kernel) dX12_isHeard_43 ?_
  refine lv_iload_n hx hb dX12_isHeard_46 rfl (lv_at hl 2 rfl) ?_
  refine x_ldZ E h (ia_mo_isDeaf g) (i := nI p1) (vp_in_nI (by omega) (by decide)) (v := σ.2.2 69 p1) (congrArg (σ.2.2 69) (nI_clamp (n := p1) (by omega))) dX12_isHeard_47 ?_
  replace hR := bd_to hR (congrArg (σ.2.2 69) (nI_clamp (n := p1) (by omega)))
  refine lv_if_ne (tgt := 74) hx hb dX12_isHeard_48 (by decide) (fun c4 => ?_) (fun c4 => ?_)
  · skip
    replace hR := it_f hR c4
    refine lv_iconst (v := 0) hx hb dX12_isHeard_74 (by decide) ?_
    replace hR : fX12_isHeard_0b75 0 σ = R := hR
    subst hPQ
    exact x_zret E h rfl ⟨hR0.trans hR.symm, (Or.inr (⟨rfl, (hdS_f1 c4)⟩)), rfl⟩ dX12_isHeard_75
  · skip
    replace hR := it_t hR c4
    refine lv_aload_n hx hb dX12_isHeard_51 rfl (lv_at hl 1 rfl) ?_
    refine x_getR E h (fr_mo_isOut g) rfl hwX12 (by decide) (by decide +kernel) dX12_isHeard_52 ?_
    refine lv_iload_n hx hb dX12_isHeard_55 rfl (lv_at hl 2 rfl) ?_
    refine x_ldZ E h (ia_mo_isOut g) (i := nI p1) (vp_in_nI (by omega) (by decide)) (v := σ.2.2 70 p1) (congrArg (σ.2.2 70) (nI_clamp (n := p1) (by omega))) dX12_isHeard_56 ?_
    replace hR := bd_to hR (congrArg (σ.2.2 70) (nI_clamp (n := p1) (by omega)))
    refine lv_if_ne (tgt := 74) hx hb dX12_isHeard_57 (by decide) (fun c7 => ?_) (fun c7 => ?_)
    · skip
      replace hR := it_f hR c7
      refine lv_iconst (v := 0) hx hb dX12_isHeard_74 (by decide) ?_
      replace hR : fX12_isHeard_0b75 0 σ = R := hR
      subst hPQ
      exact x_zret E h rfl ⟨hR0.trans hR.symm, (Or.inr (⟨rfl, (hdS_f2 c7)⟩)), rfl⟩ dX12_isHeard_75
    · skip
      replace hR := it_t hR c7
      refine lv_iload_n hx hb dX12_isHeard_60 rfl (lv_at hl 0 rfl) ?_
      refine lv_aload_n hx hb dX12_isHeard_61 rfl (lv_at hl 1 rfl) ?_
      refine x_getR E h (fr_mo_rule g) rfl hwX12 (by decide) (by decide +kernel) dX12_isHeard_62 ?_
      refine lv_iconst (v := 1) hx hb dX12_isHeard_65 (by decide) ?_
      refine x_ldI E h (ia_mo_rule g) (i := nI 1) (vp_in_nI (by omega) (by decide)) (v := σ.2.2 66 1) (congrArg (σ.2.2 66) (nI_clamp (n := 1) (by omega))) dX12_isHeard_66 ?_
      replace hR := bd_to hR (congrArg (σ.2.2 66) (nI_clamp (n := 1) (by omega)))
      refine lv_icmp_lt (tgt := 74) hx hb dX12_isHeard_67 (by decide) (fun c10 => ?_) (fun c10 => ?_)
      · skip
        replace hR := it_t hR c10
        refine lv_iconst (v := 0) hx hb dX12_isHeard_74 (by decide) ?_
        replace hR : fX12_isHeard_0b75 0 σ = R := hR
        subst hPQ
        exact x_zret E h rfl ⟨hR0.trans hR.symm, (Or.inr (⟨rfl, (hdS_f3 (by rw [← e1, ← e2, ← e3]; exact c10))⟩)), rfl⟩ dX12_isHeard_75
      · skip
        replace hR := it_f hR c10
        refine lv_iconst (v := 1) hx hb dX12_isHeard_70 (by decide) ?_
        refine lv_goto (tgt := 75) hx hb dX12_isHeard_71 (by decide) ?_
        replace hR : fX12_isHeard_0b75 1 σ = R := hR
        subst hPQ
        exact x_zret E h rfl ⟨hR0.trans hR.symm, (Or.inl ⟨rfl, (hdS_t c4 c7 (by rw [← e1, ← e2, ← e3]; exact c10))⟩), rfl⟩ dX12_isHeard_75
set_option maxHeartbeats 4000000 in
set_option maxRecDepth 100000 in
theorem aX12_findMiddle_0 (l : Launch) (g : CX) (σ : ST) (hI : INV σ) (F31 : Nat) (eF31 : σ.1 31 = nI F31) (hh0 : F31 ≤ 48) : XM l g yX12_findMiddle wsX12_findMiddle { frames := 0, cells := 0, slots := 0, locals := 0 } [.ref (g.2.1 79)] σ (XQv g (fun σ' => fX12_findMiddle_0 σ = σ' ∧ ((σ'.1 38 = spS (σ.2.2 68) (σ.2.2 80) F31 4)) ∧ INV σ' ∧ Fr [(38, 38)] [(81, 82)] σ σ')) := by
  refine x_met (own := RX12) (cc := cX12_findMiddle) (maxL := 6) (ret := none) (lv := [(0, .ref (g.2.1 79))]) (by decide) rfl rfl (Nat.le_of_ble_eq_true rfl) rfl ?_
  intro p e s m args below meth c ls E h hl
  have hx := E.1
  have hb := E.2.1
  have hown := E.2.2.2.1
  have hts := E.2.2.2.2.1
  have hF : Fr [(38, 38)] [(81, 82)] σ σ := Fr.refl σ
  obtain ⟨R, hR0⟩ : ∃ R, fX12_findMiddle_0 σ = R := ⟨_, rfl⟩
  have hR : fX12_findMiddle_0b0 σ = R := hR0
  have hwX12 : ∀ w ∈ wsX120, w ∈ wsX12_findMiddle := by decide +kernel
  generalize hPQ : XQv g (fun σ' => fX12_findMiddle_0 σ = σ' ∧ ((σ'.1 38 = spS (σ.2.2 68) (σ.2.2 80) F31 4)) ∧ INV σ' ∧ Fr [(38, 38)] [(81, 82)] σ σ') = PQz
  refine lv_aload_n hx hb dX12_findMiddle_0 rfl (lv_at hl 0 rfl) ?_
  refine lv_iconst (v := 0) hx hb dX12_findMiddle_1 (by decide) ?_
  refine y_putI E h hI hF (ty := .int) (v := 0) (fi_mo_apart g) rfl hwX12 tyX12_ok nmX12 (by decide) (by decide +kernel) (by decide +kernel) (by decide +kernel) rfl rfl (ba_none rfl) rfl dX12_findMiddle_2 (fun s1 H locs q1 hI1 hF1 h => ?_)
  replace hR := bd_to hR q1.symm
  have e2 : s1.1 31 = nI F31 := (congrArg (fun t : ST => t.1 31) q1).trans eF31
  have e3 : s1.1 38 = 0 := congrArg (fun t : ST => t.1 38) q1
  have a4 : s1.2.2 68 = σ.2.2 68 := (show s1.2.2 68 = σ.2.2 68 from (congrArg (fun t : ST => t.2.2 68) q1).trans rfl).trans rfl
  have a5 : s1.2.2 80 = σ.2.2 80 := (show s1.2.2 80 = σ.2.2 80 from (congrArg (fun t : ST => t.2.2 80) q1).trans rfl).trans rfl
  refine lv_iconst (v := 0) hx hb dX12_findMiddle_5 (by decide) ?_
  refine lv_istore_n (lv' := [(1, .int 0), (0, .ref (g.2.1 79))]) hx hb dX12_findMiddle_6 rfl hl (by decide) rfl (fun ls hl => ?_)
  have loop7_6 : ∀ (fu : Nat) (t6 : ST) (i6_1 : Nat), INV t6 → Fr [(38, 38)] [(81, 82)] σ t6 → t6.1 31 = nI F31 → i6_1 ≤ 4 → t6.2.2 68 = σ.2.2 68 → t6.2.2 80 = σ.2.2 80 → t6.1 38 = spS (σ.2.2 68) (σ.2.2 80) F31 i6_1 → fX12_findMiddle_0l7 fu (nI i6_1) t6 = R → 4 - i6_1 < fu → ∀ (H : Heap) (locs : List Loc) (ls : Array Slot), HW g t6 s H locs → lv_has ls 6 [(1, .int (nI i6_1)), (0, .ref (g.2.1 79))] → W p l e { frames := 0, cells := 0, slots := 0, locals := 0 } s m args below meth c H locs 0 0 (MQ below PQz args s 0 0 (Aw g)) (F0 m 7 ls []) := by
    intro fu6
    induction fu6 with
    | zero => intro t6 i6_1 hI_6 hF_6 e7 bi6_1 en_6 ea_6 sp_6 hR6 hm; exact absurd hm (Nat.not_lt_zero _)
    | succ fu6 ih =>
      have ih6 := ih
      clear ih
      intro t6 i6_1 hI_6 hF_6 e7 bi6_1 en_6 ea_6 sp_6 hR6 hm6 H locs ls h hl
      replace hR6 : fX12_findMiddle_0b7 (fX12_findMiddle_0l7 fu6) (nI i6_1) t6 = R := hR6
      refine lv_iload_n hx hb dX12_findMiddle_7 rfl (lv_at hl 0 rfl) ?_
      refine lv_iconst (v := 4) hx hb dX12_findMiddle_8 (by decide) ?_
      refine lv_icmp_ge (tgt := 189) hx hb dX12_findMiddle_9 (by decide) (fun c8 => ?_) (fun c8 => ?_)
      · skip
        replace hR6 := it_t hR6 c8
        have b9 : 4 ≤ i6_1 := y_le (a := 4) (b := i6_1) (by omega) (by omega) c8
        subst hPQ
        exact x_vret E h ⟨hR0.trans hR6.symm, ((by have h9 := sp_6; rw [show i6_1 = 4 by omega] at h9; exact h9)), hI_6, hF_6⟩ dX12_findMiddle_189
      · skip
        replace hR6 := it_f hR6 c8
        have b10 : i6_1 < 4 := y_nle (a := 4) (b := i6_1) (by omega) (by omega) c8
        refine lv_iconst (v := 0) hx hb dX12_findMiddle_12 (by decide) ?_
        refine lv_istore_n (lv' := [(2, .int 0), (1, .int (nI i6_1)), (0, .ref (g.2.1 79))]) hx hb dX12_findMiddle_13 rfl hl (by decide) rfl (fun ls hl => ?_)
        refine lv_iconst (v := 0) hx hb dX12_findMiddle_14 (by decide) ?_
        refine lv_istore_n (lv' := [(3, .int 0), (2, .int 0), (1, .int (nI i6_1)), (0, .ref (g.2.1 79))]) hx hb dX12_findMiddle_15 rfl hl (by decide) rfl (fun ls hl => ?_)
        have loop16_11 : ∀ (fu : Nat) (t11 : ST) (i11_3 : Nat) (i11_2 : Nat), INV t11 → Fr [(38, 38)] [(81, 82)] σ t11 → t11.1 31 = nI F31 → i11_3 ≤ F31 → i11_2 ≤ i11_3 → t11.2.2 68 = σ.2.2 68 → t11.2.2 80 = σ.2.2 80 → t11.1 38 = spS (σ.2.2 68) (σ.2.2 80) F31 i6_1 → i11_2 = (lnS (σ.2.2 68) (σ.2.2 80) i6_1 i11_3).2 → EqO i11_2 (t11.2.2 82) (lnS (σ.2.2 68) (σ.2.2 80) i6_1 i11_3).1 → fX12_findMiddle_0l16 (fX12_findMiddle_0l7 fu6) fu (nI i6_1) (nI i11_2) (nI i11_3) t11 = R → F31 - i11_3 < fu → ∀ (H : Heap) (locs : List Loc) (ls : Array Slot), HW g t11 s H locs → lv_has ls 6 [(3, .int (nI i11_3)), (2, .int (nI i11_2)), (1, .int (nI i6_1)), (0, .ref (g.2.1 79))] → W p l e { frames := 0, cells := 0, slots := 0, locals := 0 } s m args below meth c H locs 0 0 (MQ below PQz args s 0 0 (Aw g)) (F0 m 16 ls []) := by
          intro fu11
          induction fu11 with
          | zero => intro t11 i11_3 i11_2 hI_11 hF_11 e12 bi11_3 bi11_2 en_11 ea_11 sp_11 nn_11 ln_11 hR11 hm; exact absurd hm (Nat.not_lt_zero _)
          | succ fu11 ih =>
            have ih11 := ih
            clear ih
            intro t11 i11_3 i11_2 hI_11 hF_11 e12 bi11_3 bi11_2 en_11 ea_11 sp_11 nn_11 ln_11 hR11 hm11 H locs ls h hl
            replace hR11 : fX12_findMiddle_0b16 (fX12_findMiddle_0l7 fu6) (fX12_findMiddle_0l16 (fX12_findMiddle_0l7 fu6) fu11) (nI i6_1) (nI i11_2) (nI i11_3) t11 = R := hR11
            refine lv_iload_n hx hb dX12_findMiddle_16 rfl (lv_at hl 0 rfl) ?_
            refine lv_aload_n hx hb dX12_findMiddle_17 rfl (lv_at hl 3 rfl) ?_
            refine x_getI E h (fi_mo_rows g) rfl hwX12 (by decide) (by decide +kernel) (v := nI F31) e12 dX12_findMiddle_18 ?_
            replace hR11 := bd_to hR11 e12
            refine lv_icmp_ge (tgt := 107) hx hb dX12_findMiddle_21 (by decide) (fun c13 => ?_) (fun c13 => ?_)
            · skip
              replace hR11 := it_t hR11 c13
              have b14 : F31 ≤ i11_3 := y_le (a := F31) (b := i11_3) (by omega) (by omega) c13
              have er15 : i11_3 = F31 := by omega
              have nr15 : i11_2 = (lnS (σ.2.2 68) (σ.2.2 80) i6_1 F31).2 := by have h9 := nn_11; rw [er15] at h9; exact h9
              have lr15 : EqO i11_2 (t11.2.2 82) (lnS (σ.2.2 68) (σ.2.2 80) i6_1 F31).1 := by have h9 := ln_11; rw [er15] at h9; exact h9
              refine lv_aload_n hx hb dX12_findMiddle_107 rfl (lv_at hl 3 rfl) ?_
              refine x_getR E h (fr_mo_mid g) rfl hwX12 (by decide) (by decide +kernel) dX12_findMiddle_108 ?_
              refine lv_iload_n hx hb dX12_findMiddle_111 rfl (lv_at hl 2 rfl) ?_
              refine lv_iload_n hx hb dX12_findMiddle_112 rfl (lv_at hl 1 rfl) ?_
              refine lv_if_ne (tgt := 120) hx hb dX12_findMiddle_113 (by decide) (fun c16 => ?_) (fun c16 => ?_)
              · skip
                replace hR11 := it_f hR11 c16
                have b17 : ¬ i11_2 = 0 := y_ne (a := i11_2) (b := 0) (by omega) (by omega) c16
                refine lv_aload_n hx hb dX12_findMiddle_120 rfl (lv_at hl 3 rfl) ?_
                refine x_getR E h (fr_mo_line g) rfl hwX12 (by decide) (by decide +kernel) dX12_findMiddle_121 ?_
                refine lv_iload_n hx hb dX12_findMiddle_124 rfl (lv_at hl 1 rfl) ?_
                refine lv_iconst (v := 1) hx hb dX12_findMiddle_125 (by decide) ?_
                refine lv_iadd hx hb dX12_findMiddle_126 ?_
                refine x_topI (v2 := nI (i11_2 + 1)) (nI_add i11_2 1) ?_
                replace hR11 := bd_to hR11 (nI_add i11_2 1)
                refine lv_iconst (v := 2) hx hb dX12_findMiddle_127 (by decide) ?_
                refine lv_idiv hx hb dX12_findMiddle_128 (by decide) ?_
                refine x_topI (v2 := nI ((i11_2 + 1) / 2)) (pk_div (a := i11_2 + 1) (d := 2) (by omega) (by decide) (by decide)) ?_
                replace hR11 := bd_to hR11 (pk_div (a := i11_2 + 1) (d := 2) (by omega) (by decide) (by decide))
                refine lv_iconst (v := 1) hx hb dX12_findMiddle_129 (by decide) ?_
                refine lv_isub hx hb dX12_findMiddle_130 ?_
                refine x_topI (v2 := nI (((i11_2 + 1) / 2) - 1)) (pk_sub (a := (i11_2 + 1) / 2) (b := 1) (by omega)) ?_
                replace hR11 := bd_to hR11 (pk_sub (a := (i11_2 + 1) / 2) (b := 1) (by omega))
                refine x_ldI E h (ia_mo_line g) (i := nI (((i11_2 + 1) / 2) - 1)) (vp_in_nI (by omega) (by decide)) (v := t11.2.2 82 (((i11_2 + 1) / 2) - 1)) (congrArg (t11.2.2 82) (nI_clamp (n := ((i11_2 + 1) / 2) - 1) (by omega))) dX12_findMiddle_131 ?_
                replace hR11 := bd_to hR11 (congrArg (t11.2.2 82) (nI_clamp (n := ((i11_2 + 1) / 2) - 1) (by omega)))
                refine y_stI E h hI_11 hF_11 (ia_mo_mid g) (i := nI i6_1) (vp_in_nI (by omega) (by decide)) (j := i6_1) (nI_clamp (by omega)) (ba_none rfl) rfl dX12_findMiddle_132 (fun s18 H locs q18 hI18 hF18 h => ?_)
                replace hR11 := st_to hR11 (nI_clamp (n := i6_1) (by omega)) q18
                have e19 : s18.1 31 = nI F31 := (congrArg (fun t : ST => t.1 31) q18).trans e12
                have a20 : s18.2.2 68 = σ.2.2 68 := (show s18.2.2 68 = t11.2.2 68 from (congrArg (fun t : ST => t.2.2 68) q18).trans rfl).trans en_11
                have a21 : s18.2.2 80 = σ.2.2 80 := (show s18.2.2 80 = t11.2.2 80 from (congrArg (fun t : ST => t.2.2 80) q18).trans rfl).trans ea_11
                have a22 : s18.1 38 = spS (σ.2.2 68) (σ.2.2 80) F31 i6_1 := (show s18.1 38 = t11.1 38 from (congrArg (fun t : ST => t.1 38) q18).trans rfl).trans sp_11
                have a23 : EqO i11_2 (s18.2.2 82) (lnS (σ.2.2 68) (σ.2.2 80) i6_1 F31).1 := PF.eq (Q := fun f9 => EqO i11_2 f9 (lnS (σ.2.2 68) (σ.2.2 80) i6_1 F31).1) lr15 (show s18.2.2 82 = t11.2.2 82 from (congrArg (fun t : ST => t.2.2 82) q18).trans rfl)
                have md24 : s18.2.2 81 i6_1 = midS (lnS (σ.2.2 68) (σ.2.2 80) i6_1 F31) := ((congrFun (show s18.2.2 81 = upd (t11.2.2 81) i6_1 (t11.2.2 82 (((i11_2 + 1) / 2) - 1)) from congrArg (fun t : ST => t.2.2 81) q18) i6_1).trans pk_us).trans ((lr15 _ (by omega)).trans (by rw [midS_1 (by rw [← nr15]; omega), ← nr15]))
                refine lv_iconst (v := 0) hx hb dX12_findMiddle_133 (by decide) ?_
                refine lv_istore_n (lv' := [(3, .int 0), (2, .int (nI i11_2)), (1, .int (nI i6_1)), (0, .ref (g.2.1 79))]) hx hb dX12_findMiddle_134 rfl hl (by decide) rfl (fun ls hl => ?_)
                have loop135_25 : ∀ (fu : Nat) (t25 : ST) (i25_3 : Nat), INV t25 → Fr [(38, 38)] [(81, 82)] σ t25 → t25.1 31 = nI F31 → i25_3 ≤ i11_2 → t25.2.2 68 = σ.2.2 68 → t25.2.2 80 = σ.2.2 80 → EqO i11_2 (t25.2.2 82) (lnS (σ.2.2 68) (σ.2.2 80) i6_1 F31).1 → t25.2.2 81 i6_1 = midS (lnS (σ.2.2 68) (σ.2.2 80) i6_1 F31) → t25.1 38 = apI (lnS (σ.2.2 68) (σ.2.2 80) i6_1 F31).1 (midS (lnS (σ.2.2 68) (σ.2.2 80) i6_1 F31)) (spS (σ.2.2 68) (σ.2.2 80) F31 i6_1) i25_3 → fX12_findMiddle_0l135 (fX12_findMiddle_0l7 fu6) fu (nI i6_1) (nI i11_2) (nI i25_3) t25 = R → i11_2 - i25_3 < fu → ∀ (H : Heap) (locs : List Loc) (ls : Array Slot), HW g t25 s H locs → lv_has ls 6 [(3, .int (nI i25_3)), (2, .int (nI i11_2)), (1, .int (nI i6_1)), (0, .ref (g.2.1 79))] → W p l e { frames := 0, cells := 0, slots := 0, locals := 0 } s m args below meth c H locs 0 0 (MQ below PQz args s 0 0 (Aw g)) (F0 m 135 ls []) := by
                  intro fu25
                  induction fu25 with
                  | zero => intro t25 i25_3 hI_25 hF_25 e26 bi25_3 en_25 ea_25 ln_25 md_25 sp_25 hR25 hm; exact absurd hm (Nat.not_lt_zero _)
                  | succ fu25 ih =>
                    have ih25 := ih
                    clear ih
                    intro t25 i25_3 hI_25 hF_25 e26 bi25_3 en_25 ea_25 ln_25 md_25 sp_25 hR25 hm25 H locs ls h hl
                    replace hR25 : fX12_findMiddle_0b135 (fX12_findMiddle_0l7 fu6) (fX12_findMiddle_0l135 (fX12_findMiddle_0l7 fu6) fu25) (nI i6_1) (nI i11_2) (nI i25_3) t25 = R := hR25
                    refine lv_iload_n hx hb dX12_findMiddle_135 rfl (lv_at hl 0 rfl) ?_
                    refine lv_iload_n hx hb dX12_findMiddle_136 rfl (lv_at hl 1 rfl) ?_
                    refine lv_icmp_ge (tgt := 183) hx hb dX12_findMiddle_137 (by decide) (fun c27 => ?_) (fun c27 => ?_)
                    · skip
                      replace hR25 := it_t hR25 c27
                      have b28 : i11_2 ≤ i25_3 := y_le (a := i11_2) (b := i25_3) (by omega) (by omega) c27
                      replace hR25 := bd_to hR25 (nI_add i6_1 1)
                      refine lv_iinc (v := (nI (i6_1 + 1))) (lv' := [(1, .int (nI (i6_1 + 1))), (3, .int (nI i25_3)), (2, .int (nI i11_2)), (0, .ref (g.2.1 79))]) hx hb dX12_findMiddle_183 hl (k := 2) rfl (nI_add i6_1 1) (by decide) rfl (fun ls hl => ?_)
                      refine lv_goto (tgt := 7) hx hb dX12_findMiddle_186 (by decide) ?_
                      exact ih6 t25 (i6_1 + 1) hI_25 hF_25 e26 (by omega) en_25 ea_25 (by rw [sp_25, show i25_3 = (lnS (σ.2.2 68) (σ.2.2 80) i6_1 F31).2 by have h9 := nr15; omega]; rfl) hR25 (by omega) _ _ _ h (lv_sub hl [0, 3] rfl)
                    · skip
                      replace hR25 := it_f hR25 c27
                      have b29 : i25_3 < i11_2 := y_nle (a := i11_2) (b := i25_3) (by omega) (by omega) c27
                      refine lv_aload_n hx hb dX12_findMiddle_140 rfl (lv_at hl 3 rfl) ?_
                      refine x_getR E h (fr_mo_line g) rfl hwX12 (by decide) (by decide +kernel) dX12_findMiddle_141 ?_
                      refine lv_iload_n hx hb dX12_findMiddle_144 rfl (lv_at hl 0 rfl) ?_
                      refine x_ldI E h (ia_mo_line g) (i := nI i25_3) (vp_in_nI (by omega) (by decide)) (v := t25.2.2 82 i25_3) (congrArg (t25.2.2 82) (nI_clamp (n := i25_3) (by omega))) dX12_findMiddle_145 ?_
                      replace hR25 := bd_to hR25 (congrArg (t25.2.2 82) (nI_clamp (n := i25_3) (by omega)))
                      refine lv_aload_n hx hb dX12_findMiddle_146 rfl (lv_at hl 3 rfl) ?_
                      refine x_getR E h (fr_mo_mid g) rfl hwX12 (by decide) (by decide +kernel) dX12_findMiddle_147 ?_
                      refine lv_iload_n hx hb dX12_findMiddle_150 rfl (lv_at hl 2 rfl) ?_
                      refine x_ldI E h (ia_mo_mid g) (i := nI i6_1) (vp_in_nI (by omega) (by decide)) (v := t25.2.2 81 i6_1) (congrArg (t25.2.2 81) (nI_clamp (n := i6_1) (by omega))) dX12_findMiddle_151 ?_
                      replace hR25 := bd_to hR25 (congrArg (t25.2.2 81) (nI_clamp (n := i6_1) (by omega)))
                      refine lv_isub hx hb dX12_findMiddle_152 ?_
                      refine lv_topi (fun x30 e30 => ?_)
                      replace hR25 := bd_to hR25 e30.symm
                      refine lv_istore (lv' := [(4, .int x30), (3, .int (nI i25_3)), (2, .int (nI i11_2)), (1, .int (nI i6_1)), (0, .ref (g.2.1 79))]) hx hb dX12_findMiddle_153 hl (by decide) rfl (fun ls hl => ?_)
                      refine lv_aload_n hx hb dX12_findMiddle_155 rfl (lv_at hl 4 rfl) ?_
                      refine lv_dup hx hb dX12_findMiddle_156 rfl ?_
                      obtain ⟨x31, e31⟩ : ∃ x, t25.1 38 = x := ⟨_, rfl⟩
                      refine x_getI E h (fi_mo_apart g) rfl hwX12 (by decide) (by decide +kernel) (v := x31) e31 dX12_findMiddle_157 ?_
                      replace hR25 := bd_to hR25 e31
                      refine lv_iload hx hb dX12_findMiddle_160 (lv_at hl 0 rfl) ?_
                      refine lv_if_ge (tgt := 171) hx hb dX12_findMiddle_162 (by decide) (fun c32 => ?_) (fun c32 => ?_)
                      · skip
                        replace hR25 := it_t hR25 c32
                        refine lv_iload hx hb dX12_findMiddle_171 (lv_at hl 0 rfl) ?_
                        replace hR25 : fX12_findMiddle_0b173 (fX12_findMiddle_0l7 fu6) (fX12_findMiddle_0l135 (fX12_findMiddle_0l7 fu6) fu25) (nI i6_1) (nI i11_2) (nI i25_3) x30 x31 t25 = R := hR25
                        refine lv_iadd hx hb dX12_findMiddle_173 ?_
                        refine lv_topi (fun x34 e34 => ?_)
                        replace hR25 := bd_to hR25 e34.symm
                        refine y_putI E h hI_25 hF_25 (ty := .int) (v := x34) (fi_mo_apart g) rfl hwX12 tyX12_ok nmX12 (by decide) (by decide +kernel) (by decide +kernel) (by decide +kernel) rfl rfl (ba_none rfl) rfl dX12_findMiddle_174 (fun s35 H locs q35 hI35 hF35 h => ?_)
                        replace hR25 := bd_to hR25 q35.symm
                        have e36 : s35.1 31 = nI F31 := (congrArg (fun t : ST => t.1 31) q35).trans e26
                        have e37 : s35.1 38 = x34 := congrArg (fun t : ST => t.1 38) q35
                        have a38 : s35.2.2 68 = σ.2.2 68 := (show s35.2.2 68 = t25.2.2 68 from (congrArg (fun t : ST => t.2.2 68) q35).trans rfl).trans en_25
                        have a39 : s35.2.2 80 = σ.2.2 80 := (show s35.2.2 80 = t25.2.2 80 from (congrArg (fun t : ST => t.2.2 80) q35).trans rfl).trans ea_25
                        have a40 : EqO i11_2 (s35.2.2 82) (lnS (σ.2.2 68) (σ.2.2 80) i6_1 F31).1 := PF.eq (Q := fun f9 => EqO i11_2 f9 (lnS (σ.2.2 68) (σ.2.2 80) i6_1 F31).1) ln_25 (show s35.2.2 82 = t25.2.2 82 from (congrArg (fun t : ST => t.2.2 82) q35).trans rfl)
                        have a41 : s35.2.2 81 i6_1 = midS (lnS (σ.2.2 68) (σ.2.2 80) i6_1 F31) := (congrFun (show s35.2.2 81 = t25.2.2 81 from (congrArg (fun t : ST => t.2.2 81) q35).trans rfl) i6_1).trans md_25
                        replace hR25 := bd_to hR25 (nI_add i25_3 1)
                        refine lv_iinc (v := (nI (i25_3 + 1))) (lv' := [(3, .int (nI (i25_3 + 1))), (4, .int x30), (2, .int (nI i11_2)), (1, .int (nI i6_1)), (0, .ref (g.2.1 79))]) hx hb dX12_findMiddle_177 hl (k := 1) rfl (nI_add i25_3 1) (by decide) rfl (fun ls hl => ?_)
                        refine lv_goto (tgt := 135) hx hb dX12_findMiddle_180 (by decide) ?_
                        exact ih25 s35 (i25_3 + 1) hI35 hF35 e36 (by omega) a38 a39 a40 a41 (by rw [e37, e34, ← e31, sp_25]; show _ = apI _ _ _ i25_3 + absJ (_ - _); rw [(show (lnS (σ.2.2 68) (σ.2.2 80) i6_1 F31).1 i25_3 - midS (lnS (σ.2.2 68) (σ.2.2 80) i6_1 F31) = x30 by rw [← ln_25 i25_3 (by omega), ← md_25]; exact e30.symm), absJ_p (Int32.not_lt.mpr c32)]) hR25 (by omega) _ _ _ h (lv_sub hl [0, 2, 3, 4] rfl)
                      · skip
                        replace hR25 := it_f hR25 c32
                        refine lv_iload hx hb dX12_findMiddle_165 (lv_at hl 0 rfl) ?_
                        refine lv_ineg hx hb dX12_findMiddle_167 ?_
                        refine lv_topi (fun x43 e43 => ?_)
                        replace hR25 := bd_to hR25 e43.symm
                        refine lv_goto (tgt := 173) hx hb dX12_findMiddle_168 (by decide) ?_
                        refine lv_iadd hx hb dX12_findMiddle_173 ?_
                        refine lv_topi (fun x44 e44 => ?_)
                        replace hR25 := bd_to hR25 e44.symm
                        refine y_putI E h hI_25 hF_25 (ty := .int) (v := x44) (fi_mo_apart g) rfl hwX12 tyX12_ok nmX12 (by decide) (by decide +kernel) (by decide +kernel) (by decide +kernel) rfl rfl (ba_none rfl) rfl dX12_findMiddle_174 (fun s45 H locs q45 hI45 hF45 h => ?_)
                        replace hR25 := bd_to hR25 q45.symm
                        have e46 : s45.1 31 = nI F31 := (congrArg (fun t : ST => t.1 31) q45).trans e26
                        have e47 : s45.1 38 = x44 := congrArg (fun t : ST => t.1 38) q45
                        have a48 : s45.2.2 68 = σ.2.2 68 := (show s45.2.2 68 = t25.2.2 68 from (congrArg (fun t : ST => t.2.2 68) q45).trans rfl).trans en_25
                        have a49 : s45.2.2 80 = σ.2.2 80 := (show s45.2.2 80 = t25.2.2 80 from (congrArg (fun t : ST => t.2.2 80) q45).trans rfl).trans ea_25
                        have a50 : EqO i11_2 (s45.2.2 82) (lnS (σ.2.2 68) (σ.2.2 80) i6_1 F31).1 := PF.eq (Q := fun f9 => EqO i11_2 f9 (lnS (σ.2.2 68) (σ.2.2 80) i6_1 F31).1) ln_25 (show s45.2.2 82 = t25.2.2 82 from (congrArg (fun t : ST => t.2.2 82) q45).trans rfl)
                        have a51 : s45.2.2 81 i6_1 = midS (lnS (σ.2.2 68) (σ.2.2 80) i6_1 F31) := (congrFun (show s45.2.2 81 = t25.2.2 81 from (congrArg (fun t : ST => t.2.2 81) q45).trans rfl) i6_1).trans md_25
                        replace hR25 := bd_to hR25 (nI_add i25_3 1)
                        refine lv_iinc (v := (nI (i25_3 + 1))) (lv' := [(3, .int (nI (i25_3 + 1))), (4, .int x30), (2, .int (nI i11_2)), (1, .int (nI i6_1)), (0, .ref (g.2.1 79))]) hx hb dX12_findMiddle_177 hl (k := 1) rfl (nI_add i25_3 1) (by decide) rfl (fun ls hl => ?_)
                        refine lv_goto (tgt := 135) hx hb dX12_findMiddle_180 (by decide) ?_
                        exact ih25 s45 (i25_3 + 1) hI45 hF45 e46 (by omega) a48 a49 a50 a51 (by rw [e47, e44, ← e31, sp_25]; show _ = apI _ _ _ i25_3 + absJ (_ - _); rw [(show (lnS (σ.2.2 68) (σ.2.2 80) i6_1 F31).1 i25_3 - midS (lnS (σ.2.2 68) (σ.2.2 80) i6_1 F31) = x30 by rw [← ln_25 i25_3 (by omega), ← md_25]; exact e30.symm), absJ_n (Int32.not_le.mp c32), e43]) hR25 (by omega) _ _ _ h (lv_sub hl [0, 2, 3, 4] rfl)
                exact loop135_25 4096 s18 0 hI18 hF18 e19 (Nat.zero_le _) a20 a21 a23 md24 a22 hR11 (by omega) _ _ _ h (lv_sub hl [0, 1, 2, 3] rfl)
              · skip
                replace hR11 := it_t hR11 c16
                have b52 : i11_2 = 0 := y_eq (a := i11_2) (b := 0) (by omega) (by omega) c16
                refine lv_iconst (v := 0) hx hb dX12_findMiddle_116 (by decide) ?_
                refine lv_goto (tgt := 132) hx hb dX12_findMiddle_117 (by decide) ?_
                replace hR11 : fX12_findMiddle_0b132 (fX12_findMiddle_0l7 fu6) (nI i6_1) (nI i11_2) 0 (nI i6_1) t11 = R := hR11
                refine y_stI E h hI_11 hF_11 (ia_mo_mid g) (i := nI i6_1) (vp_in_nI (by omega) (by decide)) (j := i6_1) (nI_clamp (by omega)) (ba_none rfl) rfl dX12_findMiddle_132 (fun s53 H locs q53 hI53 hF53 h => ?_)
                replace hR11 := st_to hR11 (nI_clamp (n := i6_1) (by omega)) q53
                have e54 : s53.1 31 = nI F31 := (congrArg (fun t : ST => t.1 31) q53).trans e12
                have a55 : s53.2.2 68 = σ.2.2 68 := (show s53.2.2 68 = t11.2.2 68 from (congrArg (fun t : ST => t.2.2 68) q53).trans rfl).trans en_11
                have a56 : s53.2.2 80 = σ.2.2 80 := (show s53.2.2 80 = t11.2.2 80 from (congrArg (fun t : ST => t.2.2 80) q53).trans rfl).trans ea_11
                have a57 : s53.1 38 = spS (σ.2.2 68) (σ.2.2 80) F31 i6_1 := (show s53.1 38 = t11.1 38 from (congrArg (fun t : ST => t.1 38) q53).trans rfl).trans sp_11
                have a58 : EqO i11_2 (s53.2.2 82) (lnS (σ.2.2 68) (σ.2.2 80) i6_1 F31).1 := PF.eq (Q := fun f9 => EqO i11_2 f9 (lnS (σ.2.2 68) (σ.2.2 80) i6_1 F31).1) lr15 (show s53.2.2 82 = t11.2.2 82 from (congrArg (fun t : ST => t.2.2 82) q53).trans rfl)
                have md59 : s53.2.2 81 i6_1 = midS (lnS (σ.2.2 68) (σ.2.2 80) i6_1 F31) := ((congrFun (show s53.2.2 81 = upd (t11.2.2 81) i6_1 0 from congrArg (fun t : ST => t.2.2 81) q53) i6_1).trans pk_us).trans (midS_0 (by rw [← nr15]; omega)).symm
                refine lv_iconst (v := 0) hx hb dX12_findMiddle_133 (by decide) ?_
                refine lv_istore_n (lv' := [(3, .int 0), (2, .int (nI i11_2)), (1, .int (nI i6_1)), (0, .ref (g.2.1 79))]) hx hb dX12_findMiddle_134 rfl hl (by decide) rfl (fun ls hl => ?_)
                have loop135_60 : ∀ (fu : Nat) (t60 : ST) (i60_3 : Nat), INV t60 → Fr [(38, 38)] [(81, 82)] σ t60 → t60.1 31 = nI F31 → i60_3 ≤ i11_2 → t60.2.2 68 = σ.2.2 68 → t60.2.2 80 = σ.2.2 80 → EqO i11_2 (t60.2.2 82) (lnS (σ.2.2 68) (σ.2.2 80) i6_1 F31).1 → t60.2.2 81 i6_1 = midS (lnS (σ.2.2 68) (σ.2.2 80) i6_1 F31) → t60.1 38 = apI (lnS (σ.2.2 68) (σ.2.2 80) i6_1 F31).1 (midS (lnS (σ.2.2 68) (σ.2.2 80) i6_1 F31)) (spS (σ.2.2 68) (σ.2.2 80) F31 i6_1) i60_3 → fX12_findMiddle_0l135 (fX12_findMiddle_0l7 fu6) fu (nI i6_1) (nI i11_2) (nI i60_3) t60 = R → i11_2 - i60_3 < fu → ∀ (H : Heap) (locs : List Loc) (ls : Array Slot), HW g t60 s H locs → lv_has ls 6 [(3, .int (nI i60_3)), (2, .int (nI i11_2)), (1, .int (nI i6_1)), (0, .ref (g.2.1 79))] → W p l e { frames := 0, cells := 0, slots := 0, locals := 0 } s m args below meth c H locs 0 0 (MQ below PQz args s 0 0 (Aw g)) (F0 m 135 ls []) := by
                  intro fu60
                  induction fu60 with
                  | zero => intro t60 i60_3 hI_60 hF_60 e61 bi60_3 en_60 ea_60 ln_60 md_60 sp_60 hR60 hm; exact absurd hm (Nat.not_lt_zero _)
                  | succ fu60 ih =>
                    have ih60 := ih
                    clear ih
                    intro t60 i60_3 hI_60 hF_60 e61 bi60_3 en_60 ea_60 ln_60 md_60 sp_60 hR60 hm60 H locs ls h hl
                    replace hR60 : fX12_findMiddle_0b135 (fX12_findMiddle_0l7 fu6) (fX12_findMiddle_0l135 (fX12_findMiddle_0l7 fu6) fu60) (nI i6_1) (nI i11_2) (nI i60_3) t60 = R := hR60
                    refine lv_iload_n hx hb dX12_findMiddle_135 rfl (lv_at hl 0 rfl) ?_
                    refine lv_iload_n hx hb dX12_findMiddle_136 rfl (lv_at hl 1 rfl) ?_
                    refine lv_icmp_ge (tgt := 183) hx hb dX12_findMiddle_137 (by decide) (fun c62 => ?_) (fun c62 => ?_)
                    · skip
                      replace hR60 := it_t hR60 c62
                      have b63 : i11_2 ≤ i60_3 := y_le (a := i11_2) (b := i60_3) (by omega) (by omega) c62
                      replace hR60 := bd_to hR60 (nI_add i6_1 1)
                      refine lv_iinc (v := (nI (i6_1 + 1))) (lv' := [(1, .int (nI (i6_1 + 1))), (3, .int (nI i60_3)), (2, .int (nI i11_2)), (0, .ref (g.2.1 79))]) hx hb dX12_findMiddle_183 hl (k := 2) rfl (nI_add i6_1 1) (by decide) rfl (fun ls hl => ?_)
                      refine lv_goto (tgt := 7) hx hb dX12_findMiddle_186 (by decide) ?_
                      exact ih6 t60 (i6_1 + 1) hI_60 hF_60 e61 (by omega) en_60 ea_60 (by rw [sp_60, show i60_3 = (lnS (σ.2.2 68) (σ.2.2 80) i6_1 F31).2 by have h9 := nr15; omega]; rfl) hR60 (by omega) _ _ _ h (lv_sub hl [0, 3] rfl)
                    · skip
                      replace hR60 := it_f hR60 c62
                      have b64 : i60_3 < i11_2 := y_nle (a := i11_2) (b := i60_3) (by omega) (by omega) c62
                      refine lv_aload_n hx hb dX12_findMiddle_140 rfl (lv_at hl 3 rfl) ?_
                      refine x_getR E h (fr_mo_line g) rfl hwX12 (by decide) (by decide +kernel) dX12_findMiddle_141 ?_
                      refine lv_iload_n hx hb dX12_findMiddle_144 rfl (lv_at hl 0 rfl) ?_
                      refine x_ldI E h (ia_mo_line g) (i := nI i60_3) (vp_in_nI (by omega) (by decide)) (v := t60.2.2 82 i60_3) (congrArg (t60.2.2 82) (nI_clamp (n := i60_3) (by omega))) dX12_findMiddle_145 ?_
                      replace hR60 := bd_to hR60 (congrArg (t60.2.2 82) (nI_clamp (n := i60_3) (by omega)))
                      refine lv_aload_n hx hb dX12_findMiddle_146 rfl (lv_at hl 3 rfl) ?_
                      refine x_getR E h (fr_mo_mid g) rfl hwX12 (by decide) (by decide +kernel) dX12_findMiddle_147 ?_
                      refine lv_iload_n hx hb dX12_findMiddle_150 rfl (lv_at hl 2 rfl) ?_
                      refine x_ldI E h (ia_mo_mid g) (i := nI i6_1) (vp_in_nI (by omega) (by decide)) (v := t60.2.2 81 i6_1) (congrArg (t60.2.2 81) (nI_clamp (n := i6_1) (by omega))) dX12_findMiddle_151 ?_
                      replace hR60 := bd_to hR60 (congrArg (t60.2.2 81) (nI_clamp (n := i6_1) (by omega)))
                      refine lv_isub hx hb dX12_findMiddle_152 ?_
                      refine lv_topi (fun x65 e65 => ?_)
                      replace hR60 := bd_to hR60 e65.symm
                      refine lv_istore (lv' := [(4, .int x65), (3, .int (nI i60_3)), (2, .int (nI i11_2)), (1, .int (nI i6_1)), (0, .ref (g.2.1 79))]) hx hb dX12_findMiddle_153 hl (by decide) rfl (fun ls hl => ?_)
                      refine lv_aload_n hx hb dX12_findMiddle_155 rfl (lv_at hl 4 rfl) ?_
                      refine lv_dup hx hb dX12_findMiddle_156 rfl ?_
                      obtain ⟨x66, e66⟩ : ∃ x, t60.1 38 = x := ⟨_, rfl⟩
                      refine x_getI E h (fi_mo_apart g) rfl hwX12 (by decide) (by decide +kernel) (v := x66) e66 dX12_findMiddle_157 ?_
                      replace hR60 := bd_to hR60 e66
                      refine lv_iload hx hb dX12_findMiddle_160 (lv_at hl 0 rfl) ?_
                      refine lv_if_ge (tgt := 171) hx hb dX12_findMiddle_162 (by decide) (fun c67 => ?_) (fun c67 => ?_)
                      · skip
                        replace hR60 := it_t hR60 c67
                        refine lv_iload hx hb dX12_findMiddle_171 (lv_at hl 0 rfl) ?_
                        replace hR60 : fX12_findMiddle_0b173 (fX12_findMiddle_0l7 fu6) (fX12_findMiddle_0l135 (fX12_findMiddle_0l7 fu6) fu60) (nI i6_1) (nI i11_2) (nI i60_3) x65 x66 t60 = R := hR60
                        refine lv_iadd hx hb dX12_findMiddle_173 ?_
                        refine lv_topi (fun x69 e69 => ?_)
                        replace hR60 := bd_to hR60 e69.symm
                        refine y_putI E h hI_60 hF_60 (ty := .int) (v := x69) (fi_mo_apart g) rfl hwX12 tyX12_ok nmX12 (by decide) (by decide +kernel) (by decide +kernel) (by decide +kernel) rfl rfl (ba_none rfl) rfl dX12_findMiddle_174 (fun s70 H locs q70 hI70 hF70 h => ?_)
                        replace hR60 := bd_to hR60 q70.symm
                        have e71 : s70.1 31 = nI F31 := (congrArg (fun t : ST => t.1 31) q70).trans e61
                        have e72 : s70.1 38 = x69 := congrArg (fun t : ST => t.1 38) q70
                        have a73 : s70.2.2 68 = σ.2.2 68 := (show s70.2.2 68 = t60.2.2 68 from (congrArg (fun t : ST => t.2.2 68) q70).trans rfl).trans en_60
                        have a74 : s70.2.2 80 = σ.2.2 80 := (show s70.2.2 80 = t60.2.2 80 from (congrArg (fun t : ST => t.2.2 80) q70).trans rfl).trans ea_60
                        have a75 : EqO i11_2 (s70.2.2 82) (lnS (σ.2.2 68) (σ.2.2 80) i6_1 F31).1 := PF.eq (Q := fun f9 => EqO i11_2 f9 (lnS (σ.2.2 68) (σ.2.2 80) i6_1 F31).1) ln_60 (show s70.2.2 82 = t60.2.2 82 from (congrArg (fun t : ST => t.2.2 82) q70).trans rfl)
                        have a76 : s70.2.2 81 i6_1 = midS (lnS (σ.2.2 68) (σ.2.2 80) i6_1 F31) := (congrFun (show s70.2.2 81 = t60.2.2 81 from (congrArg (fun t : ST => t.2.2 81) q70).trans rfl) i6_1).trans md_60
                        replace hR60 := bd_to hR60 (nI_add i60_3 1)
                        refine lv_iinc (v := (nI (i60_3 + 1))) (lv' := [(3, .int (nI (i60_3 + 1))), (4, .int x65), (2, .int (nI i11_2)), (1, .int (nI i6_1)), (0, .ref (g.2.1 79))]) hx hb dX12_findMiddle_177 hl (k := 1) rfl (nI_add i60_3 1) (by decide) rfl (fun ls hl => ?_)
                        refine lv_goto (tgt := 135) hx hb dX12_findMiddle_180 (by decide) ?_
                        exact ih60 s70 (i60_3 + 1) hI70 hF70 e71 (by omega) a73 a74 a75 a76 (by rw [e72, e69, ← e66, sp_60]; show _ = apI _ _ _ i60_3 + absJ (_ - _); rw [(show (lnS (σ.2.2 68) (σ.2.2 80) i6_1 F31).1 i60_3 - midS (lnS (σ.2.2 68) (σ.2.2 80) i6_1 F31) = x65 by rw [← ln_60 i60_3 (by omega), ← md_60]; exact e65.symm), absJ_p (Int32.not_lt.mpr c67)]) hR60 (by omega) _ _ _ h (lv_sub hl [0, 2, 3, 4] rfl)
                      · skip
                        replace hR60 := it_f hR60 c67
                        refine lv_iload hx hb dX12_findMiddle_165 (lv_at hl 0 rfl) ?_
                        refine lv_ineg hx hb dX12_findMiddle_167 ?_
                        refine lv_topi (fun x78 e78 => ?_)
                        replace hR60 := bd_to hR60 e78.symm
                        refine lv_goto (tgt := 173) hx hb dX12_findMiddle_168 (by decide) ?_
                        refine lv_iadd hx hb dX12_findMiddle_173 ?_
                        refine lv_topi (fun x79 e79 => ?_)
                        replace hR60 := bd_to hR60 e79.symm
                        refine y_putI E h hI_60 hF_60 (ty := .int) (v := x79) (fi_mo_apart g) rfl hwX12 tyX12_ok nmX12 (by decide) (by decide +kernel) (by decide +kernel) (by decide +kernel) rfl rfl (ba_none rfl) rfl dX12_findMiddle_174 (fun s80 H locs q80 hI80 hF80 h => ?_)
                        replace hR60 := bd_to hR60 q80.symm
                        have e81 : s80.1 31 = nI F31 := (congrArg (fun t : ST => t.1 31) q80).trans e61
                        have e82 : s80.1 38 = x79 := congrArg (fun t : ST => t.1 38) q80
                        have a83 : s80.2.2 68 = σ.2.2 68 := (show s80.2.2 68 = t60.2.2 68 from (congrArg (fun t : ST => t.2.2 68) q80).trans rfl).trans en_60
                        have a84 : s80.2.2 80 = σ.2.2 80 := (show s80.2.2 80 = t60.2.2 80 from (congrArg (fun t : ST => t.2.2 80) q80).trans rfl).trans ea_60
                        have a85 : EqO i11_2 (s80.2.2 82) (lnS (σ.2.2 68) (σ.2.2 80) i6_1 F31).1 := PF.eq (Q := fun f9 => EqO i11_2 f9 (lnS (σ.2.2 68) (σ.2.2 80) i6_1 F31).1) ln_60 (show s80.2.2 82 = t60.2.2 82 from (congrArg (fun t : ST => t.2.2 82) q80).trans rfl)
                        have a86 : s80.2.2 81 i6_1 = midS (lnS (σ.2.2 68) (σ.2.2 80) i6_1 F31) := (congrFun (show s80.2.2 81 = t60.2.2 81 from (congrArg (fun t : ST => t.2.2 81) q80).trans rfl) i6_1).trans md_60
                        replace hR60 := bd_to hR60 (nI_add i60_3 1)
                        refine lv_iinc (v := (nI (i60_3 + 1))) (lv' := [(3, .int (nI (i60_3 + 1))), (4, .int x65), (2, .int (nI i11_2)), (1, .int (nI i6_1)), (0, .ref (g.2.1 79))]) hx hb dX12_findMiddle_177 hl (k := 1) rfl (nI_add i60_3 1) (by decide) rfl (fun ls hl => ?_)
                        refine lv_goto (tgt := 135) hx hb dX12_findMiddle_180 (by decide) ?_
                        exact ih60 s80 (i60_3 + 1) hI80 hF80 e81 (by omega) a83 a84 a85 a86 (by rw [e82, e79, ← e66, sp_60]; show _ = apI _ _ _ i60_3 + absJ (_ - _); rw [(show (lnS (σ.2.2 68) (σ.2.2 80) i6_1 F31).1 i60_3 - midS (lnS (σ.2.2 68) (σ.2.2 80) i6_1 F31) = x65 by rw [← ln_60 i60_3 (by omega), ← md_60]; exact e65.symm), absJ_n (Int32.not_le.mp c67), e78]) hR60 (by omega) _ _ _ h (lv_sub hl [0, 2, 3, 4] rfl)
                exact loop135_60 4096 s53 0 hI53 hF53 e54 (Nat.zero_le _) a55 a56 a58 md59 a57 hR11 (by omega) _ _ _ h (lv_sub hl [0, 1, 2, 3] rfl)
            · skip
              replace hR11 := it_f hR11 c13
              have b87 : i11_3 < F31 := y_nle (a := F31) (b := i11_3) (by omega) (by omega) c13
              refine lv_aload_n hx hb dX12_findMiddle_24 rfl (lv_at hl 3 rfl) ?_
              refine x_getR E h (fr_mo_isAsked g) rfl hwX12 (by decide) (by decide +kernel) dX12_findMiddle_25 ?_
              refine lv_iload_n hx hb dX12_findMiddle_28 rfl (lv_at hl 0 rfl) ?_
              refine x_ldZ E h (ia_mo_isAsked g) (i := nI i11_3) (vp_in_nI (by omega) (by decide)) (v := t11.2.2 80 i11_3) (congrArg (t11.2.2 80) (nI_clamp (n := i11_3) (by omega))) dX12_findMiddle_29 ?_
              replace hR11 := bd_to hR11 (congrArg (t11.2.2 80) (nI_clamp (n := i11_3) (by omega)))
              refine lv_if_eq (tgt := 101) hx hb dX12_findMiddle_30 (by decide) (fun c88 => ?_) (fun c88 => ?_)
              · skip
                replace hR11 := it_t hR11 c88
                replace hR11 := bd_to hR11 (nI_add i11_3 1)
                refine lv_iinc (v := (nI (i11_3 + 1))) (lv' := [(3, .int (nI (i11_3 + 1))), (2, .int (nI i11_2)), (1, .int (nI i6_1)), (0, .ref (g.2.1 79))]) hx hb dX12_findMiddle_101 hl (k := 0) rfl (nI_add i11_3 1) (by decide) rfl (fun ls hl => ?_)
                refine lv_goto (tgt := 16) hx hb dX12_findMiddle_104 (by decide) ?_
                exact ih11 t11 (i11_3 + 1) i11_2 hI_11 hF_11 e12 (by omega) (by omega) en_11 ea_11 sp_11 (by rw [lnS_skip ((congrFun ea_11 i11_3).symm.trans c88)]; exact nn_11) (by rw [lnS_skip ((congrFun ea_11 i11_3).symm.trans c88)]; exact ln_11) hR11 (by omega) _ _ _ h (lv_sub hl [0, 1, 2, 3] rfl)
              · skip
                replace hR11 := it_f hR11 c88
                refine lv_aload_n hx hb dX12_findMiddle_33 rfl (lv_at hl 3 rfl) ?_
                refine x_getR E h (fr_mo_number g) rfl hwX12 (by decide) (by decide +kernel) dX12_findMiddle_34 ?_
                refine lv_iconst (v := 4) hx hb dX12_findMiddle_37 (by decide) ?_
                refine lv_iload_n hx hb dX12_findMiddle_38 rfl (lv_at hl 0 rfl) ?_
                refine lv_imul hx hb dX12_findMiddle_39 ?_
                refine x_topI (v2 := nI (4 * i11_3)) (pk_mul 4 i11_3) ?_
                replace hR11 := bd_to hR11 (pk_mul 4 i11_3)
                refine lv_iload_n hx hb dX12_findMiddle_40 rfl (lv_at hl 2 rfl) ?_
                refine lv_iadd hx hb dX12_findMiddle_41 ?_
                refine x_topI (v2 := nI ((4 * i11_3) + i6_1)) (nI_add (4 * i11_3) i6_1) ?_
                replace hR11 := bd_to hR11 (nI_add (4 * i11_3) i6_1)
                refine x_ldI E h (ia_mo_number g) (i := nI ((4 * i11_3) + i6_1)) (vp_in_nI (by omega) (by decide)) (v := t11.2.2 68 ((4 * i11_3) + i6_1)) (congrArg (t11.2.2 68) (nI_clamp (n := (4 * i11_3) + i6_1) (by omega))) dX12_findMiddle_42 ?_
                replace hR11 := bd_to hR11 (congrArg (t11.2.2 68) (nI_clamp (n := (4 * i11_3) + i6_1) (by omega)))
                refine lv_topi (fun x91 e91 => ?_)
                try rw [← e91] at hR11
                refine lv_istore (lv' := [(4, .int x91), (3, .int (nI i11_3)), (2, .int (nI i11_2)), (1, .int (nI i6_1)), (0, .ref (g.2.1 79))]) hx hb dX12_findMiddle_43 hl (by decide) rfl (fun ls hl => ?_)
                refine lv_iload_n hx hb dX12_findMiddle_45 rfl (lv_at hl 2 rfl) ?_
                refine lv_istore (lv' := [(5, .int (nI i11_2)), (4, .int x91), (3, .int (nI i11_3)), (2, .int (nI i11_2)), (1, .int (nI i6_1)), (0, .ref (g.2.1 79))]) hx hb dX12_findMiddle_46 hl (by decide) rfl (fun ls hl => ?_)
                have loop48_92 : ∀ (fu : Nat) (t92 : ST) (i92_5 : Nat), INV t92 → Fr [(38, 38)] [(81, 82)] σ t92 → t92.1 31 = nI F31 → i92_5 ≤ i11_2 → t92.2.2 68 = σ.2.2 68 → t92.2.2 80 = σ.2.2 80 → t92.1 38 = spS (σ.2.2 68) (σ.2.2 80) F31 i6_1 → TG x91 i92_5 i11_2 (t92.2.2 82) (lnS (σ.2.2 68) (σ.2.2 80) i6_1 i11_3).1 → fX12_findMiddle_0l48 (fX12_findMiddle_0l7 fu6) (fX12_findMiddle_0l16 (fX12_findMiddle_0l7 fu6) fu11) fu (nI i6_1) (nI i11_2) (nI i11_3) x91 (nI i92_5) t92 = R → i92_5 < fu → ∀ (H : Heap) (locs : List Loc) (ls : Array Slot), HW g t92 s H locs → lv_has ls 6 [(5, .int (nI i92_5)), (4, .int x91), (3, .int (nI i11_3)), (2, .int (nI i11_2)), (1, .int (nI i6_1)), (0, .ref (g.2.1 79))] → W p l e { frames := 0, cells := 0, slots := 0, locals := 0 } s m args below meth c H locs 0 0 (MQ below PQz args s 0 0 (Aw g)) (F0 m 48 ls []) := by
                  intro fu92
                  induction fu92 with
                  | zero => intro t92 i92_5 hI_92 hF_92 e93 bi92_5 en_92 ea_92 sp_92 tg_92 hR92 hm; exact absurd hm (Nat.not_lt_zero _)
                  | succ fu92 ih =>
                    have ih92 := ih
                    clear ih
                    intro t92 i92_5 hI_92 hF_92 e93 bi92_5 en_92 ea_92 sp_92 tg_92 hR92 hm92 H locs ls h hl
                    replace hR92 : fX12_findMiddle_0b48 (fX12_findMiddle_0l7 fu6) (fX12_findMiddle_0l16 (fX12_findMiddle_0l7 fu6) fu11) (fX12_findMiddle_0l48 (fX12_findMiddle_0l7 fu6) (fX12_findMiddle_0l16 (fX12_findMiddle_0l7 fu6) fu11) fu92) (nI i6_1) (nI i11_2) (nI i11_3) x91 (nI i92_5) t92 = R := hR92
                    refine lv_iload hx hb dX12_findMiddle_48 (lv_at hl 0 rfl) ?_
                    refine lv_if_le (tgt := 89) hx hb dX12_findMiddle_50 (by decide) (fun c94 => ?_) (fun c94 => ?_)
                    · skip
                      replace hR92 := it_t hR92 c94
                      have b95 : i92_5 ≤ 0 := y_le (a := i92_5) (b := 0) (by omega) (by omega) c94
                      refine lv_aload_n hx hb dX12_findMiddle_89 rfl (lv_at hl 5 rfl) ?_
                      refine x_getR E h (fr_mo_line g) rfl hwX12 (by decide) (by decide +kernel) dX12_findMiddle_90 ?_
                      refine lv_iload hx hb dX12_findMiddle_93 (lv_at hl 0 rfl) ?_
                      refine lv_iload hx hb dX12_findMiddle_95 (lv_at hl 1 rfl) ?_
                      refine y_stI E h hI_92 hF_92 (ia_mo_line g) (i := nI i92_5) (vp_in_nI (by omega) (by decide)) (j := i92_5) (nI_clamp (by omega)) (ba_none rfl) rfl dX12_findMiddle_97 (fun s96 H locs q96 hI96 hF96 h => ?_)
                      replace hR92 := st_to hR92 (nI_clamp (n := i92_5) (by omega)) q96
                      have e97 : s96.1 31 = nI F31 := (congrArg (fun t : ST => t.1 31) q96).trans e93
                      have a98 : s96.2.2 68 = σ.2.2 68 := (show s96.2.2 68 = t92.2.2 68 from (congrArg (fun t : ST => t.2.2 68) q96).trans rfl).trans en_92
                      have a99 : s96.2.2 80 = σ.2.2 80 := (show s96.2.2 80 = t92.2.2 80 from (congrArg (fun t : ST => t.2.2 80) q96).trans rfl).trans ea_92
                      have a100 : s96.1 38 = spS (σ.2.2 68) (σ.2.2 80) F31 i6_1 := (show s96.1 38 = t92.1 38 from (congrArg (fun t : ST => t.1 38) q96).trans rfl).trans sp_92
                      have a101 : EqO (i11_2 + 1) (s96.2.2 82) (insK x91 i11_2 (lnS (σ.2.2 68) (σ.2.2 80) i6_1 i11_3).1) := TG.end0 tg_92 (by omega) (show s96.2.2 82 = upd (t92.2.2 82) i92_5 x91 from congrArg (fun t : ST => t.2.2 82) q96)
                      replace hR92 := bd_to hR92 (nI_add i11_2 1)
                      refine lv_iinc (v := (nI (i11_2 + 1))) (lv' := [(2, .int (nI (i11_2 + 1))), (5, .int (nI i92_5)), (4, .int x91), (3, .int (nI i11_3)), (1, .int (nI i6_1)), (0, .ref (g.2.1 79))]) hx hb dX12_findMiddle_98 hl (k := 3) rfl (nI_add i11_2 1) (by decide) rfl (fun ls hl => ?_)
                      replace hR92 := bd_to hR92 (nI_add i11_3 1)
                      refine lv_iinc (v := (nI (i11_3 + 1))) (lv' := [(3, .int (nI (i11_3 + 1))), (2, .int (nI (i11_2 + 1))), (5, .int (nI i92_5)), (4, .int x91), (1, .int (nI i6_1)), (0, .ref (g.2.1 79))]) hx hb dX12_findMiddle_101 hl (k := 3) rfl (nI_add i11_3 1) (by decide) rfl (fun ls hl => ?_)
                      refine lv_goto (tgt := 16) hx hb dX12_findMiddle_104 (by decide) ?_
                      exact ih11 s96 (i11_3 + 1) (i11_2 + 1) hI96 hF96 e97 (by omega) (by omega) a98 a99 a100 (by rw [lnS_take (fun q9 => c88 ((congrFun ea_11 i11_3).trans q9))]; exact congrArg (fun z => z + 1) nn_11) (by rw [lnS_take (fun q9 => c88 ((congrFun ea_11 i11_3).trans q9)), show (σ.2.2 68) (4 * i11_3 + i6_1) = x91 from (congrFun en_11 _).symm.trans e91.symm, show i11_2 = _ from nn_11]; have h9 := a101; rw [show i11_2 = _ from nn_11] at h9; exact h9) hR92 (by omega) _ _ _ h (lv_sub hl [0, 1, 4, 5] rfl)
                    · skip
                      replace hR92 := it_f hR92 c94
                      have b102 : 0 < i92_5 := y_nle (a := i92_5) (b := 0) (by omega) (by omega) c94
                      refine lv_aload_n hx hb dX12_findMiddle_53 rfl (lv_at hl 5 rfl) ?_
                      refine x_getR E h (fr_mo_line g) rfl hwX12 (by decide) (by decide +kernel) dX12_findMiddle_54 ?_
                      refine lv_iload hx hb dX12_findMiddle_57 (lv_at hl 0 rfl) ?_
                      refine lv_iconst (v := 1) hx hb dX12_findMiddle_59 (by decide) ?_
                      refine lv_isub hx hb dX12_findMiddle_60 ?_
                      replace hR92 := bd_to hR92 rfl
                      refine x_topI (v2 := nI (i92_5 - 1)) (pk_sub (a := i92_5) (b := 1) (by omega)) ?_
                      refine x_ldI E h (ia_mo_line g) (i := nI (i92_5 - 1)) (vp_in_nI (by omega) (by decide)) (v := t92.2.2 82 (i92_5 - 1)) (congrArg (t92.2.2 82) (nI_clamp (n := i92_5 - 1) (by omega))) dX12_findMiddle_61 ?_
                      replace hR92 := bd_to hR92 ((congrArg (fun z9 : Int32 => t92.2.2 82 z9.toNatClampNeg) (pk_sub (a := i92_5) (b := 1) (by omega))).trans (congrArg (t92.2.2 82) (nI_clamp (n := i92_5 - 1) (by omega))))
                      refine lv_iload hx hb dX12_findMiddle_62 (lv_at hl 1 rfl) ?_
                      refine lv_icmp_le (tgt := 89) hx hb dX12_findMiddle_64 (by decide) (fun c103 => ?_) (fun c103 => ?_)
                      · skip
                        replace hR92 := it_t hR92 c103
                        refine lv_aload_n hx hb dX12_findMiddle_89 rfl (lv_at hl 5 rfl) ?_
                        refine x_getR E h (fr_mo_line g) rfl hwX12 (by decide) (by decide +kernel) dX12_findMiddle_90 ?_
                        refine lv_iload hx hb dX12_findMiddle_93 (lv_at hl 0 rfl) ?_
                        refine lv_iload hx hb dX12_findMiddle_95 (lv_at hl 1 rfl) ?_
                        refine y_stI E h hI_92 hF_92 (ia_mo_line g) (i := nI i92_5) (vp_in_nI (by omega) (by decide)) (j := i92_5) (nI_clamp (by omega)) (ba_none rfl) rfl dX12_findMiddle_97 (fun s105 H locs q105 hI105 hF105 h => ?_)
                        replace hR92 := st_to hR92 (nI_clamp (n := i92_5) (by omega)) q105
                        have e106 : s105.1 31 = nI F31 := (congrArg (fun t : ST => t.1 31) q105).trans e93
                        have a107 : s105.2.2 68 = σ.2.2 68 := (show s105.2.2 68 = t92.2.2 68 from (congrArg (fun t : ST => t.2.2 68) q105).trans rfl).trans en_92
                        have a108 : s105.2.2 80 = σ.2.2 80 := (show s105.2.2 80 = t92.2.2 80 from (congrArg (fun t : ST => t.2.2 80) q105).trans rfl).trans ea_92
                        have a109 : s105.1 38 = spS (σ.2.2 68) (σ.2.2 80) F31 i6_1 := (show s105.1 38 = t92.1 38 from (congrArg (fun t : ST => t.1 38) q105).trans rfl).trans sp_92
                        have a110 : EqO (i11_2 + 1) (s105.2.2 82) (insK x91 i11_2 (lnS (σ.2.2 68) (σ.2.2 80) i6_1 i11_3).1) := TG.end1 tg_92 (by omega) c103 (show s105.2.2 82 = upd (t92.2.2 82) i92_5 x91 from congrArg (fun t : ST => t.2.2 82) q105)
                        replace hR92 := bd_to hR92 (nI_add i11_2 1)
                        refine lv_iinc (v := (nI (i11_2 + 1))) (lv' := [(2, .int (nI (i11_2 + 1))), (5, .int (nI i92_5)), (4, .int x91), (3, .int (nI i11_3)), (1, .int (nI i6_1)), (0, .ref (g.2.1 79))]) hx hb dX12_findMiddle_98 hl (k := 3) rfl (nI_add i11_2 1) (by decide) rfl (fun ls hl => ?_)
                        replace hR92 := bd_to hR92 (nI_add i11_3 1)
                        refine lv_iinc (v := (nI (i11_3 + 1))) (lv' := [(3, .int (nI (i11_3 + 1))), (2, .int (nI (i11_2 + 1))), (5, .int (nI i92_5)), (4, .int x91), (1, .int (nI i6_1)), (0, .ref (g.2.1 79))]) hx hb dX12_findMiddle_101 hl (k := 3) rfl (nI_add i11_3 1) (by decide) rfl (fun ls hl => ?_)
                        refine lv_goto (tgt := 16) hx hb dX12_findMiddle_104 (by decide) ?_
                        exact ih11 s105 (i11_3 + 1) (i11_2 + 1) hI105 hF105 e106 (by omega) (by omega) a107 a108 a109 (by rw [lnS_take (fun q9 => c88 ((congrFun ea_11 i11_3).trans q9))]; exact congrArg (fun z => z + 1) nn_11) (by rw [lnS_take (fun q9 => c88 ((congrFun ea_11 i11_3).trans q9)), show (σ.2.2 68) (4 * i11_3 + i6_1) = x91 from (congrFun en_11 _).symm.trans e91.symm, show i11_2 = _ from nn_11]; have h9 := a110; rw [show i11_2 = _ from nn_11] at h9; exact h9) hR92 (by omega) _ _ _ h (lv_sub hl [0, 1, 4, 5] rfl)
                      · skip
                        replace hR92 := it_f hR92 c103
                        refine lv_aload_n hx hb dX12_findMiddle_67 rfl (lv_at hl 5 rfl) ?_
                        refine x_getR E h (fr_mo_line g) rfl hwX12 (by decide) (by decide +kernel) dX12_findMiddle_68 ?_
                        refine lv_iload hx hb dX12_findMiddle_71 (lv_at hl 0 rfl) ?_
                        refine lv_aload_n hx hb dX12_findMiddle_73 rfl (lv_at hl 5 rfl) ?_
                        refine x_getR E h (fr_mo_line g) rfl hwX12 (by decide) (by decide +kernel) dX12_findMiddle_74 ?_
                        refine lv_iload hx hb dX12_findMiddle_77 (lv_at hl 0 rfl) ?_
                        refine lv_iconst (v := 1) hx hb dX12_findMiddle_79 (by decide) ?_
                        refine lv_isub hx hb dX12_findMiddle_80 ?_
                        replace hR92 := bd_to hR92 rfl
                        refine x_topI (v2 := nI (i92_5 - 1)) (pk_sub (a := i92_5) (b := 1) (by omega)) ?_
                        refine x_ldI E h (ia_mo_line g) (i := nI (i92_5 - 1)) (vp_in_nI (by omega) (by decide)) (v := t92.2.2 82 (i92_5 - 1)) (congrArg (t92.2.2 82) (nI_clamp (n := i92_5 - 1) (by omega))) dX12_findMiddle_81 ?_
                        replace hR92 := bd_to hR92 ((congrArg (fun z9 : Int32 => t92.2.2 82 z9.toNatClampNeg) (pk_sub (a := i92_5) (b := 1) (by omega))).trans (congrArg (t92.2.2 82) (nI_clamp (n := i92_5 - 1) (by omega))))
                        refine y_stI E h hI_92 hF_92 (ia_mo_line g) (i := nI i92_5) (vp_in_nI (by omega) (by decide)) (j := i92_5) (nI_clamp (by omega)) (ba_none rfl) rfl dX12_findMiddle_82 (fun s112 H locs q112 hI112 hF112 h => ?_)
                        replace hR92 := st_to hR92 (nI_clamp (n := i92_5) (by omega)) q112
                        have e113 : s112.1 31 = nI F31 := (congrArg (fun t : ST => t.1 31) q112).trans e93
                        have a114 : s112.2.2 68 = σ.2.2 68 := (show s112.2.2 68 = t92.2.2 68 from (congrArg (fun t : ST => t.2.2 68) q112).trans rfl).trans en_92
                        have a115 : s112.2.2 80 = σ.2.2 80 := (show s112.2.2 80 = t92.2.2 80 from (congrArg (fun t : ST => t.2.2 80) q112).trans rfl).trans ea_92
                        have a116 : s112.1 38 = spS (σ.2.2 68) (σ.2.2 80) F31 i6_1 := (show s112.1 38 = t92.1 38 from (congrArg (fun t : ST => t.1 38) q112).trans rfl).trans sp_92
                        have a117 : TG x91 (i92_5 - 1) i11_2 (s112.2.2 82) (lnS (σ.2.2 68) (σ.2.2 80) i6_1 i11_3).1 := TG.step tg_92 (by omega) c103 (show s112.2.2 82 = upd (t92.2.2 82) i92_5 (t92.2.2 82 (i92_5 - 1)) from congrArg (fun t : ST => t.2.2 82) q112)
                        replace hR92 := bd_to hR92 (y_dec1 (by omega))
                        refine lv_iinc (v := (nI (i92_5 - 1))) (lv' := [(5, .int (nI (i92_5 - 1))), (4, .int x91), (3, .int (nI i11_3)), (2, .int (nI i11_2)), (1, .int (nI i6_1)), (0, .ref (g.2.1 79))]) hx hb dX12_findMiddle_83 hl (k := 0) rfl (y_dec1 (by omega)) (by decide) rfl (fun ls hl => ?_)
                        refine lv_goto (tgt := 48) hx hb dX12_findMiddle_86 (by decide) ?_
                        exact ih92 s112 (i92_5 - 1) hI112 hF112 e113 (by omega) a114 a115 a116 a117 hR92 (by omega) _ _ _ h (lv_sub hl [0, 1, 2, 3, 4, 5] rfl)
                exact loop48_92 4096 t11 i11_2 hI_11 hF_11 e12 (by omega) en_11 ea_11 sp_11 (TG.start ln_11) hR11 (by omega) _ _ _ h (lv_sub hl [0, 1, 2, 3, 4, 5] rfl)
        exact loop16_11 4096 t6 0 0 hI_6 hF_6 e7 (Nat.zero_le _) (Nat.zero_le _) en_6 ea_6 sp_6 rfl (fun j hj => absurd hj (Nat.not_lt_zero _)) hR6 (by omega) _ _ _ h (lv_sub hl [0, 1, 2, 3] rfl)
  exact loop7_6 4096 s1 0 hI1 hF1 e2 (Nat.zero_le _) a4 a5 e3 hR (by omega) _ _ _ h (lv_sub hl [0, 1] rfl)
set_option maxHeartbeats 4000000 in
set_option maxRecDepth 100000 in
theorem aX12_askRows_0 (l : Launch) (g : CX) (σ : ST) (hI : INV σ) (p1 : Int32) (p2 : Int32) (F31 : Nat) (eF31 : σ.1 31 = nI F31) (hh0 : F31 ≤ 48) : XM l g yX12_askRows wsX12_askRows { frames := 1, cells := 0, slots := 0, locals := 25 } [.ref (g.2.1 79), .int p1, .int p2] σ (XQv g (fun σ' => fX12_askRows_0 p1 p2 σ = σ' ∧ ((σ'.1 38 = spA (σ.2.2 68) F31 p1 p2)) ∧ INV σ' ∧ Fr [(38, 38)] [(80, 82)] σ σ')) := by
  refine x_met (own := RX12) (cc := cX12_askRows) (maxL := 4) (ret := none) (lv := [(0, .ref (g.2.1 79)), (1, .int p1), (2, .int p2)]) (by decide) rfl rfl (Nat.le_of_ble_eq_true rfl) rfl ?_
  intro p e s m args below meth c ls E h hl
  have hx := E.1
  have hb := E.2.1
  have hown := E.2.2.2.1
  have hts := E.2.2.2.2.1
  have hF : Fr [(38, 38)] [(80, 82)] σ σ := Fr.refl σ
  obtain ⟨R, hR0⟩ : ∃ R, fX12_askRows_0 p1 p2 σ = R := ⟨_, rfl⟩
  have hR : fX12_askRows_0b0 p1 p2 σ = R := hR0
  have hwX12 : ∀ w ∈ wsX120, w ∈ wsX12_askRows := by decide +kernel
  generalize hPQ : XQv g (fun σ' => fX12_askRows_0 p1 p2 σ = σ' ∧ ((σ'.1 38 = spA (σ.2.2 68) F31 p1 p2)) ∧ INV σ' ∧ Fr [(38, 38)] [(80, 82)] σ σ') = PQz
  refine lv_iconst (v := 0) hx hb dX12_askRows_0 (by decide) ?_
  refine lv_istore_n (lv' := [(3, .int 0), (0, .ref (g.2.1 79)), (1, .int p1), (2, .int p2)]) hx hb dX12_askRows_1 rfl hl (by decide) rfl (fun ls hl => ?_)
  have loop2_1 : ∀ (fu : Nat) (t1 : ST) (i1_3 : Nat), INV t1 → Fr [(38, 38)] [(80, 82)] σ t1 → t1.1 31 = nI F31 → i1_3 ≤ F31 → t1.2.2 68 = σ.2.2 68 → AP (t1.2.2 80) 0 i1_3 (EQf (askS p1 (p1 + p2 - 1))) → fX12_askRows_0l2 fu p1 p2 (nI i1_3) t1 = R → F31 - i1_3 < fu → ∀ (H : Heap) (locs : List Loc) (ls : Array Slot), HW g t1 s H locs → lv_has ls 4 [(3, .int (nI i1_3)), (0, .ref (g.2.1 79)), (1, .int p1), (2, .int p2)] → W p l e { frames := 1, cells := 0, slots := 0, locals := 25 } s m args below meth c H locs 0 0 (MQ below PQz args s 0 0 (Aw g)) (F0 m 2 ls []) := by
    intro fu1
    induction fu1 with
    | zero => intro t1 i1_3 hI_1 hF_1 e2 bi1_3 en_1 as_1 hR1 hm; exact absurd hm (Nat.not_lt_zero _)
    | succ fu1 ih =>
      have ih1 := ih
      clear ih
      intro t1 i1_3 hI_1 hF_1 e2 bi1_3 en_1 as_1 hR1 hm1 H locs ls h hl
      replace hR1 : fX12_askRows_0b2 (fX12_askRows_0l2 fu1) p1 p2 (nI i1_3) t1 = R := hR1
      refine lv_iload_n hx hb dX12_askRows_2 rfl (lv_at hl 0 rfl) ?_
      refine lv_aload_n hx hb dX12_askRows_3 rfl (lv_at hl 1 rfl) ?_
      refine x_getI E h (fi_mo_rows g) rfl hwX12 (by decide) (by decide +kernel) (v := nI F31) e2 dX12_askRows_4 ?_
      replace hR1 := bd_to hR1 e2
      refine lv_icmp_ge (tgt := 32) hx hb dX12_askRows_7 (by decide) (fun c3 => ?_) (fun c3 => ?_)
      · skip
        replace hR1 := it_t hR1 c3
        have b4 : F31 ≤ i1_3 := y_le (a := F31) (b := i1_3) (by omega) (by omega) c3
        refine lv_aload_n hx hb dX12_askRows_32 rfl (lv_at hl 1 rfl) ?_
        refine x_vv E h (na := 0) (As := []) (aX12_findMiddle_0 l g t1 hI_1 F31 e2 (by omega)) (oc_mo g) rfl gX12_askRows_X12_findMiddle rfl ⟨rfl, rfl⟩ rfl (by decide +kernel) ⟨Nat.le_of_ble_eq_true rfl, Nat.le_of_ble_eq_true rfl⟩ hl.1 rfl (Nat.le_of_ble_eq_true rfl) dX12_askRows_33 ⟨Nat.le_of_ble_eq_true rfl, Nat.le_of_ble_eq_true rfl⟩ (fun s5 H locs q5 h => ?_)
        obtain ⟨x5, d5, hI5, f5⟩ := q5
        replace hR1 := bd_to hR1 x5
        have hF5 := hF_1.call f5 (I := [(38, 38)]) (J := [(80, 82)]) rfl rfl
        have e6 : s5.1 31 = nI F31 := ((f5.1 31 rfl)).trans e2
        have a7 : s5.2.2 68 = σ.2.2 68 := (f5.2 68 rfl).trans en_1
        have a8 := AP.eq as_1 (f5.2 80 rfl)
        have u5_0_0 := d5
        subst hPQ
        exact x_vret E h ⟨hR0.trans hR1.symm, ((by rw [u5_0_0, en_1]; exact spS_ask (fun r9 h9 => as_1 r9 (Nat.zero_le _) (by omega)) 4)), hI5, hF5⟩ dX12_askRows_36
      · skip
        replace hR1 := it_f hR1 c3
        have b9 : i1_3 < F31 := y_nle (a := F31) (b := i1_3) (by omega) (by omega) c3
        refine lv_aload_n hx hb dX12_askRows_10 rfl (lv_at hl 1 rfl) ?_
        refine x_getR E h (fr_mo_isAsked g) rfl hwX12 (by decide) (by decide +kernel) dX12_askRows_11 ?_
        refine lv_iload_n hx hb dX12_askRows_14 rfl (lv_at hl 0 rfl) ?_
        refine lv_iload_n hx hb dX12_askRows_15 rfl (lv_at hl 0 rfl) ?_
        refine lv_iload_n hx hb dX12_askRows_16 rfl (lv_at hl 2 rfl) ?_
        refine lv_iload_n hx hb dX12_askRows_17 rfl (lv_at hl 2 rfl) ?_
        refine lv_iload_n hx hb dX12_askRows_18 rfl (lv_at hl 3 rfl) ?_
        refine lv_iadd hx hb dX12_askRows_19 ?_
        refine lv_topi (fun x10 e10 => ?_)
        replace hR1 := bd_to hR1 e10.symm
        refine lv_iconst (v := 1) hx hb dX12_askRows_20 (by decide) ?_
        refine lv_isub hx hb dX12_askRows_21 ?_
        refine lv_topi (fun x11 e11 => ?_)
        replace hR1 := bd_to hR1 e11.symm
        refine x_si E h (na := 3) (As := [.int (nI i1_3), .int p1, .int x11]) (aX12_in_0 l g t1 hI_1 (nI i1_3) p1 x11) gX12_askRows_X12_in rfl ⟨rfl, rfl⟩ rfl (by decide +kernel) ⟨Nat.le_of_ble_eq_true rfl, Nat.le_of_ble_eq_true rfl⟩ hl.1 rfl (Nat.le_of_ble_eq_true rfl) dX12_askRows_22 ⟨Nat.le_of_ble_eq_true rfl, Nat.le_of_ble_eq_true rfl⟩ (fun r12 s12 H locs q12 h => ?_)
        obtain ⟨x12, d12, rfl⟩ := q12
        replace hR1 := bd_to hR1 x12
        rcases d12 with ⟨rfl, u12_0_0, u12_0_1⟩ | ⟨rfl, u12_1_0⟩
        · skip
          refine y_stZ E h hI_1 hF_1 (ia_mo_isAsked g) (i := nI i1_3) (vp_in_nI (by omega) (by decide)) (j := i1_3) (nI_clamp (by omega)) (ba_none rfl) rfl dX12_askRows_25 (fun s13 H locs q13 hI13 hF13 h => ?_)
          replace hR1 := st_to hR1 (nI_clamp (n := i1_3) (by omega)) q13
          have e14 : s13.1 31 = nI F31 := (congrArg (fun t : ST => t.1 31) q13).trans e2
          have a15 : s13.2.2 68 = σ.2.2 68 := (show s13.2.2 68 = t1.2.2 68 from (congrArg (fun t : ST => t.2.2 68) q13).trans rfl).trans en_1
          have a17 := AP.push (Q := EQf (askS p1 (p1 + p2 - 1))) as_1 (show s13.2.2 80 = upd (t1.2.2 80) i1_3 (vp_nar .boolean 1) from congrArg (fun t : ST => t.2.2 80) q13) (show vp_nar .boolean 1 = askS p1 (p1 + p2 - 1) i1_3 by rw [← e10, ← e11]; exact askS_1 u12_0_0 u12_0_1)
          replace hR1 := bd_to hR1 (nI_add i1_3 1)
          refine lv_iinc (v := (nI (i1_3 + 1))) (lv' := [(3, .int (nI (i1_3 + 1))), (0, .ref (g.2.1 79)), (1, .int p1), (2, .int p2)]) hx hb dX12_askRows_26 hl (k := 0) rfl (nI_add i1_3 1) (by decide) rfl (fun ls hl => ?_)
          refine lv_goto (tgt := 2) hx hb dX12_askRows_29 (by decide) ?_
          exact ih1 s13 (i1_3 + 1) hI13 hF13 e14 (by omega) a15 a17 hR1 (by omega) _ _ _ h (lv_sub hl [0, 1, 2, 3] rfl)
        · skip
          refine y_stZ E h hI_1 hF_1 (ia_mo_isAsked g) (i := nI i1_3) (vp_in_nI (by omega) (by decide)) (j := i1_3) (nI_clamp (by omega)) (ba_none rfl) rfl dX12_askRows_25 (fun s18 H locs q18 hI18 hF18 h => ?_)
          replace hR1 := st_to hR1 (nI_clamp (n := i1_3) (by omega)) q18
          have e19 : s18.1 31 = nI F31 := (congrArg (fun t : ST => t.1 31) q18).trans e2
          have a20 : s18.2.2 68 = σ.2.2 68 := (show s18.2.2 68 = t1.2.2 68 from (congrArg (fun t : ST => t.2.2 68) q18).trans rfl).trans en_1
          have a22 := AP.push (Q := EQf (askS p1 (p1 + p2 - 1))) as_1 (show s18.2.2 80 = upd (t1.2.2 80) i1_3 (vp_nar .boolean 0) from congrArg (fun t : ST => t.2.2 80) q18) (show vp_nar .boolean 0 = askS p1 (p1 + p2 - 1) i1_3 by rw [← e10, ← e11]; exact askS_0 u12_1_0)
          replace hR1 := bd_to hR1 (nI_add i1_3 1)
          refine lv_iinc (v := (nI (i1_3 + 1))) (lv' := [(3, .int (nI (i1_3 + 1))), (0, .ref (g.2.1 79)), (1, .int p1), (2, .int p2)]) hx hb dX12_askRows_26 hl (k := 0) rfl (nI_add i1_3 1) (by decide) rfl (fun ls hl => ?_)
          refine lv_goto (tgt := 2) hx hb dX12_askRows_29 (by decide) ?_
          exact ih1 s18 (i1_3 + 1) hI18 hF18 e19 (by omega) a20 a22 hR1 (by omega) _ _ _ h (lv_sub hl [0, 1, 2, 3] rfl)
  exact loop2_1 4096 σ 0 hI hF eF31 (Nat.zero_le _) rfl AP.none hR (by omega) _ _ _ h (lv_sub hl [0, 1, 2, 3] rfl)
set_option maxHeartbeats 4000000 in
set_option maxRecDepth 100000 in
theorem aX12_cut_0 (l : Launch) (g : CX) (σ : ST) (hI : INV σ) (p1 : Nat) (p2 : Nat) (F31 : Nat) (eF31 : σ.1 31 = nI F31) (F35 : Nat) (eF35 : σ.1 35 = nI F35) (hh0 : p1 ≤ p2) (hh1 : p2 < F31) (hh2 : F31 ≤ 48) (hh3 : F35 ≤ p1) (hPO : AP (σ.2.2 77) 0 p1 (PQ F35)) : XM l g yX12_cut wsX12_cut { frames := 2, cells := 0, slots := 0, locals := 48 } [.ref (g.2.1 79), .int (nI p1), .int (nI p2)] σ (XQv g (fun σ' => fX12_cut_0 (nI p1) (nI p2) σ = σ' ∧ ((∃ P : Nat, σ'.1 35 = nI P ∧ P ≤ p2 + 1 ∧ AP (σ'.2.2 77) 0 (p2 + 1) (PQ P) ∧ P = F35 + cutN (fun r9 n9 => spA (σ.2.2 68) F31 (nI r9) (nI n9)) (σ.2.2 66 0) p1 p2)) ∧ INV σ' ∧ Fr [(35, 35), (37, 38)] [(75, 84)] σ σ')) := by
  refine x_met (own := RX12) (cc := cX12_cut) (maxL := 6) (ret := none) (lv := [(0, .ref (g.2.1 79)), (1, .int (nI p1)), (2, .int (nI p2))]) (by decide) rfl rfl (Nat.le_of_ble_eq_true rfl) rfl ?_
  intro p e s m args below meth c ls E h hl
  have hx := E.1
  have hb := E.2.1
  have hown := E.2.2.2.1
  have hts := E.2.2.2.2.1
  have hF : Fr [(35, 35), (37, 38)] [(75, 84)] σ σ := Fr.refl σ
  obtain ⟨R, hR0⟩ : ∃ R, fX12_cut_0 (nI p1) (nI p2) σ = R := ⟨_, rfl⟩
  have hR : fX12_cut_0b0 (nI p1) (nI p2) σ = R := hR0
  have hwX12 : ∀ w ∈ wsX120, w ∈ wsX12_cut := by decide +kernel
  generalize hPQ : XQv g (fun σ' => fX12_cut_0 (nI p1) (nI p2) σ = σ' ∧ ((∃ P : Nat, σ'.1 35 = nI P ∧ P ≤ p2 + 1 ∧ AP (σ'.2.2 77) 0 (p2 + 1) (PQ P) ∧ P = F35 + cutN (fun r9 n9 => spA (σ.2.2 68) F31 (nI r9) (nI n9)) (σ.2.2 66 0) p1 p2)) ∧ INV σ' ∧ Fr [(35, 35), (37, 38)] [(75, 84)] σ σ') = PQz
  refine lv_aload_n hx hb dX12_cut_0 rfl (lv_at hl 0 rfl) ?_
  refine x_getR E h (fr_mo_least g) rfl hwX12 (by decide) (by decide +kernel) dX12_cut_1 ?_
  refine lv_iload_n hx hb dX12_cut_4 rfl (lv_at hl 2 rfl) ?_
  refine lv_iconst (v := 1) hx hb dX12_cut_5 (by decide) ?_
  refine lv_iadd hx hb dX12_cut_6 ?_
  refine x_topI (v2 := nI (p2 + 1)) (nI_add p2 1) ?_
  replace hR := bd_to hR (nI_add p2 1)
  refine lv_iconst (v := 0) hx hb dX12_cut_7 (by decide) ?_
  refine y_stI E h hI hF (ia_mo_least g) (i := nI (p2 + 1)) (vp_in_nI (by omega) (by decide)) (j := (p2 + 1)) (nI_clamp (by omega)) (ba_none rfl) rfl dX12_cut_8 (fun s1 H locs q1 hI1 hF1 h => ?_)
  replace hR := st_to hR (nI_clamp (n := p2 + 1) (by omega)) q1
  have e2 : s1.1 31 = nI F31 := (congrArg (fun t : ST => t.1 31) q1).trans eF31
  have e3 : s1.1 35 = nI F35 := (congrArg (fun t : ST => t.1 35) q1).trans eF35
  have a4 := AP.eq hPO (show s1.2.2 77 = σ.2.2 77 from (congrArg (fun t : ST => t.2.2 77) q1).trans rfl)
  have a5 : s1.2.2 68 = σ.2.2 68 := (show s1.2.2 68 = σ.2.2 68 from (congrArg (fun t : ST => t.2.2 68) q1).trans rfl).trans rfl
  have a6 : s1.2.2 66 = σ.2.2 66 := (show s1.2.2 66 = σ.2.2 66 from (congrArg (fun t : ST => t.2.2 66) q1).trans rfl).trans rfl
  have l07 : s1.2.2 83 (p2 + 1) = 0 := (congrFun (show s1.2.2 83 = upd (σ.2.2 83) (p2 + 1) 0 from congrArg (fun t : ST => t.2.2 83) q1) (p2 + 1)).trans pk_us
  refine lv_iload_n hx hb dX12_cut_9 rfl (lv_at hl 2 rfl) ?_
  refine lv_istore_n (lv' := [(3, .int (nI p2)), (0, .ref (g.2.1 79)), (1, .int (nI p1)), (2, .int (nI p2))]) hx hb dX12_cut_10 rfl hl (by decide) rfl (fun ls hl => ?_)
  have hl : lv_has ls 6 [(3, .int (nI (p2 + 1) - 1)), (0, .ref (g.2.1 79)), (1, .int (nI p1)), (2, .int (nI p2))] := by rw [nI_pred]; exact hl
  have loop11_8 : ∀ (fu : Nat) (t8 : ST) (i8_3 : Nat), INV t8 → Fr [(35, 35), (37, 38)] [(75, 84)] σ t8 → t8.1 31 = nI F31 → t8.1 35 = nI F35 → i8_3 ≤ p2 + 1 → AP (t8.2.2 77) 0 p1 (PQ F35) → t8.2.2 68 = σ.2.2 68 → t8.2.2 66 = σ.2.2 66 → (t8.2.2 83) (p2 + 1) = 0 → AP (t8.2.2 84) i8_3 (p2 + 1) (TQ p2) → LTA (fun r9 n9 => spA (σ.2.2 68) F31 (nI r9) (nI n9)) (σ.2.2 66 0) p2 i8_3 (t8.2.2 83) (t8.2.2 84) → fX12_cut_0l11 fu (nI p1) (nI p2) (nI i8_3 - 1) t8 = R → i8_3 < fu → ∀ (H : Heap) (locs : List Loc) (ls : Array Slot), HW g t8 s H locs → lv_has ls 6 [(3, .int (nI i8_3 - 1)), (0, .ref (g.2.1 79)), (1, .int (nI p1)), (2, .int (nI p2))] → W p l e { frames := 2, cells := 0, slots := 0, locals := 48 } s m args below meth c H locs 0 0 (MQ below PQz args s 0 0 (Aw g)) (F0 m 11 ls []) := by
    intro fu8
    induction fu8 with
    | zero => intro t8 i8_3 hI_8 hF_8 e9 e10 bi8_3 po_8 en_8 er_8 l0_8 tk_8 lt_8 hR8 hm; exact absurd hm (Nat.not_lt_zero _)
    | succ fu8 ih =>
      have ih8 := ih
      clear ih
      intro t8 i8_3 hI_8 hF_8 e9 e10 bi8_3 po_8 en_8 er_8 l0_8 tk_8 lt_8 hR8 hm8 H locs ls h hl
      replace hR8 : fX12_cut_0b11 (fX12_cut_0l11 fu8) (nI p1) (nI p2) (nI i8_3 - 1) t8 = R := hR8
      refine lv_iload_n hx hb dX12_cut_11 rfl (lv_at hl 0 rfl) ?_
      refine lv_iload_n hx hb dX12_cut_12 rfl (lv_at hl 2 rfl) ?_
      refine lv_icmp_lt (tgt := 114) hx hb dX12_cut_13 (by decide) (fun c11 => ?_) (fun c11 => ?_)
      · skip
        replace hR8 := it_t hR8 c11
        have b12 : i8_3 < p1 + 1 := y_ltL (a := i8_3) (b := p1) (by omega) (by omega) c11
        refine lv_aload_n hx hb dX12_cut_114 rfl (lv_at hl 1 rfl) ?_
        refine lv_dup hx hb dX12_cut_115 rfl ?_
        obtain ⟨x13, e13⟩ : ∃ x, t8.1 37 = x := ⟨_, rfl⟩
        refine x_getI E h (fi_mo_price g) rfl hwX12 (by decide) (by decide +kernel) (v := x13) e13 dX12_cut_116 ?_
        replace hR8 := bd_to hR8 e13
        refine lv_aload_n hx hb dX12_cut_119 rfl (lv_at hl 1 rfl) ?_
        refine x_getR E h (fr_mo_least g) rfl hwX12 (by decide) (by decide +kernel) dX12_cut_120 ?_
        refine lv_iload_n hx hb dX12_cut_123 rfl (lv_at hl 2 rfl) ?_
        refine x_ldI E h (ia_mo_least g) (i := nI p1) (vp_in_nI (by omega) (by decide)) (v := t8.2.2 83 p1) (congrArg (t8.2.2 83) (nI_clamp (n := p1) (by omega))) dX12_cut_124 ?_
        replace hR8 := bd_to hR8 (congrArg (t8.2.2 83) (nI_clamp (n := p1) (by omega)))
        refine lv_iadd hx hb dX12_cut_125 ?_
        refine lv_topi (fun x14 e14 => ?_)
        replace hR8 := bd_to hR8 e14.symm
        refine y_putI E h hI_8 hF_8 (ty := .int) (v := x14) (fi_mo_price g) rfl hwX12 tyX12_ok nmX12 (by decide) (by decide +kernel) (by decide +kernel) (by decide +kernel) rfl rfl (ba_none rfl) rfl dX12_cut_126 (fun s15 H locs q15 hI15 hF15 h => ?_)
        replace hR8 := bd_to hR8 q15.symm
        have e16 : s15.1 31 = nI F31 := (congrArg (fun t : ST => t.1 31) q15).trans e9
        have e17 : s15.1 35 = nI F35 := (congrArg (fun t : ST => t.1 35) q15).trans e10
        have e18 : s15.1 37 = x14 := congrArg (fun t : ST => t.1 37) q15
        have a19 := AP.eq po_8 (show s15.2.2 77 = t8.2.2 77 from (congrArg (fun t : ST => t.2.2 77) q15).trans rfl)
        have a20 : s15.2.2 68 = σ.2.2 68 := (show s15.2.2 68 = t8.2.2 68 from (congrArg (fun t : ST => t.2.2 68) q15).trans rfl).trans en_8
        have a21 : s15.2.2 66 = σ.2.2 66 := (show s15.2.2 66 = t8.2.2 66 from (congrArg (fun t : ST => t.2.2 66) q15).trans rfl).trans er_8
        have a22 : (s15.2.2 83) (p2 + 1) = 0 := PF.eq (Q := fun f9 => f9 (p2 + 1) = 0) l0_8 (show s15.2.2 83 = t8.2.2 83 from (congrArg (fun t : ST => t.2.2 83) q15).trans rfl)
        have a23 := AP.eq tk_8 (show s15.2.2 84 = t8.2.2 84 from (congrArg (fun t : ST => t.2.2 84) q15).trans rfl)
        have a24 : LTA (fun r9 n9 => spA (σ.2.2 68) F31 (nI r9) (nI n9)) (σ.2.2 66 0) p2 i8_3 (s15.2.2 83) (s15.2.2 84) := PF2.eq (Q := fun f9 g9 => LTA (fun r9 n9 => spA (σ.2.2 68) F31 (nI r9) (nI n9)) (σ.2.2 66 0) p2 i8_3 f9 g9) lt_8 (show s15.2.2 83 = t8.2.2 83 from (congrArg (fun t : ST => t.2.2 83) q15).trans rfl) (show s15.2.2 84 = t8.2.2 84 from (congrArg (fun t : ST => t.2.2 84) q15).trans rfl)
        have cr25 : CutR (fun r9 n9 => spA (σ.2.2 68) F31 (nI r9) (nI n9)) (σ.2.2 66 0) p1 p2 (jmp (s15.2.2 84) p2 (p2 + 1 - p1) p1) := ⟨s15.2.2 83, s15.2.2 84, a22, fun r9 h8 h9 => a24 r9 (by omega) h9, rfl⟩
        have cn25 := cutN_of cr25
        refine lv_iload_n hx hb dX12_cut_129 rfl (lv_at hl 2 rfl) ?_
        refine lv_istore_n (lv' := [(3, .int (nI p1)), (0, .ref (g.2.1 79)), (1, .int (nI p1)), (2, .int (nI p2))]) hx hb dX12_cut_130 rfl hl (by decide) rfl (fun ls hl => ?_)
        have loop131_26 : ∀ (fu : Nat) (t26 : ST) (f26_35 : Nat) (i26_3 : Nat), INV t26 → Fr [(35, 35), (37, 38)] [(75, 84)] σ t26 → t26.1 31 = nI F31 → t26.1 37 = x14 → t26.1 35 = nI f26_35 → i26_3 ≤ p2 + 1 → f26_35 ≤ i26_3 → p1 ≤ i26_3 → AP (t26.2.2 84) i8_3 (p2 + 1) (TQ p2) → t26.2.2 68 = σ.2.2 68 → t26.2.2 66 = σ.2.2 66 → AP (t26.2.2 77) 0 i26_3 (PQ f26_35) → f26_35 + jmp (t26.2.2 84) p2 (p2 + 1 - i26_3) i26_3 = F35 + jmp (s15.2.2 84) p2 (p2 + 1 - p1) p1 → fX12_cut_0l131 fu (nI p2) (nI i26_3) t26 = R → p2 + 1 - i26_3 < fu → ∀ (H : Heap) (locs : List Loc) (ls : Array Slot), HW g t26 s H locs → lv_has ls 6 [(3, .int (nI i26_3)), (0, .ref (g.2.1 79)), (1, .int (nI p1)), (2, .int (nI p2))] → W p l e { frames := 2, cells := 0, slots := 0, locals := 48 } s m args below meth c H locs 0 0 (MQ below PQz args s 0 0 (Aw g)) (F0 m 131 ls []) := by
          intro fu26
          induction fu26 with
          | zero => intro t26 f26_35 i26_3 hI_26 hF_26 e27 e28 ef26_35 bi26_3 pp26_0 pp26_1 tk_26 en_26 er_26 po_26 jm_26 hR26 hm; exact absurd hm (Nat.not_lt_zero _)
          | succ fu26 ih =>
            have ih26 := ih
            clear ih
            intro t26 f26_35 i26_3 hI_26 hF_26 e27 e28 ef26_35 bi26_3 pp26_0 pp26_1 tk_26 en_26 er_26 po_26 jm_26 hR26 hm26 H locs ls h hl
            replace hR26 : fX12_cut_0b131 (fX12_cut_0l131 fu26) (nI p2) (nI i26_3) t26 = R := hR26
            refine lv_iload_n hx hb dX12_cut_131 rfl (lv_at hl 0 rfl) ?_
            refine lv_iload_n hx hb dX12_cut_132 rfl (lv_at hl 3 rfl) ?_
            refine lv_icmp_gt (tgt := 276) hx hb dX12_cut_133 (by decide) (fun c29 => ?_) (fun c29 => ?_)
            · skip
              replace hR26 := it_t hR26 c29
              have b30 : p2 < i26_3 := y_lt (a := p2) (b := i26_3) (by omega) (by omega) c29
              subst hPQ
              exact x_vret E h ⟨hR0.trans hR26.symm, (⟨f26_35, ef26_35, (by omega), (AP.sub po_26 (by omega)), (by have h8 := cn25; have h9 := jm_26; rw [jmp_end (by omega)] at h9; omega)⟩), hI_26, hF_26⟩ dX12_cut_276
            · skip
              replace hR26 := it_f hR26 c29
              have b31 : i26_3 ≤ p2 := y_nlt (a := p2) (b := i26_3) (by omega) (by omega) c29
              obtain ⟨n32, b32, c32, e32⟩ := tk_26 i26_3 (by omega) (by omega)
              refine lv_aload_n hx hb dX12_cut_136 rfl (lv_at hl 1 rfl) ?_
              refine x_getR E h (fr_mo_first g) rfl hwX12 (by decide) (by decide +kernel) dX12_cut_137 ?_
              refine lv_aload_n hx hb dX12_cut_140 rfl (lv_at hl 1 rfl) ?_
              refine x_getI E h (fi_mo_pieces g) rfl hwX12 (by decide) (by decide +kernel) (v := nI f26_35) ef26_35 dX12_cut_141 ?_
              replace hR26 := bd_to hR26 ef26_35
              refine lv_iload_n hx hb dX12_cut_144 rfl (lv_at hl 0 rfl) ?_
              refine y_stI E h hI_26 hF_26 (ia_mo_first g) (i := nI f26_35) (vp_in_nI (by omega) (by decide)) (j := f26_35) (nI_clamp (by omega)) (ba_none rfl) rfl dX12_cut_145 (fun s33 H locs q33 hI33 hF33 h => ?_)
              replace hR26 := st_to hR26 (nI_clamp (n := f26_35) (by omega)) q33
              have e34 : s33.1 31 = nI F31 := (congrArg (fun t : ST => t.1 31) q33).trans e27
              have e35 : s33.1 37 = x14 := (congrArg (fun t : ST => t.1 37) q33).trans e28
              have e36 : s33.1 35 = nI f26_35 := (congrArg (fun t : ST => t.1 35) q33).trans ef26_35
              have a37 := AP.eq tk_26 (show s33.2.2 84 = t26.2.2 84 from (congrArg (fun t : ST => t.2.2 84) q33).trans rfl)
              have a38 : s33.2.2 68 = σ.2.2 68 := (show s33.2.2 68 = t26.2.2 68 from (congrArg (fun t : ST => t.2.2 68) q33).trans rfl).trans en_26
              have a39 : s33.2.2 66 = σ.2.2 66 := (show s33.2.2 66 = t26.2.2 66 from (congrArg (fun t : ST => t.2.2 66) q33).trans rfl).trans er_26
              have a40 := AP.eq po_26 (show s33.2.2 77 = t26.2.2 77 from (congrArg (fun t : ST => t.2.2 77) q33).trans rfl)
              have a41 : f26_35 + jmp (s33.2.2 84) p2 (p2 + 1 - i26_3) i26_3 = F35 + jmp (s15.2.2 84) p2 (p2 + 1 - p1) p1 := PF.eq (Q := fun f9 => f26_35 + jmp f9 p2 (p2 + 1 - i26_3) i26_3 = F35 + jmp (s15.2.2 84) p2 (p2 + 1 - p1) p1) jm_26 (show s33.2.2 84 = t26.2.2 84 from (congrArg (fun t : ST => t.2.2 84) q33).trans rfl)
              have a42 : s33.2.2 84 i26_3 = nI n32 := (congrFun (show s33.2.2 84 = t26.2.2 84 from (congrArg (fun t : ST => t.2.2 84) q33).trans rfl) i26_3).trans e32
              refine lv_aload_n hx hb dX12_cut_146 rfl (lv_at hl 1 rfl) ?_
              refine x_getR E h (fr_mo_many g) rfl hwX12 (by decide) (by decide +kernel) dX12_cut_147 ?_
              refine lv_aload_n hx hb dX12_cut_150 rfl (lv_at hl 1 rfl) ?_
              refine x_getI E h (fi_mo_pieces g) rfl hwX12 (by decide) (by decide +kernel) (v := nI f26_35) e36 dX12_cut_151 ?_
              replace hR26 := bd_to hR26 e36
              refine lv_aload_n hx hb dX12_cut_154 rfl (lv_at hl 1 rfl) ?_
              refine x_getR E h (fr_mo_taken g) rfl hwX12 (by decide) (by decide +kernel) dX12_cut_155 ?_
              refine lv_iload_n hx hb dX12_cut_158 rfl (lv_at hl 0 rfl) ?_
              refine x_ldI E h (ia_mo_taken g) (i := nI i26_3) (vp_in_nI (by omega) (by decide)) (v := nI n32) ((congrArg (s33.2.2 84) (nI_clamp (n := i26_3) (by omega))).trans a42) dX12_cut_159 ?_
              replace hR26 := bd_to hR26 ((congrArg (s33.2.2 84) (nI_clamp (n := i26_3) (by omega))).trans a42)
              refine y_stI E h hI33 hF33 (ia_mo_many g) (i := nI f26_35) (vp_in_nI (by omega) (by decide)) (j := f26_35) (nI_clamp (by omega)) (ba_none rfl) rfl dX12_cut_160 (fun s43 H locs q43 hI43 hF43 h => ?_)
              replace hR26 := st_to hR26 (nI_clamp (n := f26_35) (by omega)) q43
              have e44 : s43.1 31 = nI F31 := (congrArg (fun t : ST => t.1 31) q43).trans e34
              have e45 : s43.1 37 = x14 := (congrArg (fun t : ST => t.1 37) q43).trans e35
              have e46 : s43.1 35 = nI f26_35 := (congrArg (fun t : ST => t.1 35) q43).trans e36
              have a47 := AP.eq a37 (show s43.2.2 84 = s33.2.2 84 from (congrArg (fun t : ST => t.2.2 84) q43).trans rfl)
              have a48 : s43.2.2 68 = σ.2.2 68 := (show s43.2.2 68 = s33.2.2 68 from (congrArg (fun t : ST => t.2.2 68) q43).trans rfl).trans a38
              have a49 : s43.2.2 66 = σ.2.2 66 := (show s43.2.2 66 = s33.2.2 66 from (congrArg (fun t : ST => t.2.2 66) q43).trans rfl).trans a39
              have a50 := AP.eq a40 (show s43.2.2 77 = s33.2.2 77 from (congrArg (fun t : ST => t.2.2 77) q43).trans rfl)
              have a51 : f26_35 + jmp (s43.2.2 84) p2 (p2 + 1 - i26_3) i26_3 = F35 + jmp (s15.2.2 84) p2 (p2 + 1 - p1) p1 := PF.eq (Q := fun f9 => f26_35 + jmp f9 p2 (p2 + 1 - i26_3) i26_3 = F35 + jmp (s15.2.2 84) p2 (p2 + 1 - p1) p1) a41 (show s43.2.2 84 = s33.2.2 84 from (congrArg (fun t : ST => t.2.2 84) q43).trans rfl)
              have a52 : s43.2.2 84 i26_3 = nI n32 := (congrFun (show s43.2.2 84 = s33.2.2 84 from (congrArg (fun t : ST => t.2.2 84) q43).trans rfl) i26_3).trans a42
              refine lv_aload_n hx hb dX12_cut_161 rfl (lv_at hl 1 rfl) ?_
              refine lv_iload_n hx hb dX12_cut_162 rfl (lv_at hl 0 rfl) ?_
              refine lv_aload_n hx hb dX12_cut_163 rfl (lv_at hl 1 rfl) ?_
              refine x_getR E h (fr_mo_taken g) rfl hwX12 (by decide) (by decide +kernel) dX12_cut_164 ?_
              refine lv_iload_n hx hb dX12_cut_167 rfl (lv_at hl 0 rfl) ?_
              refine x_ldI E h (ia_mo_taken g) (i := nI i26_3) (vp_in_nI (by omega) (by decide)) (v := nI n32) ((congrArg (s43.2.2 84) (nI_clamp (n := i26_3) (by omega))).trans a52) dX12_cut_168 ?_
              replace hR26 := bd_to hR26 ((congrArg (s43.2.2 84) (nI_clamp (n := i26_3) (by omega))).trans a52)
              refine x_vv E h (na := 2) (As := [.int (nI i26_3), .int (nI n32)]) (aX12_askRows_0 l g s43 hI43 (nI i26_3) (nI n32) F31 e44 (by omega)) (oc_mo g) rfl gX12_cut_X12_askRows rfl ⟨rfl, rfl⟩ rfl (by decide +kernel) ⟨Nat.le_of_ble_eq_true rfl, Nat.le_of_ble_eq_true rfl⟩ hl.1 rfl (Nat.le_of_ble_eq_true rfl) dX12_cut_169 ⟨Nat.le_of_ble_eq_true rfl, Nat.le_of_ble_eq_true rfl⟩ (fun s53 H locs q53 h => ?_)
              obtain ⟨x53, d53, hI53, f53⟩ := q53
              replace hR26 := bd_to hR26 x53
              have hF53 := hF43.call f53 (I := [(35, 35), (37, 38)]) (J := [(75, 84)]) rfl rfl
              have e54 : s53.1 31 = nI F31 := ((f53.1 31 rfl)).trans e44
              have e55 : s53.1 37 = x14 := ((f53.1 37 rfl)).trans e45
              have e56 : s53.1 35 = nI f26_35 := ((f53.1 35 rfl)).trans e46
              have a57 := AP.eq a47 (f53.2 84 rfl)
              have a58 : s53.2.2 68 = σ.2.2 68 := (f53.2 68 rfl).trans a48
              have a59 : s53.2.2 66 = σ.2.2 66 := (f53.2 66 rfl).trans a49
              have a60 := AP.eq a50 (f53.2 77 rfl)
              have a61 : f26_35 + jmp (s53.2.2 84) p2 (p2 + 1 - i26_3) i26_3 = F35 + jmp (s15.2.2 84) p2 (p2 + 1 - p1) p1 := PF.eq (Q := fun f9 => f26_35 + jmp f9 p2 (p2 + 1 - i26_3) i26_3 = F35 + jmp (s15.2.2 84) p2 (p2 + 1 - p1) p1) a51 (f53.2 84 rfl)
              have a62 : s53.2.2 84 i26_3 = nI n32 := (congrFun ((f53.2 84 rfl)) i26_3).trans a52
              have u53_0_0 := d53
              refine lv_aload_n hx hb dX12_cut_172 rfl (lv_at hl 1 rfl) ?_
              refine x_getR E h (fr_mo_spread g) rfl hwX12 (by decide) (by decide +kernel) dX12_cut_173 ?_
              refine lv_aload_n hx hb dX12_cut_176 rfl (lv_at hl 1 rfl) ?_
              refine x_getI E h (fi_mo_pieces g) rfl hwX12 (by decide) (by decide +kernel) (v := nI f26_35) e56 dX12_cut_177 ?_
              replace hR26 := bd_to hR26 e56
              refine lv_aload_n hx hb dX12_cut_180 rfl (lv_at hl 1 rfl) ?_
              obtain ⟨x63, e63⟩ : ∃ x, s53.1 38 = x := ⟨_, rfl⟩
              refine x_getI E h (fi_mo_apart g) rfl hwX12 (by decide) (by decide +kernel) (v := x63) e63 dX12_cut_181 ?_
              replace hR26 := bd_to hR26 e63
              refine y_stI E h hI53 hF53 (ia_mo_spread g) (i := nI f26_35) (vp_in_nI (by omega) (by decide)) (j := f26_35) (nI_clamp (by omega)) (ba_none rfl) rfl dX12_cut_184 (fun s64 H locs q64 hI64 hF64 h => ?_)
              replace hR26 := st_to hR26 (nI_clamp (n := f26_35) (by omega)) q64
              have e65 : s64.1 31 = nI F31 := (congrArg (fun t : ST => t.1 31) q64).trans e54
              have e66 : s64.1 37 = x14 := (congrArg (fun t : ST => t.1 37) q64).trans e55
              have e67 : s64.1 35 = nI f26_35 := (congrArg (fun t : ST => t.1 35) q64).trans e56
              have e68 : s64.1 38 = x63 := (congrArg (fun t : ST => t.1 38) q64).trans e63
              have a69 := AP.eq a57 (show s64.2.2 84 = s53.2.2 84 from (congrArg (fun t : ST => t.2.2 84) q64).trans rfl)
              have a70 : s64.2.2 68 = σ.2.2 68 := (show s64.2.2 68 = s53.2.2 68 from (congrArg (fun t : ST => t.2.2 68) q64).trans rfl).trans a58
              have a71 : s64.2.2 66 = σ.2.2 66 := (show s64.2.2 66 = s53.2.2 66 from (congrArg (fun t : ST => t.2.2 66) q64).trans rfl).trans a59
              have a72 := AP.eq a60 (show s64.2.2 77 = s53.2.2 77 from (congrArg (fun t : ST => t.2.2 77) q64).trans rfl)
              have a73 : f26_35 + jmp (s64.2.2 84) p2 (p2 + 1 - i26_3) i26_3 = F35 + jmp (s15.2.2 84) p2 (p2 + 1 - p1) p1 := PF.eq (Q := fun f9 => f26_35 + jmp f9 p2 (p2 + 1 - i26_3) i26_3 = F35 + jmp (s15.2.2 84) p2 (p2 + 1 - p1) p1) a61 (show s64.2.2 84 = s53.2.2 84 from (congrArg (fun t : ST => t.2.2 84) q64).trans rfl)
              have a74 : s64.2.2 84 i26_3 = nI n32 := (congrFun (show s64.2.2 84 = s53.2.2 84 from (congrArg (fun t : ST => t.2.2 84) q64).trans rfl) i26_3).trans a62
              refine lv_iconst (v := 0) hx hb dX12_cut_185 (by decide) ?_
              refine lv_istore (lv' := [(4, .int 0), (3, .int (nI i26_3)), (0, .ref (g.2.1 79)), (1, .int (nI p1)), (2, .int (nI p2))]) hx hb dX12_cut_186 hl (by decide) rfl (fun ls hl => ?_)
              have loop188_75 : ∀ (fu : Nat) (t75 : ST) (i75_4 : Nat), INV t75 → Fr [(35, 35), (37, 38)] [(75, 84)] σ t75 → t75.1 31 = nI F31 → t75.1 37 = x14 → t75.1 35 = nI f26_35 → t75.1 38 = x63 → i75_4 ≤ 4 → AP (t75.2.2 77) 0 i26_3 (PQ f26_35) → AP (t75.2.2 84) i8_3 (p2 + 1) (TQ p2) → t75.2.2 84 i26_3 = nI n32 → t75.2.2 68 = σ.2.2 68 → t75.2.2 66 = σ.2.2 66 → f26_35 + jmp (t75.2.2 84) p2 (p2 + 1 - i26_3) i26_3 = F35 + jmp (s15.2.2 84) p2 (p2 + 1 - p1) p1 → fX12_cut_0l188 (fX12_cut_0l131 fu26) fu (nI p2) (nI i26_3) (nI i75_4) t75 = R → 4 - i75_4 < fu → ∀ (H : Heap) (locs : List Loc) (ls : Array Slot), HW g t75 s H locs → lv_has ls 6 [(4, .int (nI i75_4)), (3, .int (nI i26_3)), (0, .ref (g.2.1 79)), (1, .int (nI p1)), (2, .int (nI p2))] → W p l e { frames := 2, cells := 0, slots := 0, locals := 48 } s m args below meth c H locs 0 0 (MQ below PQz args s 0 0 (Aw g)) (F0 m 188 ls []) := by
                intro fu75
                induction fu75 with
                | zero => intro t75 i75_4 hI_75 hF_75 e76 e77 e78 e79 bi75_4 po_75 tk_75 tv_75 en_75 er_75 jm_75 hR75 hm; exact absurd hm (Nat.not_lt_zero _)
                | succ fu75 ih =>
                  have ih75 := ih
                  clear ih
                  intro t75 i75_4 hI_75 hF_75 e76 e77 e78 e79 bi75_4 po_75 tk_75 tv_75 en_75 er_75 jm_75 hR75 hm75 H locs ls h hl
                  replace hR75 : fX12_cut_0b188 (fX12_cut_0l131 fu26) (fX12_cut_0l188 (fX12_cut_0l131 fu26) fu75) (nI p2) (nI i26_3) (nI i75_4) t75 = R := hR75
                  refine lv_iload hx hb dX12_cut_188 (lv_at hl 0 rfl) ?_
                  refine lv_iconst (v := 4) hx hb dX12_cut_190 (by decide) ?_
                  refine lv_icmp_ge (tgt := 221) hx hb dX12_cut_191 (by decide) (fun c80 => ?_) (fun c80 => ?_)
                  · skip
                    replace hR75 := it_t hR75 c80
                    have b81 : 4 ≤ i75_4 := y_le (a := 4) (b := i75_4) (by omega) (by omega) c80
                    refine lv_iload_n hx hb dX12_cut_221 rfl (lv_at hl 1 rfl) ?_
                    refine lv_istore (lv' := [(4, .int (nI i26_3)), (3, .int (nI i26_3)), (0, .ref (g.2.1 79)), (1, .int (nI p1)), (2, .int (nI p2))]) hx hb dX12_cut_222 hl (by decide) rfl (fun ls hl => ?_)
                    have loop224_82 : ∀ (fu : Nat) (t82 : ST) (i82_4 : Nat), INV t82 → Fr [(35, 35), (37, 38)] [(75, 84)] σ t82 → t82.1 31 = nI F31 → t82.1 37 = x14 → t82.1 35 = nI f26_35 → t82.1 38 = x63 → i82_4 ≤ p2 + 1 → AP (t82.2.2 84) i8_3 (p2 + 1) (TQ p2) → t82.2.2 84 i26_3 = nI n32 → t82.2.2 68 = σ.2.2 68 → t82.2.2 66 = σ.2.2 66 → f26_35 + jmp (t82.2.2 84) p2 (p2 + 1 - i26_3) i26_3 = F35 + jmp (s15.2.2 84) p2 (p2 + 1 - p1) p1 → AP (t82.2.2 77) 0 i82_4 (PQ (f26_35 + 1)) → fX12_cut_0l224 (fX12_cut_0l131 fu26) fu (nI p2) (nI i26_3) (nI i82_4) t82 = R → p2 + 1 - i82_4 < fu → ∀ (H : Heap) (locs : List Loc) (ls : Array Slot), HW g t82 s H locs → lv_has ls 6 [(4, .int (nI i82_4)), (3, .int (nI i26_3)), (0, .ref (g.2.1 79)), (1, .int (nI p1)), (2, .int (nI p2))] → W p l e { frames := 2, cells := 0, slots := 0, locals := 48 } s m args below meth c H locs 0 0 (MQ below PQz args s 0 0 (Aw g)) (F0 m 224 ls []) := by
                      intro fu82
                      induction fu82 with
                      | zero => intro t82 i82_4 hI_82 hF_82 e83 e84 e85 e86 bi82_4 tk_82 tv_82 en_82 er_82 jm_82 po_82 hR82 hm; exact absurd hm (Nat.not_lt_zero _)
                      | succ fu82 ih =>
                        have ih82 := ih
                        clear ih
                        intro t82 i82_4 hI_82 hF_82 e83 e84 e85 e86 bi82_4 tk_82 tv_82 en_82 er_82 jm_82 po_82 hR82 hm82 H locs ls h hl
                        replace hR82 : fX12_cut_0b224 (fX12_cut_0l131 fu26) (fX12_cut_0l224 (fX12_cut_0l131 fu26) fu82) (nI p2) (nI i26_3) (nI i82_4) t82 = R := hR82
                        refine lv_iload hx hb dX12_cut_224 (lv_at hl 0 rfl) ?_
                        refine lv_iload_n hx hb dX12_cut_226 rfl (lv_at hl 1 rfl) ?_
                        refine lv_aload_n hx hb dX12_cut_227 rfl (lv_at hl 2 rfl) ?_
                        refine x_getR E h (fr_mo_taken g) rfl hwX12 (by decide) (by decide +kernel) dX12_cut_228 ?_
                        refine lv_iload_n hx hb dX12_cut_231 rfl (lv_at hl 1 rfl) ?_
                        refine x_ldI E h (ia_mo_taken g) (i := nI i26_3) (vp_in_nI (by omega) (by decide)) (v := nI n32) ((congrArg (t82.2.2 84) (nI_clamp (n := i26_3) (by omega))).trans tv_82) dX12_cut_232 ?_
                        replace hR82 := bd_to hR82 ((congrArg (t82.2.2 84) (nI_clamp (n := i26_3) (by omega))).trans tv_82)
                        refine lv_iadd hx hb dX12_cut_233 ?_
                        refine x_topI (v2 := nI (i26_3 + n32)) (nI_add i26_3 n32) ?_
                        replace hR82 := bd_to hR82 (nI_add i26_3 n32)
                        refine lv_icmp_ge (tgt := 254) hx hb dX12_cut_234 (by decide) (fun c87 => ?_) (fun c87 => ?_)
                        · skip
                          replace hR82 := it_t hR82 c87
                          have b88 : (i26_3 + n32) ≤ i82_4 := y_le (a := (i26_3 + n32)) (b := i82_4) (by omega) (by omega) c87
                          refine lv_aload_n hx hb dX12_cut_254 rfl (lv_at hl 2 rfl) ?_
                          refine lv_dup hx hb dX12_cut_255 rfl ?_
                          refine x_getI E h (fi_mo_pieces g) rfl hwX12 (by decide) (by decide +kernel) (v := nI f26_35) e85 dX12_cut_256 ?_
                          replace hR82 := bd_to hR82 e85
                          refine lv_iconst (v := 1) hx hb dX12_cut_259 (by decide) ?_
                          refine lv_iadd hx hb dX12_cut_260 ?_
                          refine x_topI (v2 := nI (f26_35 + 1)) (nI_add f26_35 1) ?_
                          replace hR82 := bd_to hR82 (nI_add f26_35 1)
                          refine y_putI E h hI_82 hF_82 (ty := .int) (v := nI (f26_35 + 1)) (fi_mo_pieces g) rfl hwX12 tyX12_ok nmX12 (by decide) (by decide +kernel) (by decide +kernel) (by decide +kernel) rfl rfl (ba_some rfl (Bd.mk (n := (f26_35 + 1)) (by omega))) rfl dX12_cut_261 (fun s89 H locs q89 hI89 hF89 h => ?_)
                          replace hR82 := bd_to hR82 q89.symm
                          have e90 : s89.1 31 = nI F31 := (congrArg (fun t : ST => t.1 31) q89).trans e83
                          have e91 : s89.1 37 = x14 := (congrArg (fun t : ST => t.1 37) q89).trans e84
                          have e92 : s89.1 38 = x63 := (congrArg (fun t : ST => t.1 38) q89).trans e86
                          have e93 : s89.1 35 = nI (f26_35 + 1) := congrArg (fun t : ST => t.1 35) q89
                          have a94 := AP.eq tk_82 (show s89.2.2 84 = t82.2.2 84 from (congrArg (fun t : ST => t.2.2 84) q89).trans rfl)
                          have a95 : s89.2.2 84 i26_3 = nI n32 := (congrFun (show s89.2.2 84 = t82.2.2 84 from (congrArg (fun t : ST => t.2.2 84) q89).trans rfl) i26_3).trans tv_82
                          have a96 : s89.2.2 68 = σ.2.2 68 := (show s89.2.2 68 = t82.2.2 68 from (congrArg (fun t : ST => t.2.2 68) q89).trans rfl).trans en_82
                          have a97 : s89.2.2 66 = σ.2.2 66 := (show s89.2.2 66 = t82.2.2 66 from (congrArg (fun t : ST => t.2.2 66) q89).trans rfl).trans er_82
                          have a98 : f26_35 + jmp (s89.2.2 84) p2 (p2 + 1 - i26_3) i26_3 = F35 + jmp (s15.2.2 84) p2 (p2 + 1 - p1) p1 := PF.eq (Q := fun f9 => f26_35 + jmp f9 p2 (p2 + 1 - i26_3) i26_3 = F35 + jmp (s15.2.2 84) p2 (p2 + 1 - p1) p1) jm_82 (show s89.2.2 84 = t82.2.2 84 from (congrArg (fun t : ST => t.2.2 84) q89).trans rfl)
                          have a99 := AP.eq po_82 (show s89.2.2 77 = t82.2.2 77 from (congrArg (fun t : ST => t.2.2 77) q89).trans rfl)
                          refine lv_iload_n hx hb dX12_cut_264 rfl (lv_at hl 1 rfl) ?_
                          refine lv_aload_n hx hb dX12_cut_265 rfl (lv_at hl 2 rfl) ?_
                          refine x_getR E h (fr_mo_taken g) rfl hwX12 (by decide) (by decide +kernel) dX12_cut_266 ?_
                          refine lv_iload_n hx hb dX12_cut_269 rfl (lv_at hl 1 rfl) ?_
                          refine x_ldI E h (ia_mo_taken g) (i := nI i26_3) (vp_in_nI (by omega) (by decide)) (v := nI n32) ((congrArg (s89.2.2 84) (nI_clamp (n := i26_3) (by omega))).trans a95) dX12_cut_270 ?_
                          replace hR82 := bd_to hR82 ((congrArg (s89.2.2 84) (nI_clamp (n := i26_3) (by omega))).trans a95)
                          refine lv_iadd hx hb dX12_cut_271 ?_
                          refine x_topI (v2 := nI (i26_3 + n32)) (nI_add i26_3 n32) ?_
                          replace hR82 := bd_to hR82 (nI_add i26_3 n32)
                          refine lv_istore_n (lv' := [(3, .int (nI (i26_3 + n32))), (4, .int (nI i82_4)), (0, .ref (g.2.1 79)), (1, .int (nI p1)), (2, .int (nI p2))]) hx hb dX12_cut_272 rfl hl (by decide) rfl (fun ls hl => ?_)
                          refine lv_goto (tgt := 131) hx hb dX12_cut_273 (by decide) ?_
                          exact ih26 s89 (f26_35 + 1) (i26_3 + n32) hI89 hF89 e90 e91 e93 (by omega) (by omega) (by omega) a94 a96 a97 (AP.sub a99 (by omega)) (by have h9 := a98; rw [jmp_step (lo := i8_3) (TQ.pos a94 (by omega)) (by omega) (by omega) a95 (by omega)] at h9; omega) hR82 (by omega) _ _ _ h (lv_sub hl [0, 2, 3, 4] rfl)
                        · skip
                          replace hR82 := it_f hR82 c87
                          have b100 : i82_4 < (i26_3 + n32) := y_nle (a := (i26_3 + n32)) (b := i82_4) (by omega) (by omega) c87
                          refine lv_aload_n hx hb dX12_cut_237 rfl (lv_at hl 2 rfl) ?_
                          refine x_getR E h (fr_mo_pieceOf g) rfl hwX12 (by decide) (by decide +kernel) dX12_cut_238 ?_
                          refine lv_iload hx hb dX12_cut_241 (lv_at hl 0 rfl) ?_
                          refine lv_aload_n hx hb dX12_cut_243 rfl (lv_at hl 2 rfl) ?_
                          refine x_getI E h (fi_mo_pieces g) rfl hwX12 (by decide) (by decide +kernel) (v := nI f26_35) e85 dX12_cut_244 ?_
                          replace hR82 := bd_to hR82 e85
                          refine y_stI E h hI_82 hF_82 (ia_mo_pieceOf g) (i := nI i82_4) (vp_in_nI (by omega) (by decide)) (j := i82_4) (nI_clamp (by omega)) (ba_none rfl) rfl dX12_cut_247 (fun s101 H locs q101 hI101 hF101 h => ?_)
                          replace hR82 := st_to hR82 (nI_clamp (n := i82_4) (by omega)) q101
                          have e102 : s101.1 31 = nI F31 := (congrArg (fun t : ST => t.1 31) q101).trans e83
                          have e103 : s101.1 37 = x14 := (congrArg (fun t : ST => t.1 37) q101).trans e84
                          have e104 : s101.1 35 = nI f26_35 := (congrArg (fun t : ST => t.1 35) q101).trans e85
                          have e105 : s101.1 38 = x63 := (congrArg (fun t : ST => t.1 38) q101).trans e86
                          have a106 := AP.eq tk_82 (show s101.2.2 84 = t82.2.2 84 from (congrArg (fun t : ST => t.2.2 84) q101).trans rfl)
                          have a107 : s101.2.2 84 i26_3 = nI n32 := (congrFun (show s101.2.2 84 = t82.2.2 84 from (congrArg (fun t : ST => t.2.2 84) q101).trans rfl) i26_3).trans tv_82
                          have a108 : s101.2.2 68 = σ.2.2 68 := (show s101.2.2 68 = t82.2.2 68 from (congrArg (fun t : ST => t.2.2 68) q101).trans rfl).trans en_82
                          have a109 : s101.2.2 66 = σ.2.2 66 := (show s101.2.2 66 = t82.2.2 66 from (congrArg (fun t : ST => t.2.2 66) q101).trans rfl).trans er_82
                          have a110 : f26_35 + jmp (s101.2.2 84) p2 (p2 + 1 - i26_3) i26_3 = F35 + jmp (s15.2.2 84) p2 (p2 + 1 - p1) p1 := PF.eq (Q := fun f9 => f26_35 + jmp f9 p2 (p2 + 1 - i26_3) i26_3 = F35 + jmp (s15.2.2 84) p2 (p2 + 1 - p1) p1) jm_82 (show s101.2.2 84 = t82.2.2 84 from (congrArg (fun t : ST => t.2.2 84) q101).trans rfl)
                          have a112 := AP.push (Q := (PQ (f26_35 + 1))) po_82 (show s101.2.2 77 = upd (t82.2.2 77) i82_4 (nI f26_35) from congrArg (fun t : ST => t.2.2 77) q101) (Or.inr ⟨f26_35, by omega, rfl⟩)
                          replace hR82 := bd_to hR82 (nI_add i82_4 1)
                          refine lv_iinc (v := (nI (i82_4 + 1))) (lv' := [(4, .int (nI (i82_4 + 1))), (3, .int (nI i26_3)), (0, .ref (g.2.1 79)), (1, .int (nI p1)), (2, .int (nI p2))]) hx hb dX12_cut_248 hl (k := 0) rfl (nI_add i82_4 1) (by decide) rfl (fun ls hl => ?_)
                          refine lv_goto (tgt := 224) hx hb dX12_cut_251 (by decide) ?_
                          exact ih82 s101 (i82_4 + 1) hI101 hF101 e102 e103 e104 e105 (by omega) a106 a107 a108 a109 a110 a112 hR82 (by omega) _ _ _ h (lv_sub hl [0, 1, 2, 3, 4] rfl)
                    exact loop224_82 4096 t75 i26_3 hI_75 hF_75 e76 e77 e78 e79 (by omega) tk_75 tv_75 en_75 er_75 jm_75 (PQ.up po_75 (by omega)) hR75 (by omega) _ _ _ h (lv_sub hl [0, 1, 2, 3, 4] rfl)
                  · skip
                    replace hR75 := it_f hR75 c80
                    have b113 : i75_4 < 4 := y_nle (a := 4) (b := i75_4) (by omega) (by omega) c80
                    refine lv_aload_n hx hb dX12_cut_194 rfl (lv_at hl 2 rfl) ?_
                    refine x_getR E h (fr_mo_middle g) rfl hwX12 (by decide) (by decide +kernel) dX12_cut_195 ?_
                    refine lv_iconst (v := 4) hx hb dX12_cut_198 (by decide) ?_
                    refine lv_aload_n hx hb dX12_cut_199 rfl (lv_at hl 2 rfl) ?_
                    refine x_getI E h (fi_mo_pieces g) rfl hwX12 (by decide) (by decide +kernel) (v := nI f26_35) e78 dX12_cut_200 ?_
                    replace hR75 := bd_to hR75 e78
                    refine lv_imul hx hb dX12_cut_203 ?_
                    refine x_topI (v2 := nI (4 * f26_35)) (pk_mul 4 f26_35) ?_
                    replace hR75 := bd_to hR75 (pk_mul 4 f26_35)
                    refine lv_iload hx hb dX12_cut_204 (lv_at hl 0 rfl) ?_
                    refine lv_iadd hx hb dX12_cut_206 ?_
                    refine x_topI (v2 := nI ((4 * f26_35) + i75_4)) (nI_add (4 * f26_35) i75_4) ?_
                    replace hR75 := bd_to hR75 (nI_add (4 * f26_35) i75_4)
                    refine lv_aload_n hx hb dX12_cut_207 rfl (lv_at hl 2 rfl) ?_
                    refine x_getR E h (fr_mo_mid g) rfl hwX12 (by decide) (by decide +kernel) dX12_cut_208 ?_
                    refine lv_iload hx hb dX12_cut_211 (lv_at hl 0 rfl) ?_
                    refine x_ldI E h (ia_mo_mid g) (i := nI i75_4) (vp_in_nI (by omega) (by decide)) (v := t75.2.2 81 i75_4) (congrArg (t75.2.2 81) (nI_clamp (n := i75_4) (by omega))) dX12_cut_213 ?_
                    replace hR75 := bd_to hR75 (congrArg (t75.2.2 81) (nI_clamp (n := i75_4) (by omega)))
                    refine y_stI E h hI_75 hF_75 (ia_mo_middle g) (i := nI ((4 * f26_35) + i75_4)) (vp_in_nI (by omega) (by decide)) (j := ((4 * f26_35) + i75_4)) (nI_clamp (by omega)) (ba_none rfl) rfl dX12_cut_214 (fun s114 H locs q114 hI114 hF114 h => ?_)
                    replace hR75 := st_to hR75 (nI_clamp (n := (4 * f26_35) + i75_4) (by omega)) q114
                    have e115 : s114.1 31 = nI F31 := (congrArg (fun t : ST => t.1 31) q114).trans e76
                    have e116 : s114.1 37 = x14 := (congrArg (fun t : ST => t.1 37) q114).trans e77
                    have e117 : s114.1 35 = nI f26_35 := (congrArg (fun t : ST => t.1 35) q114).trans e78
                    have e118 : s114.1 38 = x63 := (congrArg (fun t : ST => t.1 38) q114).trans e79
                    have a119 := AP.eq po_75 (show s114.2.2 77 = t75.2.2 77 from (congrArg (fun t : ST => t.2.2 77) q114).trans rfl)
                    have a120 := AP.eq tk_75 (show s114.2.2 84 = t75.2.2 84 from (congrArg (fun t : ST => t.2.2 84) q114).trans rfl)
                    have a121 : s114.2.2 84 i26_3 = nI n32 := (congrFun (show s114.2.2 84 = t75.2.2 84 from (congrArg (fun t : ST => t.2.2 84) q114).trans rfl) i26_3).trans tv_75
                    have a122 : s114.2.2 68 = σ.2.2 68 := (show s114.2.2 68 = t75.2.2 68 from (congrArg (fun t : ST => t.2.2 68) q114).trans rfl).trans en_75
                    have a123 : s114.2.2 66 = σ.2.2 66 := (show s114.2.2 66 = t75.2.2 66 from (congrArg (fun t : ST => t.2.2 66) q114).trans rfl).trans er_75
                    have a124 : f26_35 + jmp (s114.2.2 84) p2 (p2 + 1 - i26_3) i26_3 = F35 + jmp (s15.2.2 84) p2 (p2 + 1 - p1) p1 := PF.eq (Q := fun f9 => f26_35 + jmp f9 p2 (p2 + 1 - i26_3) i26_3 = F35 + jmp (s15.2.2 84) p2 (p2 + 1 - p1) p1) jm_75 (show s114.2.2 84 = t75.2.2 84 from (congrArg (fun t : ST => t.2.2 84) q114).trans rfl)
                    replace hR75 := bd_to hR75 (nI_add i75_4 1)
                    refine lv_iinc (v := (nI (i75_4 + 1))) (lv' := [(4, .int (nI (i75_4 + 1))), (3, .int (nI i26_3)), (0, .ref (g.2.1 79)), (1, .int (nI p1)), (2, .int (nI p2))]) hx hb dX12_cut_215 hl (k := 0) rfl (nI_add i75_4 1) (by decide) rfl (fun ls hl => ?_)
                    refine lv_goto (tgt := 188) hx hb dX12_cut_218 (by decide) ?_
                    exact ih75 s114 (i75_4 + 1) hI114 hF114 e115 e116 e117 e118 (by omega) a119 a120 a121 a122 a123 a124 hR75 (by omega) _ _ _ h (lv_sub hl [0, 1, 2, 3, 4] rfl)
              exact loop188_75 4096 s64 0 hI64 hF64 e65 e66 e67 e68 (Nat.zero_le _) a72 a69 a74 a70 a71 a73 hR26 (by omega) _ _ _ h (lv_sub hl [0, 1, 2, 3, 4] rfl)
        exact loop131_26 4096 s15 F35 p1 hI15 hF15 e16 e18 e17 (by omega) (by omega) (by omega) a23 a20 a21 a19 rfl hR8 (by omega) _ _ _ h (lv_sub hl [0, 1, 2, 3] rfl)
      · skip
        replace hR8 := it_f hR8 c11
        have b125 : p1 + 1 ≤ i8_3 := y_nltL (a := i8_3) (b := p1) (by omega) (by omega) c11
        obtain ⟨n126, rfl⟩ : ∃ z, i8_3 = z + 1 := ⟨i8_3 - 1, by omega⟩
        rw [nI_pred] at hl
        try rw [nI_pred] at hR8
        refine lv_aload_n hx hb dX12_cut_16 rfl (lv_at hl 1 rfl) ?_
        refine x_getR E h (fr_mo_taken g) rfl hwX12 (by decide) (by decide +kernel) dX12_cut_17 ?_
        refine lv_iload_n hx hb dX12_cut_20 rfl (lv_at hl 0 rfl) ?_
        refine lv_iconst (v := 0) hx hb dX12_cut_21 (by decide) ?_
        refine y_stI E h hI_8 hF_8 (ia_mo_taken g) (i := nI n126) (vp_in_nI (by omega) (by decide)) (j := n126) (nI_clamp (by omega)) (ba_none rfl) rfl dX12_cut_22 (fun s127 H locs q127 hI127 hF127 h => ?_)
        replace hR8 := st_to hR8 (nI_clamp (n := n126) (by omega)) q127
        have e128 : s127.1 31 = nI F31 := (congrArg (fun t : ST => t.1 31) q127).trans e9
        have e129 : s127.1 35 = nI F35 := (congrArg (fun t : ST => t.1 35) q127).trans e10
        have a130 := AP.eq po_8 (show s127.2.2 77 = t8.2.2 77 from (congrArg (fun t : ST => t.2.2 77) q127).trans rfl)
        have a131 : s127.2.2 68 = σ.2.2 68 := (show s127.2.2 68 = t8.2.2 68 from (congrArg (fun t : ST => t.2.2 68) q127).trans rfl).trans en_8
        have a132 : s127.2.2 66 = σ.2.2 66 := (show s127.2.2 66 = t8.2.2 66 from (congrArg (fun t : ST => t.2.2 66) q127).trans rfl).trans er_8
        have a133 : (s127.2.2 83) (p2 + 1) = 0 := PF.eq (Q := fun f9 => f9 (p2 + 1) = 0) l0_8 (show s127.2.2 83 = t8.2.2 83 from (congrArg (fun t : ST => t.2.2 83) q127).trans rfl)
        have a135 := AP.keep tk_8 (show s127.2.2 84 = upd (t8.2.2 84) n126 0 from congrArg (fun t : ST => t.2.2 84) q127) (by omega)
        have a136 : s127.2.2 84 n126 = 0 := (congrFun (show s127.2.2 84 = upd (t8.2.2 84) n126 0 from congrArg (fun t : ST => t.2.2 84) q127) n126).trans pk_us
        have a137 : LTA (fun r9 n9 => spA (σ.2.2 68) F31 (nI r9) (nI n9)) (σ.2.2 66 0) p2 (n126 + 1) (s127.2.2 83) (s127.2.2 84) := by rw [(show s127.2.2 83 = t8.2.2 83 from (congrArg (fun t : ST => t.2.2 83) q127).trans rfl)]; exact LTA.tk lt_8 (show s127.2.2 84 = upd (t8.2.2 84) n126 0 from congrArg (fun t : ST => t.2.2 84) q127)
        refine lv_iconst (v := 1) hx hb dX12_cut_23 (by decide) ?_
        refine lv_istore (lv' := [(4, .int 1), (3, .int (nI n126)), (0, .ref (g.2.1 79)), (1, .int (nI p1)), (2, .int (nI p2))]) hx hb dX12_cut_24 hl (by decide) rfl (fun ls hl => ?_)
        have loop26_138 : ∀ (fu : Nat) (t138 : ST) (i138_4 : Nat), INV t138 → Fr [(35, 35), (37, 38)] [(75, 84)] σ t138 → t138.1 31 = nI F31 → t138.1 35 = nI F35 → i138_4 ≤ p2 + 2 → n126 + i138_4 ≤ p2 + 2 → 1 ≤ i138_4 → AP (t138.2.2 77) 0 p1 (PQ F35) → t138.2.2 68 = σ.2.2 68 → t138.2.2 66 = σ.2.2 66 → (t138.2.2 83) (p2 + 1) = 0 → AP (t138.2.2 84) (n126 + 1) (p2 + 1) (TQ p2) → TC p2 n126 i138_4 (t138.2.2 84 n126) → LTA (fun r9 n9 => spA (σ.2.2 68) F31 (nI r9) (nI n9)) (σ.2.2 66 0) p2 (n126 + 1) (t138.2.2 83) (t138.2.2 84) → FDC (fun r9 n9 => spA (σ.2.2 68) F31 (nI r9) (nI n9)) (σ.2.2 66 0) n126 (i138_4 - 1) (t138.2.2 83) (t138.2.2 84 n126) → fX12_cut_0l26 (fX12_cut_0l11 fu8) fu (nI p1) (nI p2) (nI n126) (nI i138_4) t138 = R → p2 + 2 - i138_4 < fu → ∀ (H : Heap) (locs : List Loc) (ls : Array Slot), HW g t138 s H locs → lv_has ls 6 [(4, .int (nI i138_4)), (3, .int (nI n126)), (0, .ref (g.2.1 79)), (1, .int (nI p1)), (2, .int (nI p2))] → W p l e { frames := 2, cells := 0, slots := 0, locals := 48 } s m args below meth c H locs 0 0 (MQ below PQz args s 0 0 (Aw g)) (F0 m 26 ls []) := by
          intro fu138
          induction fu138 with
          | zero => intro t138 i138_4 hI_138 hF_138 e139 e140 bi138_4 pp138_0 pp138_1 po_138 en_138 er_138 l0_138 tk_138 tc_138 lt_138 fd_138 hR138 hm; exact absurd hm (Nat.not_lt_zero _)
          | succ fu138 ih =>
            have ih138 := ih
            clear ih
            intro t138 i138_4 hI_138 hF_138 e139 e140 bi138_4 pp138_0 pp138_1 po_138 en_138 er_138 l0_138 tk_138 tc_138 lt_138 fd_138 hR138 hm138 H locs ls h hl
            replace hR138 : fX12_cut_0b26 (fX12_cut_0l11 fu8) (fX12_cut_0l26 (fX12_cut_0l11 fu8) fu138) (nI p1) (nI p2) (nI n126) (nI i138_4) t138 = R := hR138
            refine lv_iload_n hx hb dX12_cut_26 rfl (lv_at hl 1 rfl) ?_
            refine lv_iload hx hb dX12_cut_27 (lv_at hl 0 rfl) ?_
            refine lv_iadd hx hb dX12_cut_29 ?_
            refine x_topI (v2 := nI (n126 + i138_4)) (nI_add n126 i138_4) ?_
            replace hR138 := bd_to hR138 (nI_add n126 i138_4)
            refine lv_iload_n hx hb dX12_cut_30 rfl (lv_at hl 4 rfl) ?_
            refine lv_iconst (v := 1) hx hb dX12_cut_31 (by decide) ?_
            refine lv_iadd hx hb dX12_cut_32 ?_
            refine x_topI (v2 := nI (p2 + 1)) (nI_add p2 1) ?_
            replace hR138 := bd_to hR138 (nI_add p2 1)
            refine lv_icmp_gt (tgt := 108) hx hb dX12_cut_33 (by decide) (fun c141 => ?_) (fun c141 => ?_)
            · skip
              replace hR138 := it_t hR138 c141
              have b142 : (p2 + 1) < (n126 + i138_4) := y_lt (a := (p2 + 1)) (b := (n126 + i138_4)) (by omega) (by omega) c141
              replace hR138 := bd_to hR138 (y_m1 n126)
              refine lv_iinc (v := (nI n126 - 1)) (lv' := [(3, .int (nI n126 - 1)), (4, .int (nI i138_4)), (0, .ref (g.2.1 79)), (1, .int (nI p1)), (2, .int (nI p2))]) hx hb dX12_cut_108 hl (k := 1) rfl (y_m1 n126) (by decide) rfl (fun ls hl => ?_)
              refine lv_goto (tgt := 11) hx hb dX12_cut_111 (by decide) ?_
              exact ih8 t138 n126 hI_138 hF_138 e139 e140 (by omega) po_138 en_138 er_138 l0_138 (AP.low tk_138 (TC.done tc_138 (by omega))) (LTA.low lt_138 fd_138 (by omega) (TC.done tc_138 (by omega)) (by omega)) hR138 (by omega) _ _ _ h (lv_sub hl [0, 2, 3, 4] rfl)
            · skip
              replace hR138 := it_f hR138 c141
              have b143 : (n126 + i138_4) ≤ (p2 + 1) := y_nlt (a := (p2 + 1)) (b := (n126 + i138_4)) (by omega) (by omega) c141
              refine lv_aload_n hx hb dX12_cut_36 rfl (lv_at hl 2 rfl) ?_
              refine lv_iload_n hx hb dX12_cut_37 rfl (lv_at hl 1 rfl) ?_
              refine lv_iload hx hb dX12_cut_38 (lv_at hl 0 rfl) ?_
              refine x_vv E h (na := 2) (As := [.int (nI n126), .int (nI i138_4)]) (aX12_askRows_0 l g t138 hI_138 (nI n126) (nI i138_4) F31 e139 (by omega)) (oc_mo g) rfl gX12_cut_X12_askRows rfl ⟨rfl, rfl⟩ rfl (by decide +kernel) ⟨Nat.le_of_ble_eq_true rfl, Nat.le_of_ble_eq_true rfl⟩ hl.1 rfl (Nat.le_of_ble_eq_true rfl) dX12_cut_40 ⟨Nat.le_of_ble_eq_true rfl, Nat.le_of_ble_eq_true rfl⟩ (fun s144 H locs q144 h => ?_)
              obtain ⟨x144, d144, hI144, f144⟩ := q144
              replace hR138 := bd_to hR138 x144
              have hF144 := hF_138.call f144 (I := [(35, 35), (37, 38)]) (J := [(75, 84)]) rfl rfl
              have e145 : s144.1 31 = nI F31 := ((f144.1 31 rfl)).trans e139
              have e146 : s144.1 35 = nI F35 := ((f144.1 35 rfl)).trans e140
              have a147 := AP.eq po_138 (f144.2 77 rfl)
              have a148 : s144.2.2 68 = σ.2.2 68 := (f144.2 68 rfl).trans en_138
              have a149 : s144.2.2 66 = σ.2.2 66 := (f144.2 66 rfl).trans er_138
              have a150 : (s144.2.2 83) (p2 + 1) = 0 := PF.eq (Q := fun f9 => f9 (p2 + 1) = 0) l0_138 (f144.2 83 rfl)
              have a151 := AP.eq tk_138 (f144.2 84 rfl)
              have a152 : TC p2 n126 i138_4 (s144.2.2 84 n126) := PR.eq (Q := TC p2 n126 i138_4) tc_138 (congrFun ((f144.2 84 rfl)) n126)
              have a153 : LTA (fun r9 n9 => spA (σ.2.2 68) F31 (nI r9) (nI n9)) (σ.2.2 66 0) p2 (n126 + 1) (s144.2.2 83) (s144.2.2 84) := PF2.eq (Q := fun f9 g9 => LTA (fun r9 n9 => spA (σ.2.2 68) F31 (nI r9) (nI n9)) (σ.2.2 66 0) p2 (n126 + 1) f9 g9) lt_138 (f144.2 83 rfl) (f144.2 84 rfl)
              have a154 : FDC (fun r9 n9 => spA (σ.2.2 68) F31 (nI r9) (nI n9)) (σ.2.2 66 0) n126 (i138_4 - 1) (s144.2.2 83) ((s144.2.2 84) n126) := PF2.eq (Q := fun f9 g9 => FDC (fun r9 n9 => spA (σ.2.2 68) F31 (nI r9) (nI n9)) (σ.2.2 66 0) n126 (i138_4 - 1) f9 (g9 n126)) fd_138 (f144.2 83 rfl) (f144.2 84 rfl)
              have u144_0_0 := d144
              refine lv_aload_n hx hb dX12_cut_43 rfl (lv_at hl 2 rfl) ?_
              obtain ⟨x155, e155⟩ : ∃ x, s144.1 38 = x := ⟨_, rfl⟩
              refine x_getI E h (fi_mo_apart g) rfl hwX12 (by decide) (by decide +kernel) (v := x155) e155 dX12_cut_44 ?_
              replace hR138 := bd_to hR138 e155
              refine lv_aload_n hx hb dX12_cut_47 rfl (lv_at hl 2 rfl) ?_
              refine x_getR E h (fr_mo_rule g) rfl hwX12 (by decide) (by decide +kernel) dX12_cut_48 ?_
              refine lv_iconst (v := 0) hx hb dX12_cut_51 (by decide) ?_
              refine x_ldI E h (ia_mo_rule g) (i := nI 0) (vp_in_nI (by omega) (by decide)) (v := s144.2.2 66 0) (congrArg (s144.2.2 66) (nI_clamp (n := 0) (by omega))) dX12_cut_52 ?_
              replace hR138 := bd_to hR138 (congrArg (s144.2.2 66) (nI_clamp (n := 0) (by omega)))
              refine lv_iadd hx hb dX12_cut_53 ?_
              refine lv_topi (fun x156 e156 => ?_)
              replace hR138 := bd_to hR138 e156.symm
              refine lv_aload_n hx hb dX12_cut_54 rfl (lv_at hl 2 rfl) ?_
              refine x_getR E h (fr_mo_least g) rfl hwX12 (by decide) (by decide +kernel) dX12_cut_55 ?_
              refine lv_iload_n hx hb dX12_cut_58 rfl (lv_at hl 1 rfl) ?_
              refine lv_iload hx hb dX12_cut_59 (lv_at hl 0 rfl) ?_
              refine lv_iadd hx hb dX12_cut_61 ?_
              refine x_topI (v2 := nI (n126 + i138_4)) (nI_add n126 i138_4) ?_
              replace hR138 := bd_to hR138 (nI_add n126 i138_4)
              refine x_ldI E h (ia_mo_least g) (i := nI (n126 + i138_4)) (vp_in_nI (by omega) (by decide)) (v := s144.2.2 83 (n126 + i138_4)) (congrArg (s144.2.2 83) (nI_clamp (n := n126 + i138_4) (by omega))) dX12_cut_62 ?_
              replace hR138 := bd_to hR138 (congrArg (s144.2.2 83) (nI_clamp (n := n126 + i138_4) (by omega)))
              refine lv_iadd hx hb dX12_cut_63 ?_
              refine lv_topi (fun x157 e157 => ?_)
              replace hR138 := bd_to hR138 e157.symm
              refine lv_istore (lv' := [(5, .int x157), (4, .int (nI i138_4)), (3, .int (nI n126)), (0, .ref (g.2.1 79)), (1, .int (nI p1)), (2, .int (nI p2))]) hx hb dX12_cut_64 hl (by decide) rfl (fun ls hl => ?_)
              refine lv_aload_n hx hb dX12_cut_66 rfl (lv_at hl 3 rfl) ?_
              refine x_getR E h (fr_mo_taken g) rfl hwX12 (by decide) (by decide +kernel) dX12_cut_67 ?_
              refine lv_iload_n hx hb dX12_cut_70 rfl (lv_at hl 2 rfl) ?_
              refine x_ldI E h (ia_mo_taken g) (i := nI n126) (vp_in_nI (by omega) (by decide)) (v := s144.2.2 84 n126) (congrArg (s144.2.2 84) (nI_clamp (n := n126) (by omega))) dX12_cut_71 ?_
              replace hR138 := bd_to hR138 (congrArg (s144.2.2 84) (nI_clamp (n := n126) (by omega)))
              refine lv_if_eq (tgt := 86) hx hb dX12_cut_72 (by decide) (fun c158 => ?_) (fun c158 => ?_)
              · skip
                replace hR138 := it_t hR138 c158
                refine lv_aload_n hx hb dX12_cut_86 rfl (lv_at hl 3 rfl) ?_
                refine x_getR E h (fr_mo_least g) rfl hwX12 (by decide) (by decide +kernel) dX12_cut_87 ?_
                refine lv_iload_n hx hb dX12_cut_90 rfl (lv_at hl 2 rfl) ?_
                refine lv_iload hx hb dX12_cut_91 (lv_at hl 0 rfl) ?_
                refine y_stI E h hI144 hF144 (ia_mo_least g) (i := nI n126) (vp_in_nI (by omega) (by decide)) (j := n126) (nI_clamp (by omega)) (ba_none rfl) rfl dX12_cut_93 (fun s160 H locs q160 hI160 hF160 h => ?_)
                replace hR138 := st_to hR138 (nI_clamp (n := n126) (by omega)) q160
                have e161 : s160.1 31 = nI F31 := (congrArg (fun t : ST => t.1 31) q160).trans e145
                have e162 : s160.1 35 = nI F35 := (congrArg (fun t : ST => t.1 35) q160).trans e146
                have e163 : s160.1 38 = x155 := (congrArg (fun t : ST => t.1 38) q160).trans e155
                have a164 := AP.eq a147 (show s160.2.2 77 = s144.2.2 77 from (congrArg (fun t : ST => t.2.2 77) q160).trans rfl)
                have a165 : s160.2.2 68 = σ.2.2 68 := (show s160.2.2 68 = s144.2.2 68 from (congrArg (fun t : ST => t.2.2 68) q160).trans rfl).trans a148
                have a166 : s160.2.2 66 = σ.2.2 66 := (show s160.2.2 66 = s144.2.2 66 from (congrArg (fun t : ST => t.2.2 66) q160).trans rfl).trans a149
                have a167 : (s160.2.2 83) (p2 + 1) = 0 := (congrFun (show s160.2.2 83 = upd (s144.2.2 83) n126 x157 from congrArg (fun t : ST => t.2.2 83) q160) (p2 + 1)).trans ((pk_un (by omega)).trans a150)
                have a168 := AP.eq a151 (show s160.2.2 84 = s144.2.2 84 from (congrArg (fun t : ST => t.2.2 84) q160).trans rfl)
                have a169 : TC p2 n126 i138_4 (s160.2.2 84 n126) := PR.eq (Q := TC p2 n126 i138_4) a152 (congrFun (show s160.2.2 84 = s144.2.2 84 from (congrArg (fun t : ST => t.2.2 84) q160).trans rfl) n126)
                have a170 : LTA (fun r9 n9 => spA (σ.2.2 68) F31 (nI r9) (nI n9)) (σ.2.2 66 0) p2 (n126 + 1) (s160.2.2 83) (s160.2.2 84) := by rw [(show s160.2.2 84 = s144.2.2 84 from (congrArg (fun t : ST => t.2.2 84) q160).trans rfl)]; exact LTA.le a153 (show s160.2.2 83 = upd (s144.2.2 83) n126 x157 from congrArg (fun t : ST => t.2.2 83) q160)
                have a171 : FDC (fun r9 n9 => spA (σ.2.2 68) F31 (nI r9) (nI n9)) (σ.2.2 66 0) n126 i138_4 (s160.2.2 83) (nI i138_4) := FDC.take a154 (by omega) (by omega) (Or.inl c158) (by rw [e157, e156, ← e155, u144_0_0, en_138, a149]) (show s160.2.2 83 = upd (s144.2.2 83) n126 x157 from congrArg (fun t : ST => t.2.2 83) q160)
                refine lv_aload_n hx hb dX12_cut_94 rfl (lv_at hl 3 rfl) ?_
                refine x_getR E h (fr_mo_taken g) rfl hwX12 (by decide) (by decide +kernel) dX12_cut_95 ?_
                refine lv_iload_n hx hb dX12_cut_98 rfl (lv_at hl 2 rfl) ?_
                refine lv_iload hx hb dX12_cut_99 (lv_at hl 1 rfl) ?_
                refine y_stI E h hI160 hF160 (ia_mo_taken g) (i := nI n126) (vp_in_nI (by omega) (by decide)) (j := n126) (nI_clamp (by omega)) (ba_none rfl) rfl dX12_cut_101 (fun s172 H locs q172 hI172 hF172 h => ?_)
                replace hR138 := st_to hR138 (nI_clamp (n := n126) (by omega)) q172
                have e173 : s172.1 31 = nI F31 := (congrArg (fun t : ST => t.1 31) q172).trans e161
                have e174 : s172.1 35 = nI F35 := (congrArg (fun t : ST => t.1 35) q172).trans e162
                have e175 : s172.1 38 = x155 := (congrArg (fun t : ST => t.1 38) q172).trans e163
                have a176 := AP.eq a164 (show s172.2.2 77 = s160.2.2 77 from (congrArg (fun t : ST => t.2.2 77) q172).trans rfl)
                have a177 : s172.2.2 68 = σ.2.2 68 := (show s172.2.2 68 = s160.2.2 68 from (congrArg (fun t : ST => t.2.2 68) q172).trans rfl).trans a165
                have a178 : s172.2.2 66 = σ.2.2 66 := (show s172.2.2 66 = s160.2.2 66 from (congrArg (fun t : ST => t.2.2 66) q172).trans rfl).trans a166
                have a179 : (s172.2.2 83) (p2 + 1) = 0 := PF.eq (Q := fun f9 => f9 (p2 + 1) = 0) a167 (show s172.2.2 83 = s160.2.2 83 from (congrArg (fun t : ST => t.2.2 83) q172).trans rfl)
                have a181 := AP.keep a168 (show s172.2.2 84 = upd (s160.2.2 84) n126 (nI i138_4) from congrArg (fun t : ST => t.2.2 84) q172) (by omega)
                have a182 : s172.2.2 84 n126 = nI i138_4 := (congrFun (show s172.2.2 84 = upd (s160.2.2 84) n126 (nI i138_4) from congrArg (fun t : ST => t.2.2 84) q172) n126).trans pk_us
                have a183 : LTA (fun r9 n9 => spA (σ.2.2 68) F31 (nI r9) (nI n9)) (σ.2.2 66 0) p2 (n126 + 1) (s172.2.2 83) (s172.2.2 84) := by rw [(show s172.2.2 83 = s160.2.2 83 from (congrArg (fun t : ST => t.2.2 83) q172).trans rfl)]; exact LTA.tk a170 (show s172.2.2 84 = upd (s160.2.2 84) n126 (nI i138_4) from congrArg (fun t : ST => t.2.2 84) q172)
                have a184 : FDC (fun r9 n9 => spA (σ.2.2 68) F31 (nI r9) (nI n9)) (σ.2.2 66 0) n126 i138_4 (s172.2.2 83) ((s172.2.2 84) n126) := by rw [(show s172.2.2 83 = s160.2.2 83 from (congrArg (fun t : ST => t.2.2 83) q172).trans rfl), (congrFun (show s172.2.2 84 = upd (s160.2.2 84) n126 (nI i138_4) from congrArg (fun t : ST => t.2.2 84) q172) n126).trans pk_us]; exact a171
                replace hR138 := bd_to hR138 (nI_add i138_4 1)
                refine lv_iinc (v := (nI (i138_4 + 1))) (lv' := [(4, .int (nI (i138_4 + 1))), (5, .int x157), (3, .int (nI n126)), (0, .ref (g.2.1 79)), (1, .int (nI p1)), (2, .int (nI p2))]) hx hb dX12_cut_102 hl (k := 1) rfl (nI_add i138_4 1) (by decide) rfl (fun ls hl => ?_)
                refine lv_goto (tgt := 26) hx hb dX12_cut_105 (by decide) ?_
                exact ih138 s172 (i138_4 + 1) hI172 hF172 e173 e174 (by omega) (by omega) (by omega) a176 a177 a178 a179 a181 (Or.inr ⟨_, by omega, by omega, a182⟩) a183 a184 hR138 (by omega) _ _ _ h (lv_sub hl [0, 2, 3, 4, 5] rfl)
              · skip
                replace hR138 := it_f hR138 c158
                refine lv_iload hx hb dX12_cut_75 (lv_at hl 0 rfl) ?_
                refine lv_aload_n hx hb dX12_cut_77 rfl (lv_at hl 3 rfl) ?_
                refine x_getR E h (fr_mo_least g) rfl hwX12 (by decide) (by decide +kernel) dX12_cut_78 ?_
                refine lv_iload_n hx hb dX12_cut_81 rfl (lv_at hl 2 rfl) ?_
                refine x_ldI E h (ia_mo_least g) (i := nI n126) (vp_in_nI (by omega) (by decide)) (v := s144.2.2 83 n126) (congrArg (s144.2.2 83) (nI_clamp (n := n126) (by omega))) dX12_cut_82 ?_
                replace hR138 := bd_to hR138 (congrArg (s144.2.2 83) (nI_clamp (n := n126) (by omega)))
                refine lv_icmp_gt (tgt := 102) hx hb dX12_cut_83 (by decide) (fun c186 => ?_) (fun c186 => ?_)
                · skip
                  replace hR138 := it_t hR138 c186
                  replace hR138 := bd_to hR138 (nI_add i138_4 1)
                  refine lv_iinc (v := (nI (i138_4 + 1))) (lv' := [(4, .int (nI (i138_4 + 1))), (5, .int x157), (3, .int (nI n126)), (0, .ref (g.2.1 79)), (1, .int (nI p1)), (2, .int (nI p2))]) hx hb dX12_cut_102 hl (k := 1) rfl (nI_add i138_4 1) (by decide) rfl (fun ls hl => ?_)
                  refine lv_goto (tgt := 26) hx hb dX12_cut_105 (by decide) ?_
                  exact ih138 s144 (i138_4 + 1) hI144 hF144 e145 e146 (by omega) (by omega) (by omega) a147 a148 a149 a150 a151 (TC.ne a152 c158) a153 (FDC.skip (n := i138_4) a154 (by omega) c158 (y_lt_nle c186) (by rw [e157, e156, ← e155, u144_0_0, en_138, a149])) hR138 (by omega) _ _ _ h (lv_sub hl [0, 2, 3, 4, 5] rfl)
                · skip
                  replace hR138 := it_f hR138 c186
                  refine lv_aload_n hx hb dX12_cut_86 rfl (lv_at hl 3 rfl) ?_
                  refine x_getR E h (fr_mo_least g) rfl hwX12 (by decide) (by decide +kernel) dX12_cut_87 ?_
                  refine lv_iload_n hx hb dX12_cut_90 rfl (lv_at hl 2 rfl) ?_
                  refine lv_iload hx hb dX12_cut_91 (lv_at hl 0 rfl) ?_
                  refine y_stI E h hI144 hF144 (ia_mo_least g) (i := nI n126) (vp_in_nI (by omega) (by decide)) (j := n126) (nI_clamp (by omega)) (ba_none rfl) rfl dX12_cut_93 (fun s189 H locs q189 hI189 hF189 h => ?_)
                  replace hR138 := st_to hR138 (nI_clamp (n := n126) (by omega)) q189
                  have e190 : s189.1 31 = nI F31 := (congrArg (fun t : ST => t.1 31) q189).trans e145
                  have e191 : s189.1 35 = nI F35 := (congrArg (fun t : ST => t.1 35) q189).trans e146
                  have e192 : s189.1 38 = x155 := (congrArg (fun t : ST => t.1 38) q189).trans e155
                  have a193 := AP.eq a147 (show s189.2.2 77 = s144.2.2 77 from (congrArg (fun t : ST => t.2.2 77) q189).trans rfl)
                  have a194 : s189.2.2 68 = σ.2.2 68 := (show s189.2.2 68 = s144.2.2 68 from (congrArg (fun t : ST => t.2.2 68) q189).trans rfl).trans a148
                  have a195 : s189.2.2 66 = σ.2.2 66 := (show s189.2.2 66 = s144.2.2 66 from (congrArg (fun t : ST => t.2.2 66) q189).trans rfl).trans a149
                  have a196 : (s189.2.2 83) (p2 + 1) = 0 := (congrFun (show s189.2.2 83 = upd (s144.2.2 83) n126 x157 from congrArg (fun t : ST => t.2.2 83) q189) (p2 + 1)).trans ((pk_un (by omega)).trans a150)
                  have a197 := AP.eq a151 (show s189.2.2 84 = s144.2.2 84 from (congrArg (fun t : ST => t.2.2 84) q189).trans rfl)
                  have a198 : TC p2 n126 i138_4 (s189.2.2 84 n126) := PR.eq (Q := TC p2 n126 i138_4) a152 (congrFun (show s189.2.2 84 = s144.2.2 84 from (congrArg (fun t : ST => t.2.2 84) q189).trans rfl) n126)
                  have a199 : LTA (fun r9 n9 => spA (σ.2.2 68) F31 (nI r9) (nI n9)) (σ.2.2 66 0) p2 (n126 + 1) (s189.2.2 83) (s189.2.2 84) := by rw [(show s189.2.2 84 = s144.2.2 84 from (congrArg (fun t : ST => t.2.2 84) q189).trans rfl)]; exact LTA.le a153 (show s189.2.2 83 = upd (s144.2.2 83) n126 x157 from congrArg (fun t : ST => t.2.2 83) q189)
                  have a200 : FDC (fun r9 n9 => spA (σ.2.2 68) F31 (nI r9) (nI n9)) (σ.2.2 66 0) n126 i138_4 (s189.2.2 83) (nI i138_4) := FDC.take a154 (by omega) (by omega) (Or.inr (y_nlt_le c186)) (by rw [e157, e156, ← e155, u144_0_0, en_138, a149]) (show s189.2.2 83 = upd (s144.2.2 83) n126 x157 from congrArg (fun t : ST => t.2.2 83) q189)
                  refine lv_aload_n hx hb dX12_cut_94 rfl (lv_at hl 3 rfl) ?_
                  refine x_getR E h (fr_mo_taken g) rfl hwX12 (by decide) (by decide +kernel) dX12_cut_95 ?_
                  refine lv_iload_n hx hb dX12_cut_98 rfl (lv_at hl 2 rfl) ?_
                  refine lv_iload hx hb dX12_cut_99 (lv_at hl 1 rfl) ?_
                  refine y_stI E h hI189 hF189 (ia_mo_taken g) (i := nI n126) (vp_in_nI (by omega) (by decide)) (j := n126) (nI_clamp (by omega)) (ba_none rfl) rfl dX12_cut_101 (fun s201 H locs q201 hI201 hF201 h => ?_)
                  replace hR138 := st_to hR138 (nI_clamp (n := n126) (by omega)) q201
                  have e202 : s201.1 31 = nI F31 := (congrArg (fun t : ST => t.1 31) q201).trans e190
                  have e203 : s201.1 35 = nI F35 := (congrArg (fun t : ST => t.1 35) q201).trans e191
                  have e204 : s201.1 38 = x155 := (congrArg (fun t : ST => t.1 38) q201).trans e192
                  have a205 := AP.eq a193 (show s201.2.2 77 = s189.2.2 77 from (congrArg (fun t : ST => t.2.2 77) q201).trans rfl)
                  have a206 : s201.2.2 68 = σ.2.2 68 := (show s201.2.2 68 = s189.2.2 68 from (congrArg (fun t : ST => t.2.2 68) q201).trans rfl).trans a194
                  have a207 : s201.2.2 66 = σ.2.2 66 := (show s201.2.2 66 = s189.2.2 66 from (congrArg (fun t : ST => t.2.2 66) q201).trans rfl).trans a195
                  have a208 : (s201.2.2 83) (p2 + 1) = 0 := PF.eq (Q := fun f9 => f9 (p2 + 1) = 0) a196 (show s201.2.2 83 = s189.2.2 83 from (congrArg (fun t : ST => t.2.2 83) q201).trans rfl)
                  have a210 := AP.keep a197 (show s201.2.2 84 = upd (s189.2.2 84) n126 (nI i138_4) from congrArg (fun t : ST => t.2.2 84) q201) (by omega)
                  have a211 : s201.2.2 84 n126 = nI i138_4 := (congrFun (show s201.2.2 84 = upd (s189.2.2 84) n126 (nI i138_4) from congrArg (fun t : ST => t.2.2 84) q201) n126).trans pk_us
                  have a212 : LTA (fun r9 n9 => spA (σ.2.2 68) F31 (nI r9) (nI n9)) (σ.2.2 66 0) p2 (n126 + 1) (s201.2.2 83) (s201.2.2 84) := by rw [(show s201.2.2 83 = s189.2.2 83 from (congrArg (fun t : ST => t.2.2 83) q201).trans rfl)]; exact LTA.tk a199 (show s201.2.2 84 = upd (s189.2.2 84) n126 (nI i138_4) from congrArg (fun t : ST => t.2.2 84) q201)
                  have a213 : FDC (fun r9 n9 => spA (σ.2.2 68) F31 (nI r9) (nI n9)) (σ.2.2 66 0) n126 i138_4 (s201.2.2 83) ((s201.2.2 84) n126) := by rw [(show s201.2.2 83 = s189.2.2 83 from (congrArg (fun t : ST => t.2.2 83) q201).trans rfl), (congrFun (show s201.2.2 84 = upd (s189.2.2 84) n126 (nI i138_4) from congrArg (fun t : ST => t.2.2 84) q201) n126).trans pk_us]; exact a200
                  replace hR138 := bd_to hR138 (nI_add i138_4 1)
                  refine lv_iinc (v := (nI (i138_4 + 1))) (lv' := [(4, .int (nI (i138_4 + 1))), (5, .int x157), (3, .int (nI n126)), (0, .ref (g.2.1 79)), (1, .int (nI p1)), (2, .int (nI p2))]) hx hb dX12_cut_102 hl (k := 1) rfl (nI_add i138_4 1) (by decide) rfl (fun ls hl => ?_)
                  refine lv_goto (tgt := 26) hx hb dX12_cut_105 (by decide) ?_
                  exact ih138 s201 (i138_4 + 1) hI201 hF201 e202 e203 (by omega) (by omega) (by omega) a205 a206 a207 a208 a210 (Or.inr ⟨_, by omega, by omega, a211⟩) a212 a213 hR138 (by omega) _ _ _ h (lv_sub hl [0, 2, 3, 4, 5] rfl)
        exact loop26_138 4096 s127 1 hI127 hF127 e128 e129 (by omega) (by omega) (by omega) a130 a131 a132 a133 a135 (Or.inl ⟨rfl, a136⟩) a137 (FDC.zero a136) hR8 (by omega) _ _ _ h (lv_sub hl [0, 1, 2, 3, 4] rfl)
  exact loop11_8 4096 s1 (p2 + 1) hI1 hF1 e2 e3 (by omega) a4 a5 a6 l07 AP.none LTA.none (by first | exact hR | (rw [nI_pred]; exact hR)) (by omega) _ _ _ h (lv_sub hl [0, 1, 2, 3] rfl)
set_option maxHeartbeats 4000000 in
set_option maxRecDepth 100000 in
theorem aX12_findPieces_0 (l : Launch) (g : CX) (σ : ST) (hI : INV σ)  : XM l g yX12_findPieces wsX12_findPieces { frames := 3, cells := 0, slots := 0, locals := 73 } [.ref (g.2.1 79)] σ (XQv g (fun σ' => fX12_findPieces_0 σ = σ' ∧ ((∃ P R : Nat, σ'.1 35 = nI P ∧ σ'.1 31 = nI R ∧ R ≤ 48 ∧ P ≤ R ∧ AP (σ'.2.2 77) 0 R (PQ P) ∧ P = FPn (σ.2.2 68) (σ.2.2 69) (σ.2.2 70) (σ.2.2 66) R)) ∧ INV σ' ∧ Fr [(35, 38)] [(75, 84)] σ σ')) := by
  refine x_met (own := RX12) (cc := cX12_findPieces) (maxL := 3) (ret := none) (lv := [(0, .ref (g.2.1 79))]) (by decide) rfl rfl (Nat.le_of_ble_eq_true rfl) rfl ?_
  intro p e s m args below meth c ls E h hl
  have hx := E.1
  have hb := E.2.1
  have hown := E.2.2.2.1
  have hts := E.2.2.2.2.1
  have hF : Fr [(35, 38)] [(75, 84)] σ σ := Fr.refl σ
  obtain ⟨R, hR0⟩ : ∃ R, fX12_findPieces_0 σ = R := ⟨_, rfl⟩
  have hR : fX12_findPieces_0b0 σ = R := hR0
  have hwX12 : ∀ w ∈ wsX120, w ∈ wsX12_findPieces := by decide +kernel
  generalize hPQ : XQv g (fun σ' => fX12_findPieces_0 σ = σ' ∧ ((∃ P R : Nat, σ'.1 35 = nI P ∧ σ'.1 31 = nI R ∧ R ≤ 48 ∧ P ≤ R ∧ AP (σ'.2.2 77) 0 R (PQ P) ∧ P = FPn (σ.2.2 68) (σ.2.2 69) (σ.2.2 70) (σ.2.2 66) R)) ∧ INV σ' ∧ Fr [(35, 38)] [(75, 84)] σ σ') = PQz
  refine lv_aload_n hx hb dX12_findPieces_0 rfl (lv_at hl 0 rfl) ?_
  refine lv_iconst (v := 0) hx hb dX12_findPieces_1 (by decide) ?_
  refine y_putI E h hI hF (ty := .int) (v := nI 0) (fi_mo_pieces g) rfl hwX12 tyX12_ok nmX12 (by decide) (by decide +kernel) (by decide +kernel) (by decide +kernel) rfl rfl (ba_some rfl (Bd.mk (n := 0) (by omega))) rfl dX12_findPieces_2 (fun s1 H locs q1 hI1 hF1 h => ?_)
  replace hR := bd_to hR q1.symm
  have e2 : s1.1 35 = nI 0 := congrArg (fun t : ST => t.1 35) q1
  have a3 : s1.2.2 68 = σ.2.2 68 := (show s1.2.2 68 = σ.2.2 68 from (congrArg (fun t : ST => t.2.2 68) q1).trans rfl).trans rfl
  have a4 : s1.2.2 69 = σ.2.2 69 := (show s1.2.2 69 = σ.2.2 69 from (congrArg (fun t : ST => t.2.2 69) q1).trans rfl).trans rfl
  have a5 : s1.2.2 70 = σ.2.2 70 := (show s1.2.2 70 = σ.2.2 70 from (congrArg (fun t : ST => t.2.2 70) q1).trans rfl).trans rfl
  have a6 : s1.2.2 66 = σ.2.2 66 := (show s1.2.2 66 = σ.2.2 66 from (congrArg (fun t : ST => t.2.2 66) q1).trans rfl).trans rfl
  refine lv_aload_n hx hb dX12_findPieces_5 rfl (lv_at hl 0 rfl) ?_
  refine lv_iconst (v := 0) hx hb dX12_findPieces_6 (by decide) ?_
  refine y_putI E h hI1 hF1 (ty := .int) (v := 0) (fi_mo_stretches g) rfl hwX12 tyX12_ok nmX12 (by decide) (by decide +kernel) (by decide +kernel) (by decide +kernel) rfl rfl (ba_none rfl) rfl dX12_findPieces_7 (fun s7 H locs q7 hI7 hF7 h => ?_)
  replace hR := bd_to hR q7.symm
  have e8 : s7.1 35 = 0 := (congrArg (fun t : ST => t.1 35) q7).trans e2
  have e9 : s7.1 36 = 0 := congrArg (fun t : ST => t.1 36) q7
  have a10 : s7.2.2 68 = σ.2.2 68 := (show s7.2.2 68 = s1.2.2 68 from (congrArg (fun t : ST => t.2.2 68) q7).trans rfl).trans a3
  have a11 : s7.2.2 69 = σ.2.2 69 := (show s7.2.2 69 = s1.2.2 69 from (congrArg (fun t : ST => t.2.2 69) q7).trans rfl).trans a4
  have a12 : s7.2.2 70 = σ.2.2 70 := (show s7.2.2 70 = s1.2.2 70 from (congrArg (fun t : ST => t.2.2 70) q7).trans rfl).trans a5
  have a13 : s7.2.2 66 = σ.2.2 66 := (show s7.2.2 66 = s1.2.2 66 from (congrArg (fun t : ST => t.2.2 66) q7).trans rfl).trans a6
  refine lv_aload_n hx hb dX12_findPieces_10 rfl (lv_at hl 0 rfl) ?_
  refine lv_iconst (v := 0) hx hb dX12_findPieces_11 (by decide) ?_
  refine y_putI E h hI7 hF7 (ty := .int) (v := 0) (fi_mo_price g) rfl hwX12 tyX12_ok nmX12 (by decide) (by decide +kernel) (by decide +kernel) (by decide +kernel) rfl rfl (ba_none rfl) rfl dX12_findPieces_12 (fun s14 H locs q14 hI14 hF14 h => ?_)
  replace hR := bd_to hR q14.symm
  have e15 : s14.1 35 = 0 := (congrArg (fun t : ST => t.1 35) q14).trans e8
  have e16 : s14.1 36 = 0 := (congrArg (fun t : ST => t.1 36) q14).trans e9
  have e17 : s14.1 37 = 0 := congrArg (fun t : ST => t.1 37) q14
  have a18 : s14.2.2 68 = σ.2.2 68 := (show s14.2.2 68 = s7.2.2 68 from (congrArg (fun t : ST => t.2.2 68) q14).trans rfl).trans a10
  have a19 : s14.2.2 69 = σ.2.2 69 := (show s14.2.2 69 = s7.2.2 69 from (congrArg (fun t : ST => t.2.2 69) q14).trans rfl).trans a11
  have a20 : s14.2.2 70 = σ.2.2 70 := (show s14.2.2 70 = s7.2.2 70 from (congrArg (fun t : ST => t.2.2 70) q14).trans rfl).trans a12
  have a21 : s14.2.2 66 = σ.2.2 66 := (show s14.2.2 66 = s7.2.2 66 from (congrArg (fun t : ST => t.2.2 66) q14).trans rfl).trans a13
  refine lv_iconst (v := 0) hx hb dX12_findPieces_15 (by decide) ?_
  refine lv_istore_n (lv' := [(1, .int 0), (0, .ref (g.2.1 79))]) hx hb dX12_findPieces_16 rfl hl (by decide) rfl (fun ls hl => ?_)
  obtain ⟨n23, b23, e23⟩ := hI14.1 31 48 rfl
  have loop17_22 : ∀ (fu : Nat) (t22 : ST) (f22_35 : Nat) (i22_1 : Nat), INV t22 → Fr [(35, 38)] [(75, 84)] σ t22 → t22.1 31 = nI n23 → t22.1 35 = nI f22_35 → i22_1 ≤ n23 → f22_35 ≤ i22_1 → t22.2.2 68 = σ.2.2 68 → t22.2.2 69 = σ.2.2 69 → t22.2.2 70 = σ.2.2 70 → t22.2.2 66 = σ.2.2 66 → AP (t22.2.2 77) 0 i22_1 (PQ f22_35) → f22_35 + fpS (cutN (fun r9 n9 => spA (σ.2.2 68) n23 (nI r9) (nI n9)) (σ.2.2 66 0)) (hdS (σ.2.2 68) (σ.2.2 69) (σ.2.2 70) (σ.2.2 66)) n23 (n23 - i22_1) i22_1 = FPn (σ.2.2 68) (σ.2.2 69) (σ.2.2 70) (σ.2.2 66) n23 → fX12_findPieces_0l17 fu (nI i22_1) t22 = R → n23 - i22_1 < fu → ∀ (H : Heap) (locs : List Loc) (ls : Array Slot), HW g t22 s H locs → lv_has ls 3 [(1, .int (nI i22_1)), (0, .ref (g.2.1 79))] → W p l e { frames := 3, cells := 0, slots := 0, locals := 73 } s m args below meth c H locs 0 0 (MQ below PQz args s 0 0 (Aw g)) (F0 m 17 ls []) := by
    intro fu22
    induction fu22 with
    | zero => intro t22 f22_35 i22_1 hI_22 hF_22 e24 ef22_35 bi22_1 pp22_0 en_22 ed_22 eo2_22 er_22 po_22 fp_22 hR22 hm; exact absurd hm (Nat.not_lt_zero _)
    | succ fu22 ih =>
      have ih22 := ih
      clear ih
      intro t22 f22_35 i22_1 hI_22 hF_22 e24 ef22_35 bi22_1 pp22_0 en_22 ed_22 eo2_22 er_22 po_22 fp_22 hR22 hm22 H locs ls h hl
      replace hR22 : fX12_findPieces_0b17 (fX12_findPieces_0l17 fu22) (nI i22_1) t22 = R := hR22
      refine lv_iload_n hx hb dX12_findPieces_17 rfl (lv_at hl 0 rfl) ?_
      refine lv_aload_n hx hb dX12_findPieces_18 rfl (lv_at hl 1 rfl) ?_
      refine x_getI E h (fi_mo_rows g) rfl hwX12 (by decide) (by decide +kernel) (v := nI n23) e24 dX12_findPieces_19 ?_
      replace hR22 := bd_to hR22 e24
      refine lv_icmp_ge (tgt := 96) hx hb dX12_findPieces_22 (by decide) (fun c25 => ?_) (fun c25 => ?_)
      · skip
        replace hR22 := it_t hR22 c25
        have b26 : n23 ≤ i22_1 := y_le (a := n23) (b := i22_1) (by omega) (by omega) c25
        subst hPQ
        exact x_vret E h ⟨hR0.trans hR22.symm, (⟨f22_35, n23, ef22_35, e24, (by omega), (by omega), (AP.sub po_22 (by omega)), (by have h9 := fp_22; rw [fpS_end (by omega)] at h9; exact h9)⟩), hI_22, hF_22⟩ dX12_findPieces_96
      · skip
        replace hR22 := it_f hR22 c25
        have b27 : i22_1 < n23 := y_nle (a := n23) (b := i22_1) (by omega) (by omega) c25
        refine lv_aload_n hx hb dX12_findPieces_25 rfl (lv_at hl 1 rfl) ?_
        refine lv_iload_n hx hb dX12_findPieces_26 rfl (lv_at hl 0 rfl) ?_
        refine x_vi E h (na := 1) (As := [.int (nI i22_1)]) (aX12_isHeard_0 l g t22 hI_22 i22_1 (by omega)) (oc_mo g) rfl gX12_findPieces_X12_isHeard rfl ⟨rfl, rfl⟩ rfl (by decide +kernel) ⟨Nat.le_of_ble_eq_true rfl, Nat.le_of_ble_eq_true rfl⟩ hl.1 rfl (Nat.le_of_ble_eq_true rfl) dX12_findPieces_27 ⟨Nat.le_of_ble_eq_true rfl, Nat.le_of_ble_eq_true rfl⟩ (fun r28 s28 H locs q28 h => ?_)
        obtain ⟨x28, d28, rfl⟩ := q28
        replace hR22 := bd_to hR22 x28
        rcases d28 with ⟨rfl, u28_0_0⟩ | ⟨rfl, u28_1_0⟩
        · skip
          have hd29 : (hdS (σ.2.2 68) (σ.2.2 69) (σ.2.2 70) (σ.2.2 66)) i22_1 = true := by have h9 := u28_0_0; rw [en_22, ed_22, eo2_22, er_22] at h9; exact h9
          replace hR22 := it_f hR22 (by decide)
          refine lv_if_eq (tgt := 82) hx hb dX12_findPieces_30 (by decide) (fun c => absurd c (by decide)) (fun _ => ?_)
          refine lv_iload_n hx hb dX12_findPieces_33 rfl (lv_at hl 0 rfl) ?_
          refine lv_istore_n (lv' := [(2, .int (nI i22_1)), (1, .int (nI i22_1)), (0, .ref (g.2.1 79))]) hx hb dX12_findPieces_34 rfl hl (by decide) rfl (fun ls hl => ?_)
          have loop35_30 : ∀ (fu : Nat) (i30_2 : Nat), i30_2 ≤ n23 - 1 → i22_1 ≤ i30_2 → ndS (hdS (σ.2.2 68) (σ.2.2 69) (σ.2.2 70) (σ.2.2 66)) n23 (n23 - (i22_1 + 1)) i22_1 = ndS (hdS (σ.2.2 68) (σ.2.2 69) (σ.2.2 70) (σ.2.2 66)) n23 (n23 - (i30_2 + 1)) i30_2 → fX12_findPieces_0l35 (fX12_findPieces_0l17 fu22) fu (nI i22_1) (nI i30_2) t22 = R → n23 - i30_2 < fu → ∀ (H : Heap) (locs : List Loc) (ls : Array Slot), HW g t22 s H locs → lv_has ls 3 [(2, .int (nI i30_2)), (1, .int (nI i22_1)), (0, .ref (g.2.1 79))] → W p l e { frames := 3, cells := 0, slots := 0, locals := 73 } s m args below meth c H locs 0 0 (MQ below PQz args s 0 0 (Aw g)) (F0 m 35 ls []) := by
            intro fu30
            induction fu30 with
            | zero => intro i30_2 bi30_2 pp30_0 nd_30 hR30 hm; exact absurd hm (Nat.not_lt_zero _)
            | succ fu30 ih =>
              have ih30 := ih
              clear ih
              intro i30_2 bi30_2 pp30_0 nd_30 hR30 hm30 H locs ls h hl
              replace hR30 : fX12_findPieces_0b35 (fX12_findPieces_0l17 fu22) (fX12_findPieces_0l35 (fX12_findPieces_0l17 fu22) fu30) (nI i22_1) (nI i30_2) t22 = R := hR30
              refine lv_iload_n hx hb dX12_findPieces_35 rfl (lv_at hl 0 rfl) ?_
              refine lv_iconst (v := 1) hx hb dX12_findPieces_36 (by decide) ?_
              refine lv_iadd hx hb dX12_findPieces_37 ?_
              refine x_topI (v2 := nI (i30_2 + 1)) (nI_add i30_2 1) ?_
              replace hR30 := bd_to hR30 (nI_add i30_2 1)
              refine lv_aload_n hx hb dX12_findPieces_38 rfl (lv_at hl 2 rfl) ?_
              refine x_getI E h (fi_mo_rows g) rfl hwX12 (by decide) (by decide +kernel) (v := nI n23) e24 dX12_findPieces_39 ?_
              replace hR30 := bd_to hR30 e24
              refine lv_icmp_ge (tgt := 61) hx hb dX12_findPieces_42 (by decide) (fun c31 => ?_) (fun c31 => ?_)
              · skip
                replace hR30 := it_t hR30 c31
                have b32 : n23 ≤ (i30_2 + 1) := y_le (a := n23) (b := (i30_2 + 1)) (by omega) (by omega) c31
                have nd33 := nd_30.trans (ndS_stop (fun q9 => absurd q9.1 (by omega)))
                refine lv_aload_n hx hb dX12_findPieces_61 rfl (lv_at hl 2 rfl) ?_
                refine lv_dup hx hb dX12_findPieces_62 rfl ?_
                obtain ⟨x34, e34⟩ : ∃ x, t22.1 36 = x := ⟨_, rfl⟩
                refine x_getI E h (fi_mo_stretches g) rfl hwX12 (by decide) (by decide +kernel) (v := x34) e34 dX12_findPieces_63 ?_
                replace hR30 := bd_to hR30 e34
                refine lv_iconst (v := 1) hx hb dX12_findPieces_66 (by decide) ?_
                refine lv_iadd hx hb dX12_findPieces_67 ?_
                refine lv_topi (fun x35 e35 => ?_)
                replace hR30 := bd_to hR30 e35.symm
                refine y_putI E h hI_22 hF_22 (ty := .int) (v := x35) (fi_mo_stretches g) rfl hwX12 tyX12_ok nmX12 (by decide) (by decide +kernel) (by decide +kernel) (by decide +kernel) rfl rfl (ba_none rfl) rfl dX12_findPieces_68 (fun s36 H locs q36 hI36 hF36 h => ?_)
                replace hR30 := bd_to hR30 q36.symm
                have e37 : s36.1 31 = nI n23 := (congrArg (fun t : ST => t.1 31) q36).trans e24
                have e38 : s36.1 35 = nI f22_35 := (congrArg (fun t : ST => t.1 35) q36).trans ef22_35
                have e39 : s36.1 36 = x35 := congrArg (fun t : ST => t.1 36) q36
                have a40 : s36.2.2 68 = σ.2.2 68 := (show s36.2.2 68 = t22.2.2 68 from (congrArg (fun t : ST => t.2.2 68) q36).trans rfl).trans en_22
                have a41 : s36.2.2 69 = σ.2.2 69 := (show s36.2.2 69 = t22.2.2 69 from (congrArg (fun t : ST => t.2.2 69) q36).trans rfl).trans ed_22
                have a42 : s36.2.2 70 = σ.2.2 70 := (show s36.2.2 70 = t22.2.2 70 from (congrArg (fun t : ST => t.2.2 70) q36).trans rfl).trans eo2_22
                have a43 : s36.2.2 66 = σ.2.2 66 := (show s36.2.2 66 = t22.2.2 66 from (congrArg (fun t : ST => t.2.2 66) q36).trans rfl).trans er_22
                have a44 := AP.eq po_22 (show s36.2.2 77 = t22.2.2 77 from (congrArg (fun t : ST => t.2.2 77) q36).trans rfl)
                refine lv_aload_n hx hb dX12_findPieces_71 rfl (lv_at hl 2 rfl) ?_
                refine lv_iload_n hx hb dX12_findPieces_72 rfl (lv_at hl 1 rfl) ?_
                refine lv_iload_n hx hb dX12_findPieces_73 rfl (lv_at hl 0 rfl) ?_
                refine x_vv E h (na := 2) (As := [.int (nI i22_1), .int (nI i30_2)]) (aX12_cut_0 l g s36 hI36 i22_1 i30_2 n23 e37 f22_35 e38 (by omega) (by omega) (by omega) (by omega) a44) (oc_mo g) rfl gX12_findPieces_X12_cut rfl ⟨rfl, rfl⟩ rfl (by decide +kernel) ⟨Nat.le_of_ble_eq_true rfl, Nat.le_of_ble_eq_true rfl⟩ hl.1 rfl (Nat.le_of_ble_eq_true rfl) dX12_findPieces_74 ⟨Nat.le_of_ble_eq_true rfl, Nat.le_of_ble_eq_true rfl⟩ (fun s45 H locs q45 h => ?_)
                obtain ⟨x45, d45, hI45, f45⟩ := q45
                replace hR30 := bd_to hR30 x45
                have hF45 := hF36.call f45 (I := [(35, 38)]) (J := [(75, 84)]) rfl rfl
                have e46 : s45.1 31 = nI n23 := ((f45.1 31 rfl)).trans e37
                have e47 : s45.1 36 = x35 := ((f45.1 36 rfl)).trans e39
                have a48 : s45.2.2 68 = σ.2.2 68 := (f45.2 68 rfl).trans a40
                have a49 : s45.2.2 69 = σ.2.2 69 := (f45.2 69 rfl).trans a41
                have a50 : s45.2.2 70 = σ.2.2 70 := (f45.2 70 rfl).trans a42
                have a51 : s45.2.2 66 = σ.2.2 66 := (f45.2 66 rfl).trans a43
                rcases d45 with ⟨m45_0P, u45_0_0, u45_0_1, u45_0_2, u45_0_3⟩
                have cc53 : m45_0P = f22_35 + (cutN (fun r9 n9 => spA (σ.2.2 68) n23 (nI r9) (nI n9)) (σ.2.2 66 0)) i22_1 i30_2 := by have h9 := u45_0_3; rw [a40, a43] at h9; exact h9
                refine lv_iload_n hx hb dX12_findPieces_77 rfl (lv_at hl 0 rfl) ?_
                refine lv_istore_n (lv' := [(1, .int (nI i30_2)), (2, .int (nI i30_2)), (0, .ref (g.2.1 79))]) hx hb dX12_findPieces_78 rfl hl (by decide) rfl (fun ls hl => ?_)
                refine lv_goto (tgt := 90) hx hb dX12_findPieces_79 (by decide) ?_
                replace hR30 := bd_to hR30 (nI_add i30_2 1)
                refine lv_iinc (v := (nI (i30_2 + 1))) (lv' := [(1, .int (nI (i30_2 + 1))), (2, .int (nI i30_2)), (0, .ref (g.2.1 79))]) hx hb dX12_findPieces_90 hl (k := 0) rfl (nI_add i30_2 1) (by decide) rfl (fun ls hl => ?_)
                refine lv_goto (tgt := 17) hx hb dX12_findPieces_93 (by decide) ?_
                exact ih22 s45 m45_0P (i30_2 + 1) hI45 hF45 e46 u45_0_0 (by omega) (by omega) a48 a49 a50 a51 u45_0_2 (by have h9 := fp_22; rw [fpS_yes (by omega) hd29 nd33, ← Nat.add_assoc, ← cc53] at h9; exact h9) hR30 (by omega) _ _ _ h (lv_sub hl [0, 2] rfl)
              · skip
                replace hR30 := it_f hR30 c31
                have b54 : (i30_2 + 1) < n23 := y_nle (a := n23) (b := (i30_2 + 1)) (by omega) (by omega) c31
                refine lv_aload_n hx hb dX12_findPieces_45 rfl (lv_at hl 2 rfl) ?_
                refine lv_iload_n hx hb dX12_findPieces_46 rfl (lv_at hl 0 rfl) ?_
                refine lv_iconst (v := 1) hx hb dX12_findPieces_47 (by decide) ?_
                refine lv_iadd hx hb dX12_findPieces_48 ?_
                refine x_topI (v2 := nI (i30_2 + 1)) (nI_add i30_2 1) ?_
                replace hR30 := bd_to hR30 (nI_add i30_2 1)
                refine x_vi E h (na := 1) (As := [.int (nI (i30_2 + 1))]) (aX12_isHeard_0 l g t22 hI_22 (i30_2 + 1) (by omega)) (oc_mo g) rfl gX12_findPieces_X12_isHeard rfl ⟨rfl, rfl⟩ rfl (by decide +kernel) ⟨Nat.le_of_ble_eq_true rfl, Nat.le_of_ble_eq_true rfl⟩ hl.1 rfl (Nat.le_of_ble_eq_true rfl) dX12_findPieces_49 ⟨Nat.le_of_ble_eq_true rfl, Nat.le_of_ble_eq_true rfl⟩ (fun r55 s55 H locs q55 h => ?_)
                obtain ⟨x55, d55, rfl⟩ := q55
                replace hR30 := bd_to hR30 x55
                rcases d55 with ⟨rfl, u55_0_0⟩ | ⟨rfl, u55_1_0⟩
                · skip
                  have hd56 : (hdS (σ.2.2 68) (σ.2.2 69) (σ.2.2 70) (σ.2.2 66)) (i30_2 + 1) = true := by have h9 := u55_0_0; rw [en_22, ed_22, eo2_22, er_22] at h9; exact h9
                  replace hR30 := it_f hR30 (by decide)
                  refine lv_if_eq (tgt := 61) hx hb dX12_findPieces_52 (by decide) (fun c => absurd c (by decide)) (fun _ => ?_)
                  replace hR30 := bd_to hR30 (nI_add i30_2 1)
                  refine lv_iinc (v := (nI (i30_2 + 1))) (lv' := [(2, .int (nI (i30_2 + 1))), (1, .int (nI i22_1)), (0, .ref (g.2.1 79))]) hx hb dX12_findPieces_55 hl (k := 0) rfl (nI_add i30_2 1) (by decide) rfl (fun ls hl => ?_)
                  refine lv_goto (tgt := 35) hx hb dX12_findPieces_58 (by decide) ?_
                  exact ih30 (i30_2 + 1) (by omega) (by omega) (nd_30.trans (ndS_step (by omega) hd56)) hR30 (by omega) _ _ _ h (lv_sub hl [0, 1, 2] rfl)
                · skip
                  have hd57 : (hdS (σ.2.2 68) (σ.2.2 69) (σ.2.2 70) (σ.2.2 66)) (i30_2 + 1) = false := by have h9 := u55_1_0; rw [en_22, ed_22, eo2_22, er_22] at h9; exact h9
                  replace hR30 := it_t hR30 (by decide)
                  refine lv_if_eq (tgt := 61) hx hb dX12_findPieces_52 (by decide) (fun _ => ?_) (fun c => absurd (by decide) c)
                  have nd58 := nd_30.trans (ndS_stop (fun q9 => absurd (q9.2.symm.trans hd57) (by decide)))
                  refine lv_aload_n hx hb dX12_findPieces_61 rfl (lv_at hl 2 rfl) ?_
                  refine lv_dup hx hb dX12_findPieces_62 rfl ?_
                  obtain ⟨x59, e59⟩ : ∃ x, t22.1 36 = x := ⟨_, rfl⟩
                  refine x_getI E h (fi_mo_stretches g) rfl hwX12 (by decide) (by decide +kernel) (v := x59) e59 dX12_findPieces_63 ?_
                  replace hR30 := bd_to hR30 e59
                  refine lv_iconst (v := 1) hx hb dX12_findPieces_66 (by decide) ?_
                  refine lv_iadd hx hb dX12_findPieces_67 ?_
                  refine lv_topi (fun x60 e60 => ?_)
                  replace hR30 := bd_to hR30 e60.symm
                  refine y_putI E h hI_22 hF_22 (ty := .int) (v := x60) (fi_mo_stretches g) rfl hwX12 tyX12_ok nmX12 (by decide) (by decide +kernel) (by decide +kernel) (by decide +kernel) rfl rfl (ba_none rfl) rfl dX12_findPieces_68 (fun s61 H locs q61 hI61 hF61 h => ?_)
                  replace hR30 := bd_to hR30 q61.symm
                  have e62 : s61.1 31 = nI n23 := (congrArg (fun t : ST => t.1 31) q61).trans e24
                  have e63 : s61.1 35 = nI f22_35 := (congrArg (fun t : ST => t.1 35) q61).trans ef22_35
                  have e64 : s61.1 36 = x60 := congrArg (fun t : ST => t.1 36) q61
                  have a65 : s61.2.2 68 = σ.2.2 68 := (show s61.2.2 68 = t22.2.2 68 from (congrArg (fun t : ST => t.2.2 68) q61).trans rfl).trans en_22
                  have a66 : s61.2.2 69 = σ.2.2 69 := (show s61.2.2 69 = t22.2.2 69 from (congrArg (fun t : ST => t.2.2 69) q61).trans rfl).trans ed_22
                  have a67 : s61.2.2 70 = σ.2.2 70 := (show s61.2.2 70 = t22.2.2 70 from (congrArg (fun t : ST => t.2.2 70) q61).trans rfl).trans eo2_22
                  have a68 : s61.2.2 66 = σ.2.2 66 := (show s61.2.2 66 = t22.2.2 66 from (congrArg (fun t : ST => t.2.2 66) q61).trans rfl).trans er_22
                  have a69 := AP.eq po_22 (show s61.2.2 77 = t22.2.2 77 from (congrArg (fun t : ST => t.2.2 77) q61).trans rfl)
                  refine lv_aload_n hx hb dX12_findPieces_71 rfl (lv_at hl 2 rfl) ?_
                  refine lv_iload_n hx hb dX12_findPieces_72 rfl (lv_at hl 1 rfl) ?_
                  refine lv_iload_n hx hb dX12_findPieces_73 rfl (lv_at hl 0 rfl) ?_
                  refine x_vv E h (na := 2) (As := [.int (nI i22_1), .int (nI i30_2)]) (aX12_cut_0 l g s61 hI61 i22_1 i30_2 n23 e62 f22_35 e63 (by omega) (by omega) (by omega) (by omega) a69) (oc_mo g) rfl gX12_findPieces_X12_cut rfl ⟨rfl, rfl⟩ rfl (by decide +kernel) ⟨Nat.le_of_ble_eq_true rfl, Nat.le_of_ble_eq_true rfl⟩ hl.1 rfl (Nat.le_of_ble_eq_true rfl) dX12_findPieces_74 ⟨Nat.le_of_ble_eq_true rfl, Nat.le_of_ble_eq_true rfl⟩ (fun s70 H locs q70 h => ?_)
                  obtain ⟨x70, d70, hI70, f70⟩ := q70
                  replace hR30 := bd_to hR30 x70
                  have hF70 := hF61.call f70 (I := [(35, 38)]) (J := [(75, 84)]) rfl rfl
                  have e71 : s70.1 31 = nI n23 := ((f70.1 31 rfl)).trans e62
                  have e72 : s70.1 36 = x60 := ((f70.1 36 rfl)).trans e64
                  have a73 : s70.2.2 68 = σ.2.2 68 := (f70.2 68 rfl).trans a65
                  have a74 : s70.2.2 69 = σ.2.2 69 := (f70.2 69 rfl).trans a66
                  have a75 : s70.2.2 70 = σ.2.2 70 := (f70.2 70 rfl).trans a67
                  have a76 : s70.2.2 66 = σ.2.2 66 := (f70.2 66 rfl).trans a68
                  rcases d70 with ⟨m70_0P, u70_0_0, u70_0_1, u70_0_2, u70_0_3⟩
                  have cc78 : m70_0P = f22_35 + (cutN (fun r9 n9 => spA (σ.2.2 68) n23 (nI r9) (nI n9)) (σ.2.2 66 0)) i22_1 i30_2 := by have h9 := u70_0_3; rw [a65, a68] at h9; exact h9
                  refine lv_iload_n hx hb dX12_findPieces_77 rfl (lv_at hl 0 rfl) ?_
                  refine lv_istore_n (lv' := [(1, .int (nI i30_2)), (2, .int (nI i30_2)), (0, .ref (g.2.1 79))]) hx hb dX12_findPieces_78 rfl hl (by decide) rfl (fun ls hl => ?_)
                  refine lv_goto (tgt := 90) hx hb dX12_findPieces_79 (by decide) ?_
                  replace hR30 := bd_to hR30 (nI_add i30_2 1)
                  refine lv_iinc (v := (nI (i30_2 + 1))) (lv' := [(1, .int (nI (i30_2 + 1))), (2, .int (nI i30_2)), (0, .ref (g.2.1 79))]) hx hb dX12_findPieces_90 hl (k := 0) rfl (nI_add i30_2 1) (by decide) rfl (fun ls hl => ?_)
                  refine lv_goto (tgt := 17) hx hb dX12_findPieces_93 (by decide) ?_
                  exact ih22 s70 m70_0P (i30_2 + 1) hI70 hF70 e71 u70_0_0 (by omega) (by omega) a73 a74 a75 a76 u70_0_2 (by have h9 := fp_22; rw [fpS_yes (by omega) hd29 nd58, ← Nat.add_assoc, ← cc78] at h9; exact h9) hR30 (by omega) _ _ _ h (lv_sub hl [0, 2] rfl)
          exact loop35_30 4096 i22_1 (by omega) (by omega) rfl hR22 (by omega) _ _ _ h (lv_sub hl [0, 1, 2] rfl)
        · skip
          have hd79 : (hdS (σ.2.2 68) (σ.2.2 69) (σ.2.2 70) (σ.2.2 66)) i22_1 = false := by have h9 := u28_1_0; rw [en_22, ed_22, eo2_22, er_22] at h9; exact h9
          replace hR22 := it_t hR22 (by decide)
          refine lv_if_eq (tgt := 82) hx hb dX12_findPieces_30 (by decide) (fun _ => ?_) (fun c => absurd (by decide) c)
          refine lv_aload_n hx hb dX12_findPieces_82 rfl (lv_at hl 1 rfl) ?_
          refine x_getR E h (fr_mo_pieceOf g) rfl hwX12 (by decide) (by decide +kernel) dX12_findPieces_83 ?_
          refine lv_iload_n hx hb dX12_findPieces_86 rfl (lv_at hl 0 rfl) ?_
          refine lv_bipush (v := (-9)) hx hb dX12_findPieces_87 (by decide) ?_
          refine y_stI E h hI_22 hF_22 (ia_mo_pieceOf g) (i := nI i22_1) (vp_in_nI (by omega) (by decide)) (j := i22_1) (nI_clamp (by omega)) (ba_none rfl) rfl dX12_findPieces_89 (fun s80 H locs q80 hI80 hF80 h => ?_)
          replace hR22 := st_to hR22 (nI_clamp (n := i22_1) (by omega)) q80
          have e81 : s80.1 31 = nI n23 := (congrArg (fun t : ST => t.1 31) q80).trans e24
          have e82 : s80.1 35 = nI f22_35 := (congrArg (fun t : ST => t.1 35) q80).trans ef22_35
          have a83 : s80.2.2 68 = σ.2.2 68 := (show s80.2.2 68 = t22.2.2 68 from (congrArg (fun t : ST => t.2.2 68) q80).trans rfl).trans en_22
          have a84 : s80.2.2 69 = σ.2.2 69 := (show s80.2.2 69 = t22.2.2 69 from (congrArg (fun t : ST => t.2.2 69) q80).trans rfl).trans ed_22
          have a85 : s80.2.2 70 = σ.2.2 70 := (show s80.2.2 70 = t22.2.2 70 from (congrArg (fun t : ST => t.2.2 70) q80).trans rfl).trans eo2_22
          have a86 : s80.2.2 66 = σ.2.2 66 := (show s80.2.2 66 = t22.2.2 66 from (congrArg (fun t : ST => t.2.2 66) q80).trans rfl).trans er_22
          have a88 := AP.push (Q := (PQ f22_35)) po_22 (show s80.2.2 77 = upd (t22.2.2 77) i22_1 (-9) from congrArg (fun t : ST => t.2.2 77) q80) (Or.inl rfl)
          replace hR22 := bd_to hR22 (nI_add i22_1 1)
          refine lv_iinc (v := (nI (i22_1 + 1))) (lv' := [(1, .int (nI (i22_1 + 1))), (0, .ref (g.2.1 79))]) hx hb dX12_findPieces_90 hl (k := 0) rfl (nI_add i22_1 1) (by decide) rfl (fun ls hl => ?_)
          refine lv_goto (tgt := 17) hx hb dX12_findPieces_93 (by decide) ?_
          exact ih22 s80 f22_35 (i22_1 + 1) hI80 hF80 e81 e82 (by omega) (by omega) a83 a84 a85 a86 a88 (by have h9 := fp_22; rw [fpS_no (by omega) hd79] at h9; exact h9) hR22 (by omega) _ _ _ h (lv_sub hl [0, 1] rfl)
  exact loop17_22 4096 s14 0 0 hI14 hF14 e23 e15 (Nat.zero_le _) (by omega) a18 a19 a20 a21 AP.none (by rw [Nat.zero_add]; rfl) hR (by omega) _ _ _ h (lv_sub hl [0, 1] rfl)
set_option maxHeartbeats 4000000 in
set_option maxRecDepth 100000 in
theorem aX12_pieces_0 (l : Launch) (g : CX) (σ : ST) (hI : INV σ) (p1 : Int32) : XM l g yX12_pieces wsX12_pieces { frames := 4, cells := 0, slots := 0, locals := 95 } [.ref (g.2.1 79), .int p1] σ (XQi g (fun r σ' => fX12_pieces_0 p1 σ = (r, σ') ∧ INV σ' ∧ Fr [(35, 38)] [(75, 84)] σ σ')) := by
  refine x_met (own := RX12) (cc := cX12_pieces) (maxL := 4) (ret := (some .int)) (lv := [(0, .ref (g.2.1 79)), (1, .int p1)]) (by decide) rfl rfl (Nat.le_of_ble_eq_true rfl) rfl ?_
  intro p e s m args below meth c ls E h hl
  have hx := E.1
  have hb := E.2.1
  have hown := E.2.2.2.1
  have hts := E.2.2.2.2.1
  have hF : Fr [(35, 38)] [(75, 84)] σ σ := Fr.refl σ
  obtain ⟨R, hR0⟩ : ∃ R, fX12_pieces_0 p1 σ = R := ⟨_, rfl⟩
  have hR : fX12_pieces_0b0 p1 σ = R := hR0
  have hwX12 : ∀ w ∈ wsX120, w ∈ wsX12_pieces := by decide +kernel
  generalize hPQ : XQi g (fun r σ' => fX12_pieces_0 p1 σ = (r, σ') ∧ INV σ' ∧ Fr [(35, 38)] [(75, 84)] σ σ') = PQz
  refine lv_iload_n hx hb dX12_pieces_0 rfl (lv_at hl 1 rfl) ?_
  refine lv_iconst (v := 0) hx hb dX12_pieces_1 (by decide) ?_
  refine lv_iconst (v := 3) hx hb dX12_pieces_2 (by decide) ?_
  refine x_si E h (na := 3) (As := [.int p1, .int 0, .int 3]) (aX12_in_0 l g σ hI p1 0 3) gX12_pieces_X12_in rfl ⟨rfl, rfl⟩ rfl (by decide +kernel) ⟨Nat.le_of_ble_eq_true rfl, Nat.le_of_ble_eq_true rfl⟩ hl.1 rfl (Nat.le_of_ble_eq_true rfl) dX12_pieces_3 ⟨Nat.le_of_ble_eq_true rfl, Nat.le_of_ble_eq_true rfl⟩ (fun r1 s1 H locs q1 h => ?_)
  obtain ⟨x1, d1, rfl⟩ := q1
  replace hR := bd_to hR x1
  rcases d1 with ⟨rfl, u1_0_0, u1_0_1⟩ | ⟨rfl, u1_1_0⟩
  · skip
    obtain ⟨n2, b2, rfl⟩ := y_rnlt (N := 3) (y_lo1 u1_0_0 (by decide)) u1_0_1 (by omega)
    have b3 : 0 ≤ n2 := y_nlt (a := n2) (b := 0) (by omega) (by omega) u1_0_0
    have b4 : n2 ≤ 3 := y_nlt (a := 3) (b := n2) (by omega) (by omega) u1_0_1
    replace hR := it_f hR (by decide)
    refine lv_if_ne (tgt := 11) hx hb dX12_pieces_6 (by decide) (fun _ => ?_) (fun c => absurd c (by decide))
    refine lv_aload_n hx hb dX12_pieces_11 rfl (lv_at hl 0 rfl) ?_
    refine x_vv E h (na := 0) (As := []) (aX12_findPieces_0 l g σ hI) (oc_mo g) rfl gX12_pieces_X12_findPieces rfl ⟨rfl, rfl⟩ rfl (by decide +kernel) ⟨Nat.le_of_ble_eq_true rfl, Nat.le_of_ble_eq_true rfl⟩ hl.1 rfl (Nat.le_of_ble_eq_true rfl) dX12_pieces_12 ⟨Nat.le_of_ble_eq_true rfl, Nat.le_of_ble_eq_true rfl⟩ (fun s5 H locs q5 h => ?_)
    obtain ⟨x5, d5, hI5, f5⟩ := q5
    replace hR := bd_to hR x5
    have hF5 := hF.call f5 (I := [(35, 38)]) (J := [(75, 84)]) rfl rfl
    rcases d5 with ⟨m5_0P, m5_0R, u5_0_0, u5_0_1, u5_0_2, u5_0_3, u5_0_4, u5_0_5⟩
    refine lv_iconst (v := 0) hx hb dX12_pieces_15 (by decide) ?_
    refine lv_istore_n (lv' := [(2, .int 0), (0, .ref (g.2.1 79)), (1, .int (nI n2))]) hx hb dX12_pieces_16 rfl hl (by decide) rfl (fun ls hl => ?_)
    refine lv_iconst (v := 0) hx hb dX12_pieces_17 (by decide) ?_
    refine lv_istore_n (lv' := [(3, .int 0), (2, .int 0), (0, .ref (g.2.1 79)), (1, .int (nI n2))]) hx hb dX12_pieces_18 rfl hl (by decide) rfl (fun ls hl => ?_)
    have loop19_7 : ∀ (fu : Nat) (i7_3 : Nat) (i7_2 : Int32), i7_3 ≤ m5_0R → fX12_pieces_0l19 fu (nI n2) i7_2 (nI i7_3) s5 = R → m5_0R - i7_3 < fu → ∀ (H : Heap) (locs : List Loc) (ls : Array Slot), HW g s5 s H locs → lv_has ls 4 [(3, .int (nI i7_3)), (2, .int i7_2), (0, .ref (g.2.1 79)), (1, .int (nI n2))] → W p l e { frames := 4, cells := 0, slots := 0, locals := 95 } s m args below meth c H locs 0 0 (MQ below PQz args s 0 0 (Aw g)) (F0 m 19 ls []) := by
      intro fu7
      induction fu7 with
      | zero => intro i7_3 i7_2 bi7_3 hR7 hm; exact absurd hm (Nat.not_lt_zero _)
      | succ fu7 ih =>
        have ih7 := ih
        clear ih
        intro i7_3 i7_2 bi7_3 hR7 hm7 H locs ls h hl
        replace hR7 : fX12_pieces_0b19 (fX12_pieces_0l19 fu7) (nI n2) i7_2 (nI i7_3) s5 = R := hR7
        refine lv_iload_n hx hb dX12_pieces_19 rfl (lv_at hl 0 rfl) ?_
        refine lv_aload_n hx hb dX12_pieces_20 rfl (lv_at hl 2 rfl) ?_
        refine x_getI E h (fi_mo_rows g) rfl hwX12 (by decide) (by decide +kernel) (v := nI m5_0R) u5_0_1 dX12_pieces_21 ?_
        replace hR7 := bd_to hR7 u5_0_1
        refine lv_icmp_ge (tgt := 49) hx hb dX12_pieces_24 (by decide) (fun c8 => ?_) (fun c8 => ?_)
        · skip
          replace hR7 := it_t hR7 c8
          have b9 : m5_0R ≤ i7_3 := y_le (a := m5_0R) (b := i7_3) (by omega) (by omega) c8
          refine lv_iload_n hx hb dX12_pieces_49 rfl (lv_at hl 3 rfl) ?_
          refine lv_if_ne (tgt := 60) hx hb dX12_pieces_50 (by decide) (fun c10 => ?_) (fun c10 => ?_)
          · skip
            replace hR7 := it_f hR7 c10
            have b11 : ¬ n2 = 0 := y_ne (a := n2) (b := 0) (by omega) (by omega) c10
            refine lv_iload_n hx hb dX12_pieces_60 rfl (lv_at hl 3 rfl) ?_
            refine lv_iconst (v := 1) hx hb dX12_pieces_61 (by decide) ?_
            refine lv_icmp_ne (tgt := 72) hx hb dX12_pieces_62 (by decide) (fun c12 => ?_) (fun c12 => ?_)
            · skip
              replace hR7 := it_f hR7 c12
              have b13 : ¬ n2 = 1 := y_ne (a := n2) (b := 1) (by omega) (by omega) c12
              refine lv_iload_n hx hb dX12_pieces_72 rfl (lv_at hl 3 rfl) ?_
              refine lv_iconst (v := 2) hx hb dX12_pieces_73 (by decide) ?_
              refine lv_icmp_ne (tgt := 84) hx hb dX12_pieces_74 (by decide) (fun c14 => ?_) (fun c14 => ?_)
              · skip
                replace hR7 := it_f hR7 c14
                have b15 : ¬ n2 = 2 := y_ne (a := n2) (b := 2) (by omega) (by omega) c14
                refine lv_iload_n hx hb dX12_pieces_84 rfl (lv_at hl 1 rfl) ?_
                replace hR7 : fX12_pieces_0b85 i7_2 s5 = R := hR7
                subst hPQ
                exact x_iret E h ⟨hR0.trans hR7.symm, hI5, hF5⟩ dX12_pieces_85
              · skip
                replace hR7 := it_t hR7 c14
                have b16 : n2 = 2 := y_eq (a := n2) (b := 2) (by omega) (by omega) c14
                refine lv_aload_n hx hb dX12_pieces_77 rfl (lv_at hl 2 rfl) ?_
                obtain ⟨x17, e17⟩ : ∃ x, s5.1 37 = x := ⟨_, rfl⟩
                refine x_getI E h (fi_mo_price g) rfl hwX12 (by decide) (by decide +kernel) (v := x17) e17 dX12_pieces_78 ?_
                replace hR7 := bd_to hR7 e17
                refine lv_goto (tgt := 85) hx hb dX12_pieces_81 (by decide) ?_
                subst hPQ
                exact x_iret E h ⟨hR0.trans hR7.symm, hI5, hF5⟩ dX12_pieces_85
            · skip
              replace hR7 := it_t hR7 c12
              have b18 : n2 = 1 := y_eq (a := n2) (b := 1) (by omega) (by omega) c12
              refine lv_aload_n hx hb dX12_pieces_65 rfl (lv_at hl 2 rfl) ?_
              obtain ⟨x19, e19⟩ : ∃ x, s5.1 36 = x := ⟨_, rfl⟩
              refine x_getI E h (fi_mo_stretches g) rfl hwX12 (by decide) (by decide +kernel) (v := x19) e19 dX12_pieces_66 ?_
              replace hR7 := bd_to hR7 e19
              refine lv_goto (tgt := 85) hx hb dX12_pieces_69 (by decide) ?_
              subst hPQ
              exact x_iret E h ⟨hR0.trans hR7.symm, hI5, hF5⟩ dX12_pieces_85
          · skip
            replace hR7 := it_t hR7 c10
            have b20 : n2 = 0 := y_eq (a := n2) (b := 0) (by omega) (by omega) c10
            refine lv_aload_n hx hb dX12_pieces_53 rfl (lv_at hl 2 rfl) ?_
            refine x_getI E h (fi_mo_pieces g) rfl hwX12 (by decide) (by decide +kernel) (v := nI m5_0P) u5_0_0 dX12_pieces_54 ?_
            replace hR7 := bd_to hR7 u5_0_0
            refine lv_goto (tgt := 85) hx hb dX12_pieces_57 (by decide) ?_
            subst hPQ
            exact x_iret E h ⟨hR0.trans hR7.symm, hI5, hF5⟩ dX12_pieces_85
        · skip
          replace hR7 := it_f hR7 c8
          have b21 : i7_3 < m5_0R := y_nle (a := m5_0R) (b := i7_3) (by omega) (by omega) c8
          refine lv_iload_n hx hb dX12_pieces_27 rfl (lv_at hl 1 rfl) ?_
          refine lv_aload_n hx hb dX12_pieces_28 rfl (lv_at hl 2 rfl) ?_
          refine lv_iload_n hx hb dX12_pieces_29 rfl (lv_at hl 0 rfl) ?_
          refine x_vi E h (na := 1) (As := [.int (nI i7_3)]) (aX12_isHeard_0 l g s5 hI5 i7_3 (by omega)) (oc_mo g) rfl gX12_pieces_X12_isHeard rfl ⟨rfl, rfl⟩ rfl (by decide +kernel) ⟨Nat.le_of_ble_eq_true rfl, Nat.le_of_ble_eq_true rfl⟩ hl.1 rfl (Nat.le_of_ble_eq_true rfl) dX12_pieces_30 ⟨Nat.le_of_ble_eq_true rfl, Nat.le_of_ble_eq_true rfl⟩ (fun r22 s22 H locs q22 h => ?_)
          obtain ⟨x22, d22, rfl⟩ := q22
          replace hR7 := bd_to hR7 x22
          rcases d22 with ⟨rfl, u22_0_0⟩ | ⟨rfl, u22_1_0⟩
          · skip
            replace hR7 := it_f hR7 (by decide)
            refine lv_if_eq (tgt := 40) hx hb dX12_pieces_33 (by decide) (fun c => absurd c (by decide)) (fun _ => ?_)
            refine lv_iconst (v := 1) hx hb dX12_pieces_36 (by decide) ?_
            refine lv_goto (tgt := 41) hx hb dX12_pieces_37 (by decide) ?_
            replace hR7 : fX12_pieces_0b41 (fX12_pieces_0l19 fu7) (nI n2) (nI i7_3) 1 i7_2 s5 = R := hR7
            refine lv_iadd hx hb dX12_pieces_41 ?_
            refine lv_topi (fun x23 e23 => ?_)
            replace hR7 := bd_to hR7 e23.symm
            refine lv_istore_n (lv' := [(2, .int x23), (3, .int (nI i7_3)), (0, .ref (g.2.1 79)), (1, .int (nI n2))]) hx hb dX12_pieces_42 rfl hl (by decide) rfl (fun ls hl => ?_)
            replace hR7 := bd_to hR7 (nI_add i7_3 1)
            refine lv_iinc (v := (nI (i7_3 + 1))) (lv' := [(3, .int (nI (i7_3 + 1))), (2, .int x23), (0, .ref (g.2.1 79)), (1, .int (nI n2))]) hx hb dX12_pieces_43 hl (k := 1) rfl (nI_add i7_3 1) (by decide) rfl (fun ls hl => ?_)
            refine lv_goto (tgt := 19) hx hb dX12_pieces_46 (by decide) ?_
            exact ih7 (i7_3 + 1) x23 (by omega) hR7 (by omega) _ _ _ h (lv_sub hl [0, 1, 2, 3] rfl)
          · skip
            replace hR7 := it_t hR7 (by decide)
            refine lv_if_eq (tgt := 40) hx hb dX12_pieces_33 (by decide) (fun _ => ?_) (fun c => absurd (by decide) c)
            refine lv_iconst (v := 0) hx hb dX12_pieces_40 (by decide) ?_
            replace hR7 : fX12_pieces_0b41 (fX12_pieces_0l19 fu7) (nI n2) (nI i7_3) 0 i7_2 s5 = R := hR7
            refine lv_iadd hx hb dX12_pieces_41 ?_
            refine lv_topi (fun x24 e24 => ?_)
            replace hR7 := bd_to hR7 e24.symm
            refine lv_istore_n (lv' := [(2, .int x24), (3, .int (nI i7_3)), (0, .ref (g.2.1 79)), (1, .int (nI n2))]) hx hb dX12_pieces_42 rfl hl (by decide) rfl (fun ls hl => ?_)
            replace hR7 := bd_to hR7 (nI_add i7_3 1)
            refine lv_iinc (v := (nI (i7_3 + 1))) (lv' := [(3, .int (nI (i7_3 + 1))), (2, .int x24), (0, .ref (g.2.1 79)), (1, .int (nI n2))]) hx hb dX12_pieces_43 hl (k := 1) rfl (nI_add i7_3 1) (by decide) rfl (fun ls hl => ?_)
            refine lv_goto (tgt := 19) hx hb dX12_pieces_46 (by decide) ?_
            exact ih7 (i7_3 + 1) x24 (by omega) hR7 (by omega) _ _ _ h (lv_sub hl [0, 1, 2, 3] rfl)
    exact loop19_7 4096 0 0 (Nat.zero_le _) hR (by omega) _ _ _ h (lv_sub hl [0, 1, 2, 3] rfl)
  · skip
    replace hR := it_t hR (by decide)
    refine lv_if_ne (tgt := 11) hx hb dX12_pieces_6 (by decide) (fun c => absurd (by decide) c) (fun _ => ?_)
    refine lv_iconst (v := (-1)) hx hb dX12_pieces_9 (by decide) ?_
    subst hPQ
    exact x_iret E h ⟨hR0.trans hR.symm, hI, hF⟩ dX12_pieces_10
