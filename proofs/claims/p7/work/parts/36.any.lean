set_option maxHeartbeats 4000000 in
set_option maxRecDepth 100000 in
theorem aX12_next_0 (l : Launch) (g : CX) (σ : ST) (hI : INV σ) (F25 : Nat) (eF25 : σ.1 25 = nI F25) (F26 : Nat) (eF26 : σ.1 26 = nI F26) (hh0 : F25 ≤ 200) (hh1 : F26 ≤ 200) : XM l g yX12_next wsX12_next { frames := 3, cells := 0, slots := 0, locals := 71 } [.ref (g.2.1 79)] σ (XQv g (fun σ' => ((∃ a : Nat, σ'.1 26 = nI a ∧ F26 ≤ a ∧ a ≤ 200 ∧ NX σ' ∧ (σ'.1 28 = 3 → F26 < a))) ∧ INV σ' ∧ Fr [(26, 29)] [] σ σ')) := by
  refine x_met (own := RX12) (cc := cX12_next) (maxL := 2) (ret := none) (lv := [(0, .ref (g.2.1 79))]) (by decide) rfl rfl (Nat.le_of_ble_eq_true rfl) rfl ?_
  intro p e s m args below meth c ls E h hl
  have hx := E.1
  have hb := E.2.1
  have hown := E.2.2.2.1
  have hts := E.2.2.2.2.1
  have hF : Fr [(26, 29)] [] σ σ := Fr.refl σ
  have hwX12 : ∀ w ∈ wsX120, w ∈ wsX12_next := by decide +kernel
  have loop0_1 : ∀ (fu : Nat) (t1 : ST) (f1_26 : Nat), INV t1 → Fr [(26, 29)] [] σ t1 → t1.1 25 = nI F25 → t1.1 26 = nI f1_26 → f1_26 ≤ 200 → F26 ≤ f1_26 → 200 - f1_26 < fu → ∀ (H : Heap) (locs : List Loc) (ls : Array Slot), HW g t1 s H locs → lv_has ls 2 [(0, .ref (g.2.1 79))] → W p l e { frames := 3, cells := 0, slots := 0, locals := 71 } s m args below meth c H locs 0 0 (MQ below (XQv g (fun σ' => ((∃ a : Nat, σ'.1 26 = nI a ∧ F26 ≤ a ∧ a ≤ 200 ∧ NX σ' ∧ (σ'.1 28 = 3 → F26 < a))) ∧ INV σ' ∧ Fr [(26, 29)] [] σ σ')) args s 0 0 (Aw g)) (F0 m 0 ls []) := by
    intro fu
    induction fu with
    | zero => intro t1 f1_26 hI_1 hF_1 e2 ef1_26 pp1_0 pp1_1 hm; exact absurd hm (Nat.not_lt_zero _)
    | succ fu ih =>
      have ih1 := ih
      clear ih
      intro t1 f1_26 hI_1 hF_1 e2 ef1_26 pp1_0 pp1_1 hm1 H locs ls h hl
      refine lv_aload_n hx hb dX12_next_0 rfl (lv_at hl 0 rfl) ?_
      refine x_vi E h (na := 0) (As := []) (aX12_here_0 l g t1 hI_1) (oc_mo g) rfl gX12_next_X12_here rfl ⟨rfl, rfl⟩ rfl (by decide +kernel) ⟨Nat.le_of_ble_eq_true rfl, Nat.le_of_ble_eq_true rfl⟩ hl.1 rfl (Nat.le_of_ble_eq_true rfl) dX12_next_1 ⟨Nat.le_of_ble_eq_true rfl, Nat.le_of_ble_eq_true rfl⟩ (fun r3 s3 H locs q3 h => ?_)
      obtain ⟨d3, rfl⟩ := q3
      rcases d3 with rfl | ⟨m3_1a, m3_1T, m3_1n, u3_1_0, u3_1_1, u3_1_2, u3_1_3, u3_1_4, rfl⟩
      · skip
        refine lv_bipush (v := 32) hx hb dX12_next_4 (by decide) ?_
        refine lv_icmp_ne (tgt := 22) hx hb dX12_next_6 (by decide) (fun _ => ?_) (fun c => absurd c (by decide))
        refine lv_aload_n hx hb dX12_next_22 rfl (lv_at hl 0 rfl) ?_
        refine lv_aload_n hx hb dX12_next_23 rfl (lv_at hl 0 rfl) ?_
        refine x_getI E h (fi_mo_at g) rfl hwX12 (by decide) (by decide +kernel) (v := nI f1_26) ef1_26 dX12_next_24 ?_
        refine y_putI E h hI_1 hF_1 (ty := .int) (v := nI f1_26) (fi_mo_start g) rfl hwX12 tyX12_ok nmX12 (by decide) (by decide +kernel) (by decide +kernel) (by decide +kernel) rfl rfl (ba_some rfl (Bd.mk (n := f1_26) (by omega))) rfl dX12_next_27 (fun s4 H locs q4 hI4 hF4 h => ?_)
        have e5 : s4.1 25 = nI F25 := (congrArg (fun t : ST => t.1 25) q4).trans e2
        have e6 : s4.1 26 = nI f1_26 := (congrArg (fun t : ST => t.1 26) q4).trans ef1_26
        have e7 : s4.1 27 = nI f1_26 := congrArg (fun t : ST => t.1 27) q4
        refine lv_aload_n hx hb dX12_next_30 rfl (lv_at hl 0 rfl) ?_
        refine lv_iconst (v := 0) hx hb dX12_next_31 (by decide) ?_
        refine y_putI E h hI4 hF4 (ty := .int) (v := 0) (fi_mo_value g) rfl hwX12 tyX12_ok nmX12 (by decide) (by decide +kernel) (by decide +kernel) (by decide +kernel) rfl rfl (ba_none rfl) rfl dX12_next_32 (fun s8 H locs q8 hI8 hF8 h => ?_)
        have e9 : s8.1 25 = nI F25 := (congrArg (fun t : ST => t.1 25) q8).trans e5
        have e10 : s8.1 26 = nI f1_26 := (congrArg (fun t : ST => t.1 26) q8).trans e6
        have e11 : s8.1 27 = nI f1_26 := (congrArg (fun t : ST => t.1 27) q8).trans e7
        have e12 : s8.1 29 = 0 := congrArg (fun t : ST => t.1 29) q8
        refine lv_aload_n hx hb dX12_next_35 rfl (lv_at hl 0 rfl) ?_
        refine x_vi E h (na := 0) (As := []) (aX12_here_0 l g s8 hI8) (oc_mo g) rfl gX12_next_X12_here rfl ⟨rfl, rfl⟩ rfl (by decide +kernel) ⟨Nat.le_of_ble_eq_true rfl, Nat.le_of_ble_eq_true rfl⟩ hl.1 rfl (Nat.le_of_ble_eq_true rfl) dX12_next_36 ⟨Nat.le_of_ble_eq_true rfl, Nat.le_of_ble_eq_true rfl⟩ (fun r13 s13 H locs q13 h => ?_)
        obtain ⟨d13, rfl⟩ := q13
        rcases d13 with rfl | ⟨m13_1a, m13_1T, m13_1n, u13_1_0, u13_1_1, u13_1_2, u13_1_3, u13_1_4, rfl⟩
        · skip
          refine lv_istore_n (lv' := [(1, .int (-1)), (0, .ref (g.2.1 79))]) hx hb dX12_next_39 rfl hl (by decide) rfl (fun ls hl => ?_)
          refine lv_iload_n hx hb dX12_next_40 rfl (lv_at hl 0 rfl) ?_
          refine lv_if_ge (tgt := 52) hx hb dX12_next_41 (by decide) (fun c => absurd c (by decide)) (fun _ => ?_)
          refine lv_aload_n hx hb dX12_next_44 rfl (lv_at hl 1 rfl) ?_
          refine lv_iconst (v := 0) hx hb dX12_next_45 (by decide) ?_
          refine y_putI E h hI8 hF8 (ty := .int) (v := 0) (fi_mo_sort g) rfl hwX12 tyX12_ok nmX12 (by decide) (by decide +kernel) (by decide +kernel) (by decide +kernel) rfl rfl (ba_none rfl) rfl dX12_next_46 (fun s14 H locs q14 hI14 hF14 h => ?_)
          have e15 : s14.1 25 = nI F25 := (congrArg (fun t : ST => t.1 25) q14).trans e9
          have e16 : s14.1 26 = nI f1_26 := (congrArg (fun t : ST => t.1 26) q14).trans e10
          have e17 : s14.1 27 = nI f1_26 := (congrArg (fun t : ST => t.1 27) q14).trans e11
          have e18 : s14.1 29 = 0 := (congrArg (fun t : ST => t.1 29) q14).trans e12
          have e19 : s14.1 28 = 0 := congrArg (fun t : ST => t.1 28) q14
          refine lv_goto (tgt := 267) hx hb dX12_next_49 (by decide) ?_
          exact x_vret E h ⟨(⟨f1_26, e16, (by omega), (by omega), (fun h9 => absurd (e19.symm.trans h9) (by decide)), (fun h9 => absurd (e19.symm.trans h9) (by decide))⟩), hI14, hF14⟩ dX12_next_267
        · skip
          obtain rfl : f1_26 = m13_1a := y_eq (by omega) (by omega) ((e10).symm.trans u13_1_0)
          obtain rfl : F25 = m13_1T := y_eq (by omega) (by omega) ((e9).symm.trans u13_1_1)
          refine lv_istore_n (lv' := [(1, .int (nI m13_1n)), (0, .ref (g.2.1 79))]) hx hb dX12_next_39 rfl hl (by decide) rfl (fun ls hl => ?_)
          refine lv_iload_n hx hb dX12_next_40 rfl (lv_at hl 0 rfl) ?_
          refine lv_if_ge (tgt := 52) hx hb dX12_next_41 (by decide) (fun _ => ?_) (fun c => absurd (nI_pos' (by omega)) c)
          refine lv_iload_n hx hb dX12_next_52 rfl (lv_at hl 0 rfl) ?_
          refine lv_bipush (v := 97) hx hb dX12_next_53 (by decide) ?_
          refine lv_bipush (v := 122) hx hb dX12_next_55 (by decide) ?_
          refine x_si E h (na := 3) (As := [.int (nI m13_1n), .int 97, .int 122]) (aX12_in_0 l g s8 hI8 (nI m13_1n) 97 122) gX12_next_X12_in rfl ⟨rfl, rfl⟩ rfl (by decide +kernel) ⟨Nat.le_of_ble_eq_true rfl, Nat.le_of_ble_eq_true rfl⟩ hl.1 rfl (Nat.le_of_ble_eq_true rfl) dX12_next_57 ⟨Nat.le_of_ble_eq_true rfl, Nat.le_of_ble_eq_true rfl⟩ (fun r20 s20 H locs q20 h => ?_)
          obtain ⟨d20, rfl⟩ := q20
          rcases d20 with ⟨rfl, u20_0_0, u20_0_1⟩ | ⟨rfl, u20_1_0⟩
          · skip
            have b21 : 97 ≤ m13_1n := y_nlt (a := m13_1n) (b := 97) (by omega) (by omega) u20_0_0
            have b22 : m13_1n ≤ 122 := y_nlt (a := 122) (b := m13_1n) (by omega) (by omega) u20_0_1
            refine lv_if_eq (tgt := 127) hx hb dX12_next_60 (by decide) (fun c => absurd c (by decide)) (fun _ => ?_)
            have loop63_23 : ∀ (fu : Nat) (t23 : ST) (f23_26 : Nat), INV t23 → Fr [(26, 29)] [] σ t23 → t23.1 25 = nI F25 → t23.1 27 = nI f1_26 → t23.1 29 = 0 → t23.1 26 = nI f23_26 → f23_26 ≤ 200 → f1_26 ≤ f23_26 → 200 - f23_26 < fu → ∀ (H : Heap) (locs : List Loc) (ls : Array Slot), HW g t23 s H locs → lv_has ls 2 [(1, .int (nI m13_1n)), (0, .ref (g.2.1 79))] → W p l e { frames := 3, cells := 0, slots := 0, locals := 71 } s m args below meth c H locs 0 0 (MQ below (XQv g (fun σ' => ((∃ a : Nat, σ'.1 26 = nI a ∧ F26 ≤ a ∧ a ≤ 200 ∧ NX σ' ∧ (σ'.1 28 = 3 → F26 < a))) ∧ INV σ' ∧ Fr [(26, 29)] [] σ σ')) args s 0 0 (Aw g)) (F0 m 63 ls []) := by
              intro fu
              induction fu with
              | zero => intro t23 f23_26 hI_23 hF_23 e24 e25 e26 ef23_26 pp23_0 pp23_1 hm; exact absurd hm (Nat.not_lt_zero _)
              | succ fu ih =>
                have ih23 := ih
                clear ih
                intro t23 f23_26 hI_23 hF_23 e24 e25 e26 ef23_26 pp23_0 pp23_1 hm23 H locs ls h hl
                refine lv_aload_n hx hb dX12_next_63 rfl (lv_at hl 1 rfl) ?_
                refine x_vi E h (na := 0) (As := []) (aX12_here_0 l g t23 hI_23) (oc_mo g) rfl gX12_next_X12_here rfl ⟨rfl, rfl⟩ rfl (by decide +kernel) ⟨Nat.le_of_ble_eq_true rfl, Nat.le_of_ble_eq_true rfl⟩ hl.1 rfl (Nat.le_of_ble_eq_true rfl) dX12_next_64 ⟨Nat.le_of_ble_eq_true rfl, Nat.le_of_ble_eq_true rfl⟩ (fun r27 s27 H locs q27 h => ?_)
                obtain ⟨d27, rfl⟩ := q27
                rcases d27 with rfl | ⟨m27_1a, m27_1T, m27_1n, u27_1_0, u27_1_1, u27_1_2, u27_1_3, u27_1_4, rfl⟩
                · skip
                  refine lv_bipush (v := 97) hx hb dX12_next_67 (by decide) ?_
                  refine lv_bipush (v := 122) hx hb dX12_next_69 (by decide) ?_
                  refine x_si E h (na := 3) (As := [.int (-1), .int 97, .int 122]) (aX12_in_0 l g t23 hI_23 (-1) 97 122) gX12_next_X12_in rfl ⟨rfl, rfl⟩ rfl (by decide +kernel) ⟨Nat.le_of_ble_eq_true rfl, Nat.le_of_ble_eq_true rfl⟩ hl.1 rfl (Nat.le_of_ble_eq_true rfl) dX12_next_71 ⟨Nat.le_of_ble_eq_true rfl, Nat.le_of_ble_eq_true rfl⟩ (fun r28 s28 H locs q28 h => ?_)
                  obtain ⟨d28, rfl⟩ := q28
                  rcases d28 with ⟨rfl, u28_0_0, u28_0_1⟩ | ⟨rfl, u28_1_0⟩
                  · skip
                    exact absurd (by decide) u28_0_0
                  · skip
                    refine lv_if_eq (tgt := 90) hx hb dX12_next_74 (by decide) (fun _ => ?_) (fun c => absurd (by decide) c)
                    refine lv_aload_n hx hb dX12_next_90 rfl (lv_at hl 1 rfl) ?_
                    refine lv_aload_n hx hb dX12_next_91 rfl (lv_at hl 1 rfl) ?_
                    refine lv_aload_n hx hb dX12_next_92 rfl (lv_at hl 1 rfl) ?_
                    refine x_getI E h (fi_mo_start g) rfl hwX12 (by decide) (by decide +kernel) (v := nI f1_26) e25 dX12_next_93 ?_
                    refine lv_aload_n hx hb dX12_next_96 rfl (lv_at hl 1 rfl) ?_
                    refine x_getI E h (fi_mo_at g) rfl hwX12 (by decide) (by decide +kernel) (v := nI f23_26) ef23_26 dX12_next_97 ?_
                    refine x_vi E h (na := 2) (As := [.int (nI f1_26), .int (nI f23_26)]) (aX12_wordOf_0 l g t23 hI_23 f1_26 f23_26 (by omega) (by omega)) (oc_mo g) rfl gX12_next_X12_wordOf rfl ⟨rfl, rfl⟩ rfl (by decide +kernel) ⟨Nat.le_of_ble_eq_true rfl, Nat.le_of_ble_eq_true rfl⟩ hl.1 rfl (Nat.le_of_ble_eq_true rfl) dX12_next_100 ⟨Nat.le_of_ble_eq_true rfl, Nat.le_of_ble_eq_true rfl⟩ (fun r29 s29 H locs q29 h => ?_)
                    obtain ⟨d29, rfl⟩ := q29
                    refine y_putI E h hI_23 hF_23 (ty := .int) (v := r29) (fi_mo_value g) rfl hwX12 tyX12_ok nmX12 (by decide) (by decide +kernel) (by decide +kernel) (by decide +kernel) rfl rfl (ba_none rfl) rfl dX12_next_103 (fun s30 H locs q30 hI30 hF30 h => ?_)
                    have e31 : s30.1 25 = nI F25 := (congrArg (fun t : ST => t.1 25) q30).trans e24
                    have e32 : s30.1 27 = nI f1_26 := (congrArg (fun t : ST => t.1 27) q30).trans e25
                    have e33 : s30.1 26 = nI f23_26 := (congrArg (fun t : ST => t.1 26) q30).trans ef23_26
                    have e34 : s30.1 29 = r29 := congrArg (fun t : ST => t.1 29) q30
                    refine lv_aload_n hx hb dX12_next_106 rfl (lv_at hl 1 rfl) ?_
                    refine lv_aload_n hx hb dX12_next_107 rfl (lv_at hl 1 rfl) ?_
                    refine x_getI E h (fi_mo_value g) rfl hwX12 (by decide) (by decide +kernel) (v := r29) e34 dX12_next_108 ?_
                    refine lv_bipush (v := (-9)) hx hb dX12_next_111 (by decide) ?_
                    refine lv_icmp_ne (tgt := 120) hx hb dX12_next_113 (by decide) (fun c35 => ?_) (fun c35 => ?_)
                    · skip
                      rcases d29 with rfl | ⟨n37, b37, rfl⟩
                      · exact absurd c35 (by decide)
                      refine lv_iconst (v := 1) hx hb dX12_next_120 (by decide) ?_
                      refine y_putI E h hI30 hF30 (ty := .int) (v := 1) (fi_mo_sort g) rfl hwX12 tyX12_ok nmX12 (by decide) (by decide +kernel) (by decide +kernel) (by decide +kernel) rfl rfl (ba_none rfl) rfl dX12_next_121 (fun s38 H locs q38 hI38 hF38 h => ?_)
                      have e39 : s38.1 25 = nI F25 := (congrArg (fun t : ST => t.1 25) q38).trans e31
                      have e40 : s38.1 27 = nI f1_26 := (congrArg (fun t : ST => t.1 27) q38).trans e32
                      have e41 : s38.1 26 = nI f23_26 := (congrArg (fun t : ST => t.1 26) q38).trans e33
                      have e42 : s38.1 29 = nI n37 := (congrArg (fun t : ST => t.1 29) q38).trans e34
                      have e43 : s38.1 28 = 1 := congrArg (fun t : ST => t.1 28) q38
                      refine lv_goto (tgt := 267) hx hb dX12_next_124 (by decide) ?_
                      exact x_vret E h ⟨(⟨f23_26, e41, (by omega), (by omega), (fun _ => ⟨n37, by omega, e42⟩), (fun h9 => absurd (e43.symm.trans h9) (by decide))⟩), hI38, hF38⟩ dX12_next_267
                    · skip
                      subst c35
                      refine lv_iconst (v := 4) hx hb dX12_next_116 (by decide) ?_
                      refine lv_goto (tgt := 121) hx hb dX12_next_117 (by decide) ?_
                      refine y_putI E h hI30 hF30 (ty := .int) (v := 4) (fi_mo_sort g) rfl hwX12 tyX12_ok nmX12 (by decide) (by decide +kernel) (by decide +kernel) (by decide +kernel) rfl rfl (ba_none rfl) rfl dX12_next_121 (fun s45 H locs q45 hI45 hF45 h => ?_)
                      have e46 : s45.1 25 = nI F25 := (congrArg (fun t : ST => t.1 25) q45).trans e31
                      have e47 : s45.1 27 = nI f1_26 := (congrArg (fun t : ST => t.1 27) q45).trans e32
                      have e48 : s45.1 26 = nI f23_26 := (congrArg (fun t : ST => t.1 26) q45).trans e33
                      have e49 : s45.1 29 = (-9) := (congrArg (fun t : ST => t.1 29) q45).trans e34
                      have e50 : s45.1 28 = 4 := congrArg (fun t : ST => t.1 28) q45
                      refine lv_goto (tgt := 267) hx hb dX12_next_124 (by decide) ?_
                      exact x_vret E h ⟨(⟨f23_26, e48, (by omega), (by omega), (fun h9 => absurd (e50.symm.trans h9) (by decide)), (fun h9 => absurd (e50.symm.trans h9) (by decide))⟩), hI45, hF45⟩ dX12_next_267
                · skip
                  obtain rfl : f23_26 = m27_1a := y_eq (by omega) (by omega) ((ef23_26).symm.trans u27_1_0)
                  obtain rfl : F25 = m27_1T := y_eq (by omega) (by omega) ((e24).symm.trans u27_1_1)
                  refine lv_bipush (v := 97) hx hb dX12_next_67 (by decide) ?_
                  refine lv_bipush (v := 122) hx hb dX12_next_69 (by decide) ?_
                  refine x_si E h (na := 3) (As := [.int (nI m27_1n), .int 97, .int 122]) (aX12_in_0 l g t23 hI_23 (nI m27_1n) 97 122) gX12_next_X12_in rfl ⟨rfl, rfl⟩ rfl (by decide +kernel) ⟨Nat.le_of_ble_eq_true rfl, Nat.le_of_ble_eq_true rfl⟩ hl.1 rfl (Nat.le_of_ble_eq_true rfl) dX12_next_71 ⟨Nat.le_of_ble_eq_true rfl, Nat.le_of_ble_eq_true rfl⟩ (fun r51 s51 H locs q51 h => ?_)
                  obtain ⟨d51, rfl⟩ := q51
                  rcases d51 with ⟨rfl, u51_0_0, u51_0_1⟩ | ⟨rfl, u51_1_0⟩
                  · skip
                    have b52 : 97 ≤ m27_1n := y_nlt (a := m27_1n) (b := 97) (by omega) (by omega) u51_0_0
                    have b53 : m27_1n ≤ 122 := y_nlt (a := 122) (b := m27_1n) (by omega) (by omega) u51_0_1
                    refine lv_if_eq (tgt := 90) hx hb dX12_next_74 (by decide) (fun c => absurd c (by decide)) (fun _ => ?_)
                    refine lv_aload_n hx hb dX12_next_77 rfl (lv_at hl 1 rfl) ?_
                    refine lv_dup hx hb dX12_next_78 rfl ?_
                    refine x_getI E h (fi_mo_at g) rfl hwX12 (by decide) (by decide +kernel) (v := nI f23_26) ef23_26 dX12_next_79 ?_
                    refine lv_iconst (v := 1) hx hb dX12_next_82 (by decide) ?_
                    refine lv_iadd hx hb dX12_next_83 ?_
                    refine x_topI (v2 := nI (f23_26 + 1)) (nI_add f23_26 1) ?_
                    refine y_putI E h hI_23 hF_23 (ty := .int) (v := nI (f23_26 + 1)) (fi_mo_at g) rfl hwX12 tyX12_ok nmX12 (by decide) (by decide +kernel) (by decide +kernel) (by decide +kernel) rfl rfl (ba_some rfl (Bd.mk (n := (f23_26 + 1)) (by omega))) rfl dX12_next_84 (fun s54 H locs q54 hI54 hF54 h => ?_)
                    have e55 : s54.1 25 = nI F25 := (congrArg (fun t : ST => t.1 25) q54).trans e24
                    have e56 : s54.1 27 = nI f1_26 := (congrArg (fun t : ST => t.1 27) q54).trans e25
                    have e57 : s54.1 29 = 0 := (congrArg (fun t : ST => t.1 29) q54).trans e26
                    have e58 : s54.1 26 = nI (f23_26 + 1) := congrArg (fun t : ST => t.1 26) q54
                    refine lv_goto (tgt := 63) hx hb dX12_next_87 (by decide) ?_
                    exact ih23 s54 (f23_26 + 1) hI54 hF54 e55 e56 e57 e58 (by omega) (by omega) (by omega) _ _ _ h (lv_sub hl [0, 1] rfl)
                  · skip
                    refine lv_if_eq (tgt := 90) hx hb dX12_next_74 (by decide) (fun _ => ?_) (fun c => absurd (by decide) c)
                    refine lv_aload_n hx hb dX12_next_90 rfl (lv_at hl 1 rfl) ?_
                    refine lv_aload_n hx hb dX12_next_91 rfl (lv_at hl 1 rfl) ?_
                    refine lv_aload_n hx hb dX12_next_92 rfl (lv_at hl 1 rfl) ?_
                    refine x_getI E h (fi_mo_start g) rfl hwX12 (by decide) (by decide +kernel) (v := nI f1_26) e25 dX12_next_93 ?_
                    refine lv_aload_n hx hb dX12_next_96 rfl (lv_at hl 1 rfl) ?_
                    refine x_getI E h (fi_mo_at g) rfl hwX12 (by decide) (by decide +kernel) (v := nI f23_26) ef23_26 dX12_next_97 ?_
                    refine x_vi E h (na := 2) (As := [.int (nI f1_26), .int (nI f23_26)]) (aX12_wordOf_0 l g t23 hI_23 f1_26 f23_26 (by omega) (by omega)) (oc_mo g) rfl gX12_next_X12_wordOf rfl ⟨rfl, rfl⟩ rfl (by decide +kernel) ⟨Nat.le_of_ble_eq_true rfl, Nat.le_of_ble_eq_true rfl⟩ hl.1 rfl (Nat.le_of_ble_eq_true rfl) dX12_next_100 ⟨Nat.le_of_ble_eq_true rfl, Nat.le_of_ble_eq_true rfl⟩ (fun r59 s59 H locs q59 h => ?_)
                    obtain ⟨d59, rfl⟩ := q59
                    refine y_putI E h hI_23 hF_23 (ty := .int) (v := r59) (fi_mo_value g) rfl hwX12 tyX12_ok nmX12 (by decide) (by decide +kernel) (by decide +kernel) (by decide +kernel) rfl rfl (ba_none rfl) rfl dX12_next_103 (fun s60 H locs q60 hI60 hF60 h => ?_)
                    have e61 : s60.1 25 = nI F25 := (congrArg (fun t : ST => t.1 25) q60).trans e24
                    have e62 : s60.1 27 = nI f1_26 := (congrArg (fun t : ST => t.1 27) q60).trans e25
                    have e63 : s60.1 26 = nI f23_26 := (congrArg (fun t : ST => t.1 26) q60).trans ef23_26
                    have e64 : s60.1 29 = r59 := congrArg (fun t : ST => t.1 29) q60
                    refine lv_aload_n hx hb dX12_next_106 rfl (lv_at hl 1 rfl) ?_
                    refine lv_aload_n hx hb dX12_next_107 rfl (lv_at hl 1 rfl) ?_
                    refine x_getI E h (fi_mo_value g) rfl hwX12 (by decide) (by decide +kernel) (v := r59) e64 dX12_next_108 ?_
                    refine lv_bipush (v := (-9)) hx hb dX12_next_111 (by decide) ?_
                    refine lv_icmp_ne (tgt := 120) hx hb dX12_next_113 (by decide) (fun c65 => ?_) (fun c65 => ?_)
                    · skip
                      rcases d59 with rfl | ⟨n67, b67, rfl⟩
                      · exact absurd c65 (by decide)
                      refine lv_iconst (v := 1) hx hb dX12_next_120 (by decide) ?_
                      refine y_putI E h hI60 hF60 (ty := .int) (v := 1) (fi_mo_sort g) rfl hwX12 tyX12_ok nmX12 (by decide) (by decide +kernel) (by decide +kernel) (by decide +kernel) rfl rfl (ba_none rfl) rfl dX12_next_121 (fun s68 H locs q68 hI68 hF68 h => ?_)
                      have e69 : s68.1 25 = nI F25 := (congrArg (fun t : ST => t.1 25) q68).trans e61
                      have e70 : s68.1 27 = nI f1_26 := (congrArg (fun t : ST => t.1 27) q68).trans e62
                      have e71 : s68.1 26 = nI f23_26 := (congrArg (fun t : ST => t.1 26) q68).trans e63
                      have e72 : s68.1 29 = nI n67 := (congrArg (fun t : ST => t.1 29) q68).trans e64
                      have e73 : s68.1 28 = 1 := congrArg (fun t : ST => t.1 28) q68
                      refine lv_goto (tgt := 267) hx hb dX12_next_124 (by decide) ?_
                      exact x_vret E h ⟨(⟨f23_26, e71, (by omega), (by omega), (fun _ => ⟨n67, by omega, e72⟩), (fun h9 => absurd (e73.symm.trans h9) (by decide))⟩), hI68, hF68⟩ dX12_next_267
                    · skip
                      subst c65
                      refine lv_iconst (v := 4) hx hb dX12_next_116 (by decide) ?_
                      refine lv_goto (tgt := 121) hx hb dX12_next_117 (by decide) ?_
                      refine y_putI E h hI60 hF60 (ty := .int) (v := 4) (fi_mo_sort g) rfl hwX12 tyX12_ok nmX12 (by decide) (by decide +kernel) (by decide +kernel) (by decide +kernel) rfl rfl (ba_none rfl) rfl dX12_next_121 (fun s75 H locs q75 hI75 hF75 h => ?_)
                      have e76 : s75.1 25 = nI F25 := (congrArg (fun t : ST => t.1 25) q75).trans e61
                      have e77 : s75.1 27 = nI f1_26 := (congrArg (fun t : ST => t.1 27) q75).trans e62
                      have e78 : s75.1 26 = nI f23_26 := (congrArg (fun t : ST => t.1 26) q75).trans e63
                      have e79 : s75.1 29 = (-9) := (congrArg (fun t : ST => t.1 29) q75).trans e64
                      have e80 : s75.1 28 = 4 := congrArg (fun t : ST => t.1 28) q75
                      refine lv_goto (tgt := 267) hx hb dX12_next_124 (by decide) ?_
                      exact x_vret E h ⟨(⟨f23_26, e78, (by omega), (by omega), (fun h9 => absurd (e80.symm.trans h9) (by decide)), (fun h9 => absurd (e80.symm.trans h9) (by decide))⟩), hI75, hF75⟩ dX12_next_267
            exact loop63_23 _ s8 f1_26 hI8 hF8 e9 e11 e12 e10 (by omega) (by omega) (Nat.lt_succ_self _) _ _ _ h (lv_sub hl [0, 1] rfl)
          · skip
            refine lv_if_eq (tgt := 127) hx hb dX12_next_60 (by decide) (fun _ => ?_) (fun c => absurd (by decide) c)
            refine lv_iload_n hx hb dX12_next_127 rfl (lv_at hl 0 rfl) ?_
            refine lv_bipush (v := 48) hx hb dX12_next_128 (by decide) ?_
            refine lv_bipush (v := 57) hx hb dX12_next_130 (by decide) ?_
            refine x_si E h (na := 3) (As := [.int (nI m13_1n), .int 48, .int 57]) (aX12_in_0 l g s8 hI8 (nI m13_1n) 48 57) gX12_next_X12_in rfl ⟨rfl, rfl⟩ rfl (by decide +kernel) ⟨Nat.le_of_ble_eq_true rfl, Nat.le_of_ble_eq_true rfl⟩ hl.1 rfl (Nat.le_of_ble_eq_true rfl) dX12_next_132 ⟨Nat.le_of_ble_eq_true rfl, Nat.le_of_ble_eq_true rfl⟩ (fun r81 s81 H locs q81 h => ?_)
            obtain ⟨d81, rfl⟩ := q81
            rcases d81 with ⟨rfl, u81_0_0, u81_0_1⟩ | ⟨rfl, u81_1_0⟩
            · skip
              have b82 : 48 ≤ m13_1n := y_nlt (a := m13_1n) (b := 48) (by omega) (by omega) u81_0_0
              have b83 : m13_1n ≤ 57 := y_nlt (a := 57) (b := m13_1n) (by omega) (by omega) u81_0_1
              refine lv_if_eq (tgt := 242) hx hb dX12_next_135 (by decide) (fun c => absurd c (by decide)) (fun _ => ?_)
              have loop138_84 : ∀ (fu : Nat) (t84 : ST) (f84_26 : Nat), INV t84 → Fr [(26, 29)] [] σ t84 → t84.1 25 = nI F25 → t84.1 27 = nI f1_26 → t84.1 26 = nI f84_26 → f84_26 ≤ 200 → f1_26 ≤ f84_26 → 200 - f84_26 < fu → ∀ (H : Heap) (locs : List Loc) (ls : Array Slot), HW g t84 s H locs → lv_has ls 2 [(1, .int (nI m13_1n)), (0, .ref (g.2.1 79))] → W p l e { frames := 3, cells := 0, slots := 0, locals := 71 } s m args below meth c H locs 0 0 (MQ below (XQv g (fun σ' => ((∃ a : Nat, σ'.1 26 = nI a ∧ F26 ≤ a ∧ a ≤ 200 ∧ NX σ' ∧ (σ'.1 28 = 3 → F26 < a))) ∧ INV σ' ∧ Fr [(26, 29)] [] σ σ')) args s 0 0 (Aw g)) (F0 m 138 ls []) := by
                intro fu
                induction fu with
                | zero => intro t84 f84_26 hI_84 hF_84 e85 e86 ef84_26 pp84_0 pp84_1 hm; exact absurd hm (Nat.not_lt_zero _)
                | succ fu ih =>
                  have ih84 := ih
                  clear ih
                  intro t84 f84_26 hI_84 hF_84 e85 e86 ef84_26 pp84_0 pp84_1 hm84 H locs ls h hl
                  refine lv_aload_n hx hb dX12_next_138 rfl (lv_at hl 1 rfl) ?_
                  refine x_vi E h (na := 0) (As := []) (aX12_here_0 l g t84 hI_84) (oc_mo g) rfl gX12_next_X12_here rfl ⟨rfl, rfl⟩ rfl (by decide +kernel) ⟨Nat.le_of_ble_eq_true rfl, Nat.le_of_ble_eq_true rfl⟩ hl.1 rfl (Nat.le_of_ble_eq_true rfl) dX12_next_139 ⟨Nat.le_of_ble_eq_true rfl, Nat.le_of_ble_eq_true rfl⟩ (fun r87 s87 H locs q87 h => ?_)
                  obtain ⟨d87, rfl⟩ := q87
                  rcases d87 with rfl | ⟨m87_1a, m87_1T, m87_1n, u87_1_0, u87_1_1, u87_1_2, u87_1_3, u87_1_4, rfl⟩
                  · skip
                    refine lv_bipush (v := 48) hx hb dX12_next_142 (by decide) ?_
                    refine lv_bipush (v := 57) hx hb dX12_next_144 (by decide) ?_
                    refine x_si E h (na := 3) (As := [.int (-1), .int 48, .int 57]) (aX12_in_0 l g t84 hI_84 (-1) 48 57) gX12_next_X12_in rfl ⟨rfl, rfl⟩ rfl (by decide +kernel) ⟨Nat.le_of_ble_eq_true rfl, Nat.le_of_ble_eq_true rfl⟩ hl.1 rfl (Nat.le_of_ble_eq_true rfl) dX12_next_146 ⟨Nat.le_of_ble_eq_true rfl, Nat.le_of_ble_eq_true rfl⟩ (fun r88 s88 H locs q88 h => ?_)
                    obtain ⟨d88, rfl⟩ := q88
                    rcases d88 with ⟨rfl, u88_0_0, u88_0_1⟩ | ⟨rfl, u88_1_0⟩
                    · skip
                      exact absurd (by decide) u88_0_0
                    · skip
                      refine lv_if_eq (tgt := 201) hx hb dX12_next_149 (by decide) (fun _ => ?_) (fun c => absurd (by decide) c)
                      refine lv_aload_n hx hb dX12_next_201 rfl (lv_at hl 1 rfl) ?_
                      refine lv_aload_n hx hb dX12_next_202 rfl (lv_at hl 1 rfl) ?_
                      obtain ⟨x89, e89⟩ : ∃ x, t84.1 29 = x := ⟨_, rfl⟩
                      refine x_getI E h (fi_mo_value g) rfl hwX12 (by decide) (by decide +kernel) (v := x89) e89 dX12_next_203 ?_
                      refine lv_sipush (v := 9999) hx hb dX12_next_206 (by decide) ?_
                      refine lv_icmp_gt (tgt := 231) hx hb dX12_next_209 (by decide) (fun c90 => ?_) (fun c90 => ?_)
                      · skip
                        refine lv_iconst (v := 4) hx hb dX12_next_231 (by decide) ?_
                        refine lv_goto (tgt := 236) hx hb dX12_next_232 (by decide) ?_
                        refine y_putI E h hI_84 hF_84 (ty := .int) (v := 4) (fi_mo_sort g) rfl hwX12 tyX12_ok nmX12 (by decide) (by decide +kernel) (by decide +kernel) (by decide +kernel) rfl rfl (ba_none rfl) rfl dX12_next_236 (fun s92 H locs q92 hI92 hF92 h => ?_)
                        have e93 : s92.1 25 = nI F25 := (congrArg (fun t : ST => t.1 25) q92).trans e85
                        have e94 : s92.1 27 = nI f1_26 := (congrArg (fun t : ST => t.1 27) q92).trans e86
                        have e95 : s92.1 26 = nI f84_26 := (congrArg (fun t : ST => t.1 26) q92).trans ef84_26
                        have e96 : s92.1 29 = x89 := (congrArg (fun t : ST => t.1 29) q92).trans e89
                        have e97 : s92.1 28 = 4 := congrArg (fun t : ST => t.1 28) q92
                        refine lv_goto (tgt := 267) hx hb dX12_next_239 (by decide) ?_
                        exact x_vret E h ⟨(⟨f84_26, e95, (by omega), (by omega), (fun h9 => absurd (e97.symm.trans h9) (by decide)), (fun h9 => absurd (e97.symm.trans h9) (by decide))⟩), hI92, hF92⟩ dX12_next_267
                      · skip
                        refine lv_iload_n hx hb dX12_next_212 rfl (lv_at hl 0 rfl) ?_
                        refine lv_bipush (v := 48) hx hb dX12_next_213 (by decide) ?_
                        refine lv_icmp_ne (tgt := 235) hx hb dX12_next_215 (by decide) (fun c99 => ?_) (fun c99 => ?_)
                        · skip
                          have b100 : ¬ m13_1n = 48 := y_ne (a := m13_1n) (b := 48) (by omega) (by omega) c99
                          refine lv_iconst (v := 2) hx hb dX12_next_235 (by decide) ?_
                          refine y_putI E h hI_84 hF_84 (ty := .int) (v := 2) (fi_mo_sort g) rfl hwX12 tyX12_ok nmX12 (by decide) (by decide +kernel) (by decide +kernel) (by decide +kernel) rfl rfl (ba_none rfl) rfl dX12_next_236 (fun s101 H locs q101 hI101 hF101 h => ?_)
                          have e102 : s101.1 25 = nI F25 := (congrArg (fun t : ST => t.1 25) q101).trans e85
                          have e103 : s101.1 27 = nI f1_26 := (congrArg (fun t : ST => t.1 27) q101).trans e86
                          have e104 : s101.1 26 = nI f84_26 := (congrArg (fun t : ST => t.1 26) q101).trans ef84_26
                          have e105 : s101.1 29 = x89 := (congrArg (fun t : ST => t.1 29) q101).trans e89
                          have e106 : s101.1 28 = 2 := congrArg (fun t : ST => t.1 28) q101
                          refine lv_goto (tgt := 267) hx hb dX12_next_239 (by decide) ?_
                          exact x_vret E h ⟨(⟨f84_26, e104, (by omega), (by omega), (fun h9 => absurd (e106.symm.trans h9) (by decide)), (fun h9 => absurd (e106.symm.trans h9) (by decide))⟩), hI101, hF101⟩ dX12_next_267
                        · skip
                          have b107 : m13_1n = 48 := y_eq (a := m13_1n) (b := 48) (by omega) (by omega) c99
                          refine lv_aload_n hx hb dX12_next_218 rfl (lv_at hl 1 rfl) ?_
                          refine x_getI E h (fi_mo_at g) rfl hwX12 (by decide) (by decide +kernel) (v := nI f84_26) ef84_26 dX12_next_219 ?_
                          refine lv_aload_n hx hb dX12_next_222 rfl (lv_at hl 1 rfl) ?_
                          refine x_getI E h (fi_mo_start g) rfl hwX12 (by decide) (by decide +kernel) (v := nI f1_26) e86 dX12_next_223 ?_
                          refine lv_isub hx hb dX12_next_226 ?_
                          refine lv_iconst (v := 1) hx hb dX12_next_227 (by decide) ?_
                          refine lv_icmp_le (tgt := 235) hx hb dX12_next_228 (by decide) (fun c108 => ?_) (fun c108 => ?_)
                          · skip
                            refine lv_iconst (v := 2) hx hb dX12_next_235 (by decide) ?_
                            refine y_putI E h hI_84 hF_84 (ty := .int) (v := 2) (fi_mo_sort g) rfl hwX12 tyX12_ok nmX12 (by decide) (by decide +kernel) (by decide +kernel) (by decide +kernel) rfl rfl (ba_none rfl) rfl dX12_next_236 (fun s110 H locs q110 hI110 hF110 h => ?_)
                            have e111 : s110.1 25 = nI F25 := (congrArg (fun t : ST => t.1 25) q110).trans e85
                            have e112 : s110.1 27 = nI f1_26 := (congrArg (fun t : ST => t.1 27) q110).trans e86
                            have e113 : s110.1 26 = nI f84_26 := (congrArg (fun t : ST => t.1 26) q110).trans ef84_26
                            have e114 : s110.1 29 = x89 := (congrArg (fun t : ST => t.1 29) q110).trans e89
                            have e115 : s110.1 28 = 2 := congrArg (fun t : ST => t.1 28) q110
                            refine lv_goto (tgt := 267) hx hb dX12_next_239 (by decide) ?_
                            exact x_vret E h ⟨(⟨f84_26, e113, (by omega), (by omega), (fun h9 => absurd (e115.symm.trans h9) (by decide)), (fun h9 => absurd (e115.symm.trans h9) (by decide))⟩), hI110, hF110⟩ dX12_next_267
                          · skip
                            refine lv_iconst (v := 4) hx hb dX12_next_231 (by decide) ?_
                            refine lv_goto (tgt := 236) hx hb dX12_next_232 (by decide) ?_
                            refine y_putI E h hI_84 hF_84 (ty := .int) (v := 4) (fi_mo_sort g) rfl hwX12 tyX12_ok nmX12 (by decide) (by decide +kernel) (by decide +kernel) (by decide +kernel) rfl rfl (ba_none rfl) rfl dX12_next_236 (fun s117 H locs q117 hI117 hF117 h => ?_)
                            have e118 : s117.1 25 = nI F25 := (congrArg (fun t : ST => t.1 25) q117).trans e85
                            have e119 : s117.1 27 = nI f1_26 := (congrArg (fun t : ST => t.1 27) q117).trans e86
                            have e120 : s117.1 26 = nI f84_26 := (congrArg (fun t : ST => t.1 26) q117).trans ef84_26
                            have e121 : s117.1 29 = x89 := (congrArg (fun t : ST => t.1 29) q117).trans e89
                            have e122 : s117.1 28 = 4 := congrArg (fun t : ST => t.1 28) q117
                            refine lv_goto (tgt := 267) hx hb dX12_next_239 (by decide) ?_
                            exact x_vret E h ⟨(⟨f84_26, e120, (by omega), (by omega), (fun h9 => absurd (e122.symm.trans h9) (by decide)), (fun h9 => absurd (e122.symm.trans h9) (by decide))⟩), hI117, hF117⟩ dX12_next_267
                  · skip
                    obtain rfl : f84_26 = m87_1a := y_eq (by omega) (by omega) ((ef84_26).symm.trans u87_1_0)
                    obtain rfl : F25 = m87_1T := y_eq (by omega) (by omega) ((e85).symm.trans u87_1_1)
                    refine lv_bipush (v := 48) hx hb dX12_next_142 (by decide) ?_
                    refine lv_bipush (v := 57) hx hb dX12_next_144 (by decide) ?_
                    refine x_si E h (na := 3) (As := [.int (nI m87_1n), .int 48, .int 57]) (aX12_in_0 l g t84 hI_84 (nI m87_1n) 48 57) gX12_next_X12_in rfl ⟨rfl, rfl⟩ rfl (by decide +kernel) ⟨Nat.le_of_ble_eq_true rfl, Nat.le_of_ble_eq_true rfl⟩ hl.1 rfl (Nat.le_of_ble_eq_true rfl) dX12_next_146 ⟨Nat.le_of_ble_eq_true rfl, Nat.le_of_ble_eq_true rfl⟩ (fun r123 s123 H locs q123 h => ?_)
                    obtain ⟨d123, rfl⟩ := q123
                    rcases d123 with ⟨rfl, u123_0_0, u123_0_1⟩ | ⟨rfl, u123_1_0⟩
                    · skip
                      have b124 : 48 ≤ m87_1n := y_nlt (a := m87_1n) (b := 48) (by omega) (by omega) u123_0_0
                      have b125 : m87_1n ≤ 57 := y_nlt (a := 57) (b := m87_1n) (by omega) (by omega) u123_0_1
                      refine lv_if_eq (tgt := 201) hx hb dX12_next_149 (by decide) (fun c => absurd c (by decide)) (fun _ => ?_)
                      refine lv_aload_n hx hb dX12_next_152 rfl (lv_at hl 1 rfl) ?_
                      refine lv_aload_n hx hb dX12_next_153 rfl (lv_at hl 1 rfl) ?_
                      obtain ⟨x126, e126⟩ : ∃ x, t84.1 29 = x := ⟨_, rfl⟩
                      refine x_getI E h (fi_mo_value g) rfl hwX12 (by decide) (by decide +kernel) (v := x126) e126 dX12_next_154 ?_
                      refine lv_sipush (v := 9999) hx hb dX12_next_157 (by decide) ?_
                      have j185_133 : ∀ (y133_s0 : Int32), ∀ (H : Heap) (locs : List Loc) (ls : Array Slot), HW g t84 s H locs → lv_has ls 2 [(1, .int (nI m13_1n)), (0, .ref (g.2.1 79))] → W p l e { frames := 3, cells := 0, slots := 0, locals := 71 } s m args below meth c H locs 0 0 (MQ below (XQv g (fun σ' => ((∃ a : Nat, σ'.1 26 = nI a ∧ F26 ≤ a ∧ a ≤ 200 ∧ NX σ' ∧ (σ'.1 28 = 3 → F26 < a))) ∧ INV σ' ∧ Fr [(26, 29)] [] σ σ')) args s 0 0 (Aw g)) (F0 m 185 ls [.int y133_s0, .ref (g.2.1 79)]) := by
                        intro y133_s0 H locs ls h hl
                        refine y_putI E h hI_84 hF_84 (ty := .int) (v := y133_s0) (fi_mo_value g) rfl hwX12 tyX12_ok nmX12 (by decide) (by decide +kernel) (by decide +kernel) (by decide +kernel) rfl rfl (ba_none rfl) rfl dX12_next_185 (fun s134 H locs q134 hI134 hF134 h => ?_)
                        have e135 : s134.1 25 = nI F25 := (congrArg (fun t : ST => t.1 25) q134).trans e85
                        have e136 : s134.1 27 = nI f1_26 := (congrArg (fun t : ST => t.1 27) q134).trans e86
                        have e137 : s134.1 26 = nI f84_26 := (congrArg (fun t : ST => t.1 26) q134).trans ef84_26
                        have e138 : s134.1 29 = y133_s0 := congrArg (fun t : ST => t.1 29) q134
                        refine lv_aload_n hx hb dX12_next_188 rfl (lv_at hl 1 rfl) ?_
                        refine lv_dup hx hb dX12_next_189 rfl ?_
                        refine x_getI E h (fi_mo_at g) rfl hwX12 (by decide) (by decide +kernel) (v := nI f84_26) e137 dX12_next_190 ?_
                        refine lv_iconst (v := 1) hx hb dX12_next_193 (by decide) ?_
                        refine lv_iadd hx hb dX12_next_194 ?_
                        refine x_topI (v2 := nI (f84_26 + 1)) (nI_add f84_26 1) ?_
                        refine y_putI E h hI134 hF134 (ty := .int) (v := nI (f84_26 + 1)) (fi_mo_at g) rfl hwX12 tyX12_ok nmX12 (by decide) (by decide +kernel) (by decide +kernel) (by decide +kernel) rfl rfl (ba_some rfl (Bd.mk (n := (f84_26 + 1)) (by omega))) rfl dX12_next_195 (fun s139 H locs q139 hI139 hF139 h => ?_)
                        have e140 : s139.1 25 = nI F25 := (congrArg (fun t : ST => t.1 25) q139).trans e135
                        have e141 : s139.1 27 = nI f1_26 := (congrArg (fun t : ST => t.1 27) q139).trans e136
                        have e142 : s139.1 29 = y133_s0 := (congrArg (fun t : ST => t.1 29) q139).trans e138
                        have e143 : s139.1 26 = nI (f84_26 + 1) := congrArg (fun t : ST => t.1 26) q139
                        refine lv_goto (tgt := 138) hx hb dX12_next_198 (by decide) ?_
                        exact ih84 s139 (f84_26 + 1) hI139 hF139 e140 e141 e143 (by omega) (by omega) (by omega) _ _ _ h (lv_sub hl [0, 1] rfl)
                      refine lv_icmp_le (tgt := 170) hx hb dX12_next_160 (by decide) (fun c127 => ?_) (fun c127 => ?_)
                      · skip
                        refine lv_bipush (v := 10) hx hb dX12_next_170 (by decide) ?_
                        refine lv_aload_n hx hb dX12_next_172 rfl (lv_at hl 1 rfl) ?_
                        refine x_getI E h (fi_mo_value g) rfl hwX12 (by decide) (by decide +kernel) (v := x126) e126 dX12_next_173 ?_
                        refine lv_imul hx hb dX12_next_176 ?_
                        refine lv_topi (fun x129 e129 => ?_)
                        refine lv_aload_n hx hb dX12_next_177 rfl (lv_at hl 1 rfl) ?_
                        refine x_vi E h (na := 0) (As := []) (aX12_here_0 l g t84 hI_84) (oc_mo g) rfl gX12_next_X12_here rfl ⟨rfl, rfl⟩ rfl (by decide +kernel) ⟨Nat.le_of_ble_eq_true rfl, Nat.le_of_ble_eq_true rfl⟩ hl.1 rfl (Nat.le_of_ble_eq_true rfl) dX12_next_178 ⟨Nat.le_of_ble_eq_true rfl, Nat.le_of_ble_eq_true rfl⟩ (fun r130 s130 H locs q130 h => ?_)
                        obtain ⟨d130, rfl⟩ := q130
                        rcases d130 with rfl | ⟨m130_1a, m130_1T, m130_1n, u130_1_0, u130_1_1, u130_1_2, u130_1_3, u130_1_4, rfl⟩
                        · skip
                          refine lv_iadd hx hb dX12_next_181 ?_
                          refine lv_topi (fun x131 e131 => ?_)
                          refine lv_bipush (v := 48) hx hb dX12_next_182 (by decide) ?_
                          refine lv_isub hx hb dX12_next_184 ?_
                          refine lv_topi (fun x132 e132 => ?_)
                          exact j185_133 x132 _ _ _ h (lv_sub hl [0, 1] rfl)
                        · skip
                          obtain rfl : f84_26 = m130_1a := y_eq (by omega) (by omega) ((ef84_26).symm.trans u130_1_0)
                          obtain rfl : F25 = m130_1T := y_eq (by omega) (by omega) ((e85).symm.trans u130_1_1)
                          refine lv_iadd hx hb dX12_next_181 ?_
                          refine lv_topi (fun x144 e144 => ?_)
                          refine lv_bipush (v := 48) hx hb dX12_next_182 (by decide) ?_
                          refine lv_isub hx hb dX12_next_184 ?_
                          refine lv_topi (fun x145 e145 => ?_)
                          exact j185_133 x145 _ _ _ h (lv_sub hl [0, 1] rfl)
                      · skip
                        refine lv_aload_n hx hb dX12_next_163 rfl (lv_at hl 1 rfl) ?_
                        refine x_getI E h (fi_mo_value g) rfl hwX12 (by decide) (by decide +kernel) (v := x126) e126 dX12_next_164 ?_
                        refine lv_goto (tgt := 185) hx hb dX12_next_167 (by decide) ?_
                        exact j185_133 x126 _ _ _ h (lv_sub hl [0, 1] rfl)
                    · skip
                      refine lv_if_eq (tgt := 201) hx hb dX12_next_149 (by decide) (fun _ => ?_) (fun c => absurd (by decide) c)
                      refine lv_aload_n hx hb dX12_next_201 rfl (lv_at hl 1 rfl) ?_
                      refine lv_aload_n hx hb dX12_next_202 rfl (lv_at hl 1 rfl) ?_
                      obtain ⟨x147, e147⟩ : ∃ x, t84.1 29 = x := ⟨_, rfl⟩
                      refine x_getI E h (fi_mo_value g) rfl hwX12 (by decide) (by decide +kernel) (v := x147) e147 dX12_next_203 ?_
                      refine lv_sipush (v := 9999) hx hb dX12_next_206 (by decide) ?_
                      refine lv_icmp_gt (tgt := 231) hx hb dX12_next_209 (by decide) (fun c148 => ?_) (fun c148 => ?_)
                      · skip
                        refine lv_iconst (v := 4) hx hb dX12_next_231 (by decide) ?_
                        refine lv_goto (tgt := 236) hx hb dX12_next_232 (by decide) ?_
                        refine y_putI E h hI_84 hF_84 (ty := .int) (v := 4) (fi_mo_sort g) rfl hwX12 tyX12_ok nmX12 (by decide) (by decide +kernel) (by decide +kernel) (by decide +kernel) rfl rfl (ba_none rfl) rfl dX12_next_236 (fun s150 H locs q150 hI150 hF150 h => ?_)
                        have e151 : s150.1 25 = nI F25 := (congrArg (fun t : ST => t.1 25) q150).trans e85
                        have e152 : s150.1 27 = nI f1_26 := (congrArg (fun t : ST => t.1 27) q150).trans e86
                        have e153 : s150.1 26 = nI f84_26 := (congrArg (fun t : ST => t.1 26) q150).trans ef84_26
                        have e154 : s150.1 29 = x147 := (congrArg (fun t : ST => t.1 29) q150).trans e147
                        have e155 : s150.1 28 = 4 := congrArg (fun t : ST => t.1 28) q150
                        refine lv_goto (tgt := 267) hx hb dX12_next_239 (by decide) ?_
                        exact x_vret E h ⟨(⟨f84_26, e153, (by omega), (by omega), (fun h9 => absurd (e155.symm.trans h9) (by decide)), (fun h9 => absurd (e155.symm.trans h9) (by decide))⟩), hI150, hF150⟩ dX12_next_267
                      · skip
                        refine lv_iload_n hx hb dX12_next_212 rfl (lv_at hl 0 rfl) ?_
                        refine lv_bipush (v := 48) hx hb dX12_next_213 (by decide) ?_
                        refine lv_icmp_ne (tgt := 235) hx hb dX12_next_215 (by decide) (fun c157 => ?_) (fun c157 => ?_)
                        · skip
                          have b158 : ¬ m13_1n = 48 := y_ne (a := m13_1n) (b := 48) (by omega) (by omega) c157
                          refine lv_iconst (v := 2) hx hb dX12_next_235 (by decide) ?_
                          refine y_putI E h hI_84 hF_84 (ty := .int) (v := 2) (fi_mo_sort g) rfl hwX12 tyX12_ok nmX12 (by decide) (by decide +kernel) (by decide +kernel) (by decide +kernel) rfl rfl (ba_none rfl) rfl dX12_next_236 (fun s159 H locs q159 hI159 hF159 h => ?_)
                          have e160 : s159.1 25 = nI F25 := (congrArg (fun t : ST => t.1 25) q159).trans e85
                          have e161 : s159.1 27 = nI f1_26 := (congrArg (fun t : ST => t.1 27) q159).trans e86
                          have e162 : s159.1 26 = nI f84_26 := (congrArg (fun t : ST => t.1 26) q159).trans ef84_26
                          have e163 : s159.1 29 = x147 := (congrArg (fun t : ST => t.1 29) q159).trans e147
                          have e164 : s159.1 28 = 2 := congrArg (fun t : ST => t.1 28) q159
                          refine lv_goto (tgt := 267) hx hb dX12_next_239 (by decide) ?_
                          exact x_vret E h ⟨(⟨f84_26, e162, (by omega), (by omega), (fun h9 => absurd (e164.symm.trans h9) (by decide)), (fun h9 => absurd (e164.symm.trans h9) (by decide))⟩), hI159, hF159⟩ dX12_next_267
                        · skip
                          have b165 : m13_1n = 48 := y_eq (a := m13_1n) (b := 48) (by omega) (by omega) c157
                          refine lv_aload_n hx hb dX12_next_218 rfl (lv_at hl 1 rfl) ?_
                          refine x_getI E h (fi_mo_at g) rfl hwX12 (by decide) (by decide +kernel) (v := nI f84_26) ef84_26 dX12_next_219 ?_
                          refine lv_aload_n hx hb dX12_next_222 rfl (lv_at hl 1 rfl) ?_
                          refine x_getI E h (fi_mo_start g) rfl hwX12 (by decide) (by decide +kernel) (v := nI f1_26) e86 dX12_next_223 ?_
                          refine lv_isub hx hb dX12_next_226 ?_
                          refine lv_iconst (v := 1) hx hb dX12_next_227 (by decide) ?_
                          refine lv_icmp_le (tgt := 235) hx hb dX12_next_228 (by decide) (fun c166 => ?_) (fun c166 => ?_)
                          · skip
                            refine lv_iconst (v := 2) hx hb dX12_next_235 (by decide) ?_
                            refine y_putI E h hI_84 hF_84 (ty := .int) (v := 2) (fi_mo_sort g) rfl hwX12 tyX12_ok nmX12 (by decide) (by decide +kernel) (by decide +kernel) (by decide +kernel) rfl rfl (ba_none rfl) rfl dX12_next_236 (fun s168 H locs q168 hI168 hF168 h => ?_)
                            have e169 : s168.1 25 = nI F25 := (congrArg (fun t : ST => t.1 25) q168).trans e85
                            have e170 : s168.1 27 = nI f1_26 := (congrArg (fun t : ST => t.1 27) q168).trans e86
                            have e171 : s168.1 26 = nI f84_26 := (congrArg (fun t : ST => t.1 26) q168).trans ef84_26
                            have e172 : s168.1 29 = x147 := (congrArg (fun t : ST => t.1 29) q168).trans e147
                            have e173 : s168.1 28 = 2 := congrArg (fun t : ST => t.1 28) q168
                            refine lv_goto (tgt := 267) hx hb dX12_next_239 (by decide) ?_
                            exact x_vret E h ⟨(⟨f84_26, e171, (by omega), (by omega), (fun h9 => absurd (e173.symm.trans h9) (by decide)), (fun h9 => absurd (e173.symm.trans h9) (by decide))⟩), hI168, hF168⟩ dX12_next_267
                          · skip
                            refine lv_iconst (v := 4) hx hb dX12_next_231 (by decide) ?_
                            refine lv_goto (tgt := 236) hx hb dX12_next_232 (by decide) ?_
                            refine y_putI E h hI_84 hF_84 (ty := .int) (v := 4) (fi_mo_sort g) rfl hwX12 tyX12_ok nmX12 (by decide) (by decide +kernel) (by decide +kernel) (by decide +kernel) rfl rfl (ba_none rfl) rfl dX12_next_236 (fun s175 H locs q175 hI175 hF175 h => ?_)
                            have e176 : s175.1 25 = nI F25 := (congrArg (fun t : ST => t.1 25) q175).trans e85
                            have e177 : s175.1 27 = nI f1_26 := (congrArg (fun t : ST => t.1 27) q175).trans e86
                            have e178 : s175.1 26 = nI f84_26 := (congrArg (fun t : ST => t.1 26) q175).trans ef84_26
                            have e179 : s175.1 29 = x147 := (congrArg (fun t : ST => t.1 29) q175).trans e147
                            have e180 : s175.1 28 = 4 := congrArg (fun t : ST => t.1 28) q175
                            refine lv_goto (tgt := 267) hx hb dX12_next_239 (by decide) ?_
                            exact x_vret E h ⟨(⟨f84_26, e178, (by omega), (by omega), (fun h9 => absurd (e180.symm.trans h9) (by decide)), (fun h9 => absurd (e180.symm.trans h9) (by decide))⟩), hI175, hF175⟩ dX12_next_267
              exact loop138_84 _ s8 f1_26 hI8 hF8 e9 e11 e10 (by omega) (by omega) (Nat.lt_succ_self _) _ _ _ h (lv_sub hl [0, 1] rfl)
            · skip
              refine lv_if_eq (tgt := 242) hx hb dX12_next_135 (by decide) (fun _ => ?_) (fun c => absurd (by decide) c)
              refine lv_aload_n hx hb dX12_next_242 rfl (lv_at hl 1 rfl) ?_
              refine lv_dup hx hb dX12_next_243 rfl ?_
              refine x_getI E h (fi_mo_at g) rfl hwX12 (by decide) (by decide +kernel) (v := nI f1_26) e10 dX12_next_244 ?_
              refine lv_iconst (v := 1) hx hb dX12_next_247 (by decide) ?_
              refine lv_iadd hx hb dX12_next_248 ?_
              refine x_topI (v2 := nI (f1_26 + 1)) (nI_add f1_26 1) ?_
              refine y_putI E h hI8 hF8 (ty := .int) (v := nI (f1_26 + 1)) (fi_mo_at g) rfl hwX12 tyX12_ok nmX12 (by decide) (by decide +kernel) (by decide +kernel) (by decide +kernel) rfl rfl (ba_some rfl (Bd.mk (n := (f1_26 + 1)) (by omega))) rfl dX12_next_249 (fun s181 H locs q181 hI181 hF181 h => ?_)
              have e182 : s181.1 25 = nI F25 := (congrArg (fun t : ST => t.1 25) q181).trans e9
              have e183 : s181.1 27 = nI f1_26 := (congrArg (fun t : ST => t.1 27) q181).trans e11
              have e184 : s181.1 29 = 0 := (congrArg (fun t : ST => t.1 29) q181).trans e12
              have e185 : s181.1 26 = nI (f1_26 + 1) := congrArg (fun t : ST => t.1 26) q181
              refine lv_aload_n hx hb dX12_next_252 rfl (lv_at hl 1 rfl) ?_
              refine lv_iload_n hx hb dX12_next_253 rfl (lv_at hl 0 rfl) ?_
              refine lv_bipush (v := 59) hx hb dX12_next_254 (by decide) ?_
              refine lv_icmp_ne (tgt := 263) hx hb dX12_next_256 (by decide) (fun c186 => ?_) (fun c186 => ?_)
              · skip
                have b187 : ¬ m13_1n = 59 := y_ne (a := m13_1n) (b := 59) (by omega) (by omega) c186
                refine lv_iconst (v := 4) hx hb dX12_next_263 (by decide) ?_
                refine y_putI E h hI181 hF181 (ty := .int) (v := 4) (fi_mo_sort g) rfl hwX12 tyX12_ok nmX12 (by decide) (by decide +kernel) (by decide +kernel) (by decide +kernel) rfl rfl (ba_none rfl) rfl dX12_next_264 (fun s188 H locs q188 hI188 hF188 h => ?_)
                have e189 : s188.1 25 = nI F25 := (congrArg (fun t : ST => t.1 25) q188).trans e182
                have e190 : s188.1 27 = nI f1_26 := (congrArg (fun t : ST => t.1 27) q188).trans e183
                have e191 : s188.1 29 = 0 := (congrArg (fun t : ST => t.1 29) q188).trans e184
                have e192 : s188.1 26 = nI (f1_26 + 1) := (congrArg (fun t : ST => t.1 26) q188).trans e185
                have e193 : s188.1 28 = 4 := congrArg (fun t : ST => t.1 28) q188
                exact x_vret E h ⟨(⟨(f1_26 + 1), e192, (by omega), (by omega), (fun h9 => absurd (e193.symm.trans h9) (by decide)), (fun h9 => absurd (e193.symm.trans h9) (by decide))⟩), hI188, hF188⟩ dX12_next_267
              · skip
                have b194 : m13_1n = 59 := y_eq (a := m13_1n) (b := 59) (by omega) (by omega) c186
                refine lv_iconst (v := 3) hx hb dX12_next_259 (by decide) ?_
                refine lv_goto (tgt := 264) hx hb dX12_next_260 (by decide) ?_
                refine y_putI E h hI181 hF181 (ty := .int) (v := 3) (fi_mo_sort g) rfl hwX12 tyX12_ok nmX12 (by decide) (by decide +kernel) (by decide +kernel) (by decide +kernel) rfl rfl (ba_none rfl) rfl dX12_next_264 (fun s195 H locs q195 hI195 hF195 h => ?_)
                have e196 : s195.1 25 = nI F25 := (congrArg (fun t : ST => t.1 25) q195).trans e182
                have e197 : s195.1 27 = nI f1_26 := (congrArg (fun t : ST => t.1 27) q195).trans e183
                have e198 : s195.1 29 = 0 := (congrArg (fun t : ST => t.1 29) q195).trans e184
                have e199 : s195.1 26 = nI (f1_26 + 1) := (congrArg (fun t : ST => t.1 26) q195).trans e185
                have e200 : s195.1 28 = 3 := congrArg (fun t : ST => t.1 28) q195
                exact x_vret E h ⟨(⟨(f1_26 + 1), e199, (by omega), (by omega), (fun h9 => absurd (e200.symm.trans h9) (by decide)), (fun _ => by omega)⟩), hI195, hF195⟩ dX12_next_267
      · skip
        obtain rfl : f1_26 = m3_1a := y_eq (by omega) (by omega) ((ef1_26).symm.trans u3_1_0)
        obtain rfl : F25 = m3_1T := y_eq (by omega) (by omega) ((e2).symm.trans u3_1_1)
        refine lv_bipush (v := 32) hx hb dX12_next_4 (by decide) ?_
        refine lv_icmp_ne (tgt := 22) hx hb dX12_next_6 (by decide) (fun c201 => ?_) (fun c201 => ?_)
        · skip
          have b202 : ¬ m3_1n = 32 := y_ne (a := m3_1n) (b := 32) (by omega) (by omega) c201
          refine lv_aload_n hx hb dX12_next_22 rfl (lv_at hl 0 rfl) ?_
          refine lv_aload_n hx hb dX12_next_23 rfl (lv_at hl 0 rfl) ?_
          refine x_getI E h (fi_mo_at g) rfl hwX12 (by decide) (by decide +kernel) (v := nI f1_26) ef1_26 dX12_next_24 ?_
          refine y_putI E h hI_1 hF_1 (ty := .int) (v := nI f1_26) (fi_mo_start g) rfl hwX12 tyX12_ok nmX12 (by decide) (by decide +kernel) (by decide +kernel) (by decide +kernel) rfl rfl (ba_some rfl (Bd.mk (n := f1_26) (by omega))) rfl dX12_next_27 (fun s203 H locs q203 hI203 hF203 h => ?_)
          have e204 : s203.1 25 = nI F25 := (congrArg (fun t : ST => t.1 25) q203).trans e2
          have e205 : s203.1 26 = nI f1_26 := (congrArg (fun t : ST => t.1 26) q203).trans ef1_26
          have e206 : s203.1 27 = nI f1_26 := congrArg (fun t : ST => t.1 27) q203
          refine lv_aload_n hx hb dX12_next_30 rfl (lv_at hl 0 rfl) ?_
          refine lv_iconst (v := 0) hx hb dX12_next_31 (by decide) ?_
          refine y_putI E h hI203 hF203 (ty := .int) (v := 0) (fi_mo_value g) rfl hwX12 tyX12_ok nmX12 (by decide) (by decide +kernel) (by decide +kernel) (by decide +kernel) rfl rfl (ba_none rfl) rfl dX12_next_32 (fun s207 H locs q207 hI207 hF207 h => ?_)
          have e208 : s207.1 25 = nI F25 := (congrArg (fun t : ST => t.1 25) q207).trans e204
          have e209 : s207.1 26 = nI f1_26 := (congrArg (fun t : ST => t.1 26) q207).trans e205
          have e210 : s207.1 27 = nI f1_26 := (congrArg (fun t : ST => t.1 27) q207).trans e206
          have e211 : s207.1 29 = 0 := congrArg (fun t : ST => t.1 29) q207
          refine lv_aload_n hx hb dX12_next_35 rfl (lv_at hl 0 rfl) ?_
          refine x_vi E h (na := 0) (As := []) (aX12_here_0 l g s207 hI207) (oc_mo g) rfl gX12_next_X12_here rfl ⟨rfl, rfl⟩ rfl (by decide +kernel) ⟨Nat.le_of_ble_eq_true rfl, Nat.le_of_ble_eq_true rfl⟩ hl.1 rfl (Nat.le_of_ble_eq_true rfl) dX12_next_36 ⟨Nat.le_of_ble_eq_true rfl, Nat.le_of_ble_eq_true rfl⟩ (fun r212 s212 H locs q212 h => ?_)
          obtain ⟨d212, rfl⟩ := q212
          rcases d212 with rfl | ⟨m212_1a, m212_1T, m212_1n, u212_1_0, u212_1_1, u212_1_2, u212_1_3, u212_1_4, rfl⟩
          · skip
            refine lv_istore_n (lv' := [(1, .int (-1)), (0, .ref (g.2.1 79))]) hx hb dX12_next_39 rfl hl (by decide) rfl (fun ls hl => ?_)
            refine lv_iload_n hx hb dX12_next_40 rfl (lv_at hl 0 rfl) ?_
            refine lv_if_ge (tgt := 52) hx hb dX12_next_41 (by decide) (fun c => absurd c (by decide)) (fun _ => ?_)
            refine lv_aload_n hx hb dX12_next_44 rfl (lv_at hl 1 rfl) ?_
            refine lv_iconst (v := 0) hx hb dX12_next_45 (by decide) ?_
            refine y_putI E h hI207 hF207 (ty := .int) (v := 0) (fi_mo_sort g) rfl hwX12 tyX12_ok nmX12 (by decide) (by decide +kernel) (by decide +kernel) (by decide +kernel) rfl rfl (ba_none rfl) rfl dX12_next_46 (fun s213 H locs q213 hI213 hF213 h => ?_)
            have e214 : s213.1 25 = nI F25 := (congrArg (fun t : ST => t.1 25) q213).trans e208
            have e215 : s213.1 26 = nI f1_26 := (congrArg (fun t : ST => t.1 26) q213).trans e209
            have e216 : s213.1 27 = nI f1_26 := (congrArg (fun t : ST => t.1 27) q213).trans e210
            have e217 : s213.1 29 = 0 := (congrArg (fun t : ST => t.1 29) q213).trans e211
            have e218 : s213.1 28 = 0 := congrArg (fun t : ST => t.1 28) q213
            refine lv_goto (tgt := 267) hx hb dX12_next_49 (by decide) ?_
            exact x_vret E h ⟨(⟨f1_26, e215, (by omega), (by omega), (fun h9 => absurd (e218.symm.trans h9) (by decide)), (fun h9 => absurd (e218.symm.trans h9) (by decide))⟩), hI213, hF213⟩ dX12_next_267
          · skip
            obtain rfl : f1_26 = m212_1a := y_eq (by omega) (by omega) ((e209).symm.trans u212_1_0)
            obtain rfl : F25 = m212_1T := y_eq (by omega) (by omega) ((e208).symm.trans u212_1_1)
            refine lv_istore_n (lv' := [(1, .int (nI m212_1n)), (0, .ref (g.2.1 79))]) hx hb dX12_next_39 rfl hl (by decide) rfl (fun ls hl => ?_)
            refine lv_iload_n hx hb dX12_next_40 rfl (lv_at hl 0 rfl) ?_
            refine lv_if_ge (tgt := 52) hx hb dX12_next_41 (by decide) (fun _ => ?_) (fun c => absurd (nI_pos' (by omega)) c)
            refine lv_iload_n hx hb dX12_next_52 rfl (lv_at hl 0 rfl) ?_
            refine lv_bipush (v := 97) hx hb dX12_next_53 (by decide) ?_
            refine lv_bipush (v := 122) hx hb dX12_next_55 (by decide) ?_
            refine x_si E h (na := 3) (As := [.int (nI m212_1n), .int 97, .int 122]) (aX12_in_0 l g s207 hI207 (nI m212_1n) 97 122) gX12_next_X12_in rfl ⟨rfl, rfl⟩ rfl (by decide +kernel) ⟨Nat.le_of_ble_eq_true rfl, Nat.le_of_ble_eq_true rfl⟩ hl.1 rfl (Nat.le_of_ble_eq_true rfl) dX12_next_57 ⟨Nat.le_of_ble_eq_true rfl, Nat.le_of_ble_eq_true rfl⟩ (fun r219 s219 H locs q219 h => ?_)
            obtain ⟨d219, rfl⟩ := q219
            rcases d219 with ⟨rfl, u219_0_0, u219_0_1⟩ | ⟨rfl, u219_1_0⟩
            · skip
              have b220 : 97 ≤ m212_1n := y_nlt (a := m212_1n) (b := 97) (by omega) (by omega) u219_0_0
              have b221 : m212_1n ≤ 122 := y_nlt (a := 122) (b := m212_1n) (by omega) (by omega) u219_0_1
              refine lv_if_eq (tgt := 127) hx hb dX12_next_60 (by decide) (fun c => absurd c (by decide)) (fun _ => ?_)
              have loop63_222 : ∀ (fu : Nat) (t222 : ST) (f222_26 : Nat), INV t222 → Fr [(26, 29)] [] σ t222 → t222.1 25 = nI F25 → t222.1 27 = nI f1_26 → t222.1 29 = 0 → t222.1 26 = nI f222_26 → f222_26 ≤ 200 → f1_26 ≤ f222_26 → 200 - f222_26 < fu → ∀ (H : Heap) (locs : List Loc) (ls : Array Slot), HW g t222 s H locs → lv_has ls 2 [(1, .int (nI m212_1n)), (0, .ref (g.2.1 79))] → W p l e { frames := 3, cells := 0, slots := 0, locals := 71 } s m args below meth c H locs 0 0 (MQ below (XQv g (fun σ' => ((∃ a : Nat, σ'.1 26 = nI a ∧ F26 ≤ a ∧ a ≤ 200 ∧ NX σ' ∧ (σ'.1 28 = 3 → F26 < a))) ∧ INV σ' ∧ Fr [(26, 29)] [] σ σ')) args s 0 0 (Aw g)) (F0 m 63 ls []) := by
                intro fu
                induction fu with
                | zero => intro t222 f222_26 hI_222 hF_222 e223 e224 e225 ef222_26 pp222_0 pp222_1 hm; exact absurd hm (Nat.not_lt_zero _)
                | succ fu ih =>
                  have ih222 := ih
                  clear ih
                  intro t222 f222_26 hI_222 hF_222 e223 e224 e225 ef222_26 pp222_0 pp222_1 hm222 H locs ls h hl
                  refine lv_aload_n hx hb dX12_next_63 rfl (lv_at hl 1 rfl) ?_
                  refine x_vi E h (na := 0) (As := []) (aX12_here_0 l g t222 hI_222) (oc_mo g) rfl gX12_next_X12_here rfl ⟨rfl, rfl⟩ rfl (by decide +kernel) ⟨Nat.le_of_ble_eq_true rfl, Nat.le_of_ble_eq_true rfl⟩ hl.1 rfl (Nat.le_of_ble_eq_true rfl) dX12_next_64 ⟨Nat.le_of_ble_eq_true rfl, Nat.le_of_ble_eq_true rfl⟩ (fun r226 s226 H locs q226 h => ?_)
                  obtain ⟨d226, rfl⟩ := q226
                  rcases d226 with rfl | ⟨m226_1a, m226_1T, m226_1n, u226_1_0, u226_1_1, u226_1_2, u226_1_3, u226_1_4, rfl⟩
                  · skip
                    refine lv_bipush (v := 97) hx hb dX12_next_67 (by decide) ?_
                    refine lv_bipush (v := 122) hx hb dX12_next_69 (by decide) ?_
                    refine x_si E h (na := 3) (As := [.int (-1), .int 97, .int 122]) (aX12_in_0 l g t222 hI_222 (-1) 97 122) gX12_next_X12_in rfl ⟨rfl, rfl⟩ rfl (by decide +kernel) ⟨Nat.le_of_ble_eq_true rfl, Nat.le_of_ble_eq_true rfl⟩ hl.1 rfl (Nat.le_of_ble_eq_true rfl) dX12_next_71 ⟨Nat.le_of_ble_eq_true rfl, Nat.le_of_ble_eq_true rfl⟩ (fun r227 s227 H locs q227 h => ?_)
                    obtain ⟨d227, rfl⟩ := q227
                    rcases d227 with ⟨rfl, u227_0_0, u227_0_1⟩ | ⟨rfl, u227_1_0⟩
                    · skip
                      exact absurd (by decide) u227_0_0
                    · skip
                      refine lv_if_eq (tgt := 90) hx hb dX12_next_74 (by decide) (fun _ => ?_) (fun c => absurd (by decide) c)
                      refine lv_aload_n hx hb dX12_next_90 rfl (lv_at hl 1 rfl) ?_
                      refine lv_aload_n hx hb dX12_next_91 rfl (lv_at hl 1 rfl) ?_
                      refine lv_aload_n hx hb dX12_next_92 rfl (lv_at hl 1 rfl) ?_
                      refine x_getI E h (fi_mo_start g) rfl hwX12 (by decide) (by decide +kernel) (v := nI f1_26) e224 dX12_next_93 ?_
                      refine lv_aload_n hx hb dX12_next_96 rfl (lv_at hl 1 rfl) ?_
                      refine x_getI E h (fi_mo_at g) rfl hwX12 (by decide) (by decide +kernel) (v := nI f222_26) ef222_26 dX12_next_97 ?_
                      refine x_vi E h (na := 2) (As := [.int (nI f1_26), .int (nI f222_26)]) (aX12_wordOf_0 l g t222 hI_222 f1_26 f222_26 (by omega) (by omega)) (oc_mo g) rfl gX12_next_X12_wordOf rfl ⟨rfl, rfl⟩ rfl (by decide +kernel) ⟨Nat.le_of_ble_eq_true rfl, Nat.le_of_ble_eq_true rfl⟩ hl.1 rfl (Nat.le_of_ble_eq_true rfl) dX12_next_100 ⟨Nat.le_of_ble_eq_true rfl, Nat.le_of_ble_eq_true rfl⟩ (fun r228 s228 H locs q228 h => ?_)
                      obtain ⟨d228, rfl⟩ := q228
                      refine y_putI E h hI_222 hF_222 (ty := .int) (v := r228) (fi_mo_value g) rfl hwX12 tyX12_ok nmX12 (by decide) (by decide +kernel) (by decide +kernel) (by decide +kernel) rfl rfl (ba_none rfl) rfl dX12_next_103 (fun s229 H locs q229 hI229 hF229 h => ?_)
                      have e230 : s229.1 25 = nI F25 := (congrArg (fun t : ST => t.1 25) q229).trans e223
                      have e231 : s229.1 27 = nI f1_26 := (congrArg (fun t : ST => t.1 27) q229).trans e224
                      have e232 : s229.1 26 = nI f222_26 := (congrArg (fun t : ST => t.1 26) q229).trans ef222_26
                      have e233 : s229.1 29 = r228 := congrArg (fun t : ST => t.1 29) q229
                      refine lv_aload_n hx hb dX12_next_106 rfl (lv_at hl 1 rfl) ?_
                      refine lv_aload_n hx hb dX12_next_107 rfl (lv_at hl 1 rfl) ?_
                      refine x_getI E h (fi_mo_value g) rfl hwX12 (by decide) (by decide +kernel) (v := r228) e233 dX12_next_108 ?_
                      refine lv_bipush (v := (-9)) hx hb dX12_next_111 (by decide) ?_
                      refine lv_icmp_ne (tgt := 120) hx hb dX12_next_113 (by decide) (fun c234 => ?_) (fun c234 => ?_)
                      · skip
                        rcases d228 with rfl | ⟨n236, b236, rfl⟩
                        · exact absurd c234 (by decide)
                        refine lv_iconst (v := 1) hx hb dX12_next_120 (by decide) ?_
                        refine y_putI E h hI229 hF229 (ty := .int) (v := 1) (fi_mo_sort g) rfl hwX12 tyX12_ok nmX12 (by decide) (by decide +kernel) (by decide +kernel) (by decide +kernel) rfl rfl (ba_none rfl) rfl dX12_next_121 (fun s237 H locs q237 hI237 hF237 h => ?_)
                        have e238 : s237.1 25 = nI F25 := (congrArg (fun t : ST => t.1 25) q237).trans e230
                        have e239 : s237.1 27 = nI f1_26 := (congrArg (fun t : ST => t.1 27) q237).trans e231
                        have e240 : s237.1 26 = nI f222_26 := (congrArg (fun t : ST => t.1 26) q237).trans e232
                        have e241 : s237.1 29 = nI n236 := (congrArg (fun t : ST => t.1 29) q237).trans e233
                        have e242 : s237.1 28 = 1 := congrArg (fun t : ST => t.1 28) q237
                        refine lv_goto (tgt := 267) hx hb dX12_next_124 (by decide) ?_
                        exact x_vret E h ⟨(⟨f222_26, e240, (by omega), (by omega), (fun _ => ⟨n236, by omega, e241⟩), (fun h9 => absurd (e242.symm.trans h9) (by decide))⟩), hI237, hF237⟩ dX12_next_267
                      · skip
                        subst c234
                        refine lv_iconst (v := 4) hx hb dX12_next_116 (by decide) ?_
                        refine lv_goto (tgt := 121) hx hb dX12_next_117 (by decide) ?_
                        refine y_putI E h hI229 hF229 (ty := .int) (v := 4) (fi_mo_sort g) rfl hwX12 tyX12_ok nmX12 (by decide) (by decide +kernel) (by decide +kernel) (by decide +kernel) rfl rfl (ba_none rfl) rfl dX12_next_121 (fun s244 H locs q244 hI244 hF244 h => ?_)
                        have e245 : s244.1 25 = nI F25 := (congrArg (fun t : ST => t.1 25) q244).trans e230
                        have e246 : s244.1 27 = nI f1_26 := (congrArg (fun t : ST => t.1 27) q244).trans e231
                        have e247 : s244.1 26 = nI f222_26 := (congrArg (fun t : ST => t.1 26) q244).trans e232
                        have e248 : s244.1 29 = (-9) := (congrArg (fun t : ST => t.1 29) q244).trans e233
                        have e249 : s244.1 28 = 4 := congrArg (fun t : ST => t.1 28) q244
                        refine lv_goto (tgt := 267) hx hb dX12_next_124 (by decide) ?_
                        exact x_vret E h ⟨(⟨f222_26, e247, (by omega), (by omega), (fun h9 => absurd (e249.symm.trans h9) (by decide)), (fun h9 => absurd (e249.symm.trans h9) (by decide))⟩), hI244, hF244⟩ dX12_next_267
                  · skip
                    obtain rfl : f222_26 = m226_1a := y_eq (by omega) (by omega) ((ef222_26).symm.trans u226_1_0)
                    obtain rfl : F25 = m226_1T := y_eq (by omega) (by omega) ((e223).symm.trans u226_1_1)
                    refine lv_bipush (v := 97) hx hb dX12_next_67 (by decide) ?_
                    refine lv_bipush (v := 122) hx hb dX12_next_69 (by decide) ?_
                    refine x_si E h (na := 3) (As := [.int (nI m226_1n), .int 97, .int 122]) (aX12_in_0 l g t222 hI_222 (nI m226_1n) 97 122) gX12_next_X12_in rfl ⟨rfl, rfl⟩ rfl (by decide +kernel) ⟨Nat.le_of_ble_eq_true rfl, Nat.le_of_ble_eq_true rfl⟩ hl.1 rfl (Nat.le_of_ble_eq_true rfl) dX12_next_71 ⟨Nat.le_of_ble_eq_true rfl, Nat.le_of_ble_eq_true rfl⟩ (fun r250 s250 H locs q250 h => ?_)
                    obtain ⟨d250, rfl⟩ := q250
                    rcases d250 with ⟨rfl, u250_0_0, u250_0_1⟩ | ⟨rfl, u250_1_0⟩
                    · skip
                      have b251 : 97 ≤ m226_1n := y_nlt (a := m226_1n) (b := 97) (by omega) (by omega) u250_0_0
                      have b252 : m226_1n ≤ 122 := y_nlt (a := 122) (b := m226_1n) (by omega) (by omega) u250_0_1
                      refine lv_if_eq (tgt := 90) hx hb dX12_next_74 (by decide) (fun c => absurd c (by decide)) (fun _ => ?_)
                      refine lv_aload_n hx hb dX12_next_77 rfl (lv_at hl 1 rfl) ?_
                      refine lv_dup hx hb dX12_next_78 rfl ?_
                      refine x_getI E h (fi_mo_at g) rfl hwX12 (by decide) (by decide +kernel) (v := nI f222_26) ef222_26 dX12_next_79 ?_
                      refine lv_iconst (v := 1) hx hb dX12_next_82 (by decide) ?_
                      refine lv_iadd hx hb dX12_next_83 ?_
                      refine x_topI (v2 := nI (f222_26 + 1)) (nI_add f222_26 1) ?_
                      refine y_putI E h hI_222 hF_222 (ty := .int) (v := nI (f222_26 + 1)) (fi_mo_at g) rfl hwX12 tyX12_ok nmX12 (by decide) (by decide +kernel) (by decide +kernel) (by decide +kernel) rfl rfl (ba_some rfl (Bd.mk (n := (f222_26 + 1)) (by omega))) rfl dX12_next_84 (fun s253 H locs q253 hI253 hF253 h => ?_)
                      have e254 : s253.1 25 = nI F25 := (congrArg (fun t : ST => t.1 25) q253).trans e223
                      have e255 : s253.1 27 = nI f1_26 := (congrArg (fun t : ST => t.1 27) q253).trans e224
                      have e256 : s253.1 29 = 0 := (congrArg (fun t : ST => t.1 29) q253).trans e225
                      have e257 : s253.1 26 = nI (f222_26 + 1) := congrArg (fun t : ST => t.1 26) q253
                      refine lv_goto (tgt := 63) hx hb dX12_next_87 (by decide) ?_
                      exact ih222 s253 (f222_26 + 1) hI253 hF253 e254 e255 e256 e257 (by omega) (by omega) (by omega) _ _ _ h (lv_sub hl [0, 1] rfl)
                    · skip
                      refine lv_if_eq (tgt := 90) hx hb dX12_next_74 (by decide) (fun _ => ?_) (fun c => absurd (by decide) c)
                      refine lv_aload_n hx hb dX12_next_90 rfl (lv_at hl 1 rfl) ?_
                      refine lv_aload_n hx hb dX12_next_91 rfl (lv_at hl 1 rfl) ?_
                      refine lv_aload_n hx hb dX12_next_92 rfl (lv_at hl 1 rfl) ?_
                      refine x_getI E h (fi_mo_start g) rfl hwX12 (by decide) (by decide +kernel) (v := nI f1_26) e224 dX12_next_93 ?_
                      refine lv_aload_n hx hb dX12_next_96 rfl (lv_at hl 1 rfl) ?_
                      refine x_getI E h (fi_mo_at g) rfl hwX12 (by decide) (by decide +kernel) (v := nI f222_26) ef222_26 dX12_next_97 ?_
                      refine x_vi E h (na := 2) (As := [.int (nI f1_26), .int (nI f222_26)]) (aX12_wordOf_0 l g t222 hI_222 f1_26 f222_26 (by omega) (by omega)) (oc_mo g) rfl gX12_next_X12_wordOf rfl ⟨rfl, rfl⟩ rfl (by decide +kernel) ⟨Nat.le_of_ble_eq_true rfl, Nat.le_of_ble_eq_true rfl⟩ hl.1 rfl (Nat.le_of_ble_eq_true rfl) dX12_next_100 ⟨Nat.le_of_ble_eq_true rfl, Nat.le_of_ble_eq_true rfl⟩ (fun r258 s258 H locs q258 h => ?_)
                      obtain ⟨d258, rfl⟩ := q258
                      refine y_putI E h hI_222 hF_222 (ty := .int) (v := r258) (fi_mo_value g) rfl hwX12 tyX12_ok nmX12 (by decide) (by decide +kernel) (by decide +kernel) (by decide +kernel) rfl rfl (ba_none rfl) rfl dX12_next_103 (fun s259 H locs q259 hI259 hF259 h => ?_)
                      have e260 : s259.1 25 = nI F25 := (congrArg (fun t : ST => t.1 25) q259).trans e223
                      have e261 : s259.1 27 = nI f1_26 := (congrArg (fun t : ST => t.1 27) q259).trans e224
                      have e262 : s259.1 26 = nI f222_26 := (congrArg (fun t : ST => t.1 26) q259).trans ef222_26
                      have e263 : s259.1 29 = r258 := congrArg (fun t : ST => t.1 29) q259
                      refine lv_aload_n hx hb dX12_next_106 rfl (lv_at hl 1 rfl) ?_
                      refine lv_aload_n hx hb dX12_next_107 rfl (lv_at hl 1 rfl) ?_
                      refine x_getI E h (fi_mo_value g) rfl hwX12 (by decide) (by decide +kernel) (v := r258) e263 dX12_next_108 ?_
                      refine lv_bipush (v := (-9)) hx hb dX12_next_111 (by decide) ?_
                      refine lv_icmp_ne (tgt := 120) hx hb dX12_next_113 (by decide) (fun c264 => ?_) (fun c264 => ?_)
                      · skip
                        rcases d258 with rfl | ⟨n266, b266, rfl⟩
                        · exact absurd c264 (by decide)
                        refine lv_iconst (v := 1) hx hb dX12_next_120 (by decide) ?_
                        refine y_putI E h hI259 hF259 (ty := .int) (v := 1) (fi_mo_sort g) rfl hwX12 tyX12_ok nmX12 (by decide) (by decide +kernel) (by decide +kernel) (by decide +kernel) rfl rfl (ba_none rfl) rfl dX12_next_121 (fun s267 H locs q267 hI267 hF267 h => ?_)
                        have e268 : s267.1 25 = nI F25 := (congrArg (fun t : ST => t.1 25) q267).trans e260
                        have e269 : s267.1 27 = nI f1_26 := (congrArg (fun t : ST => t.1 27) q267).trans e261
                        have e270 : s267.1 26 = nI f222_26 := (congrArg (fun t : ST => t.1 26) q267).trans e262
                        have e271 : s267.1 29 = nI n266 := (congrArg (fun t : ST => t.1 29) q267).trans e263
                        have e272 : s267.1 28 = 1 := congrArg (fun t : ST => t.1 28) q267
                        refine lv_goto (tgt := 267) hx hb dX12_next_124 (by decide) ?_
                        exact x_vret E h ⟨(⟨f222_26, e270, (by omega), (by omega), (fun _ => ⟨n266, by omega, e271⟩), (fun h9 => absurd (e272.symm.trans h9) (by decide))⟩), hI267, hF267⟩ dX12_next_267
                      · skip
                        subst c264
                        refine lv_iconst (v := 4) hx hb dX12_next_116 (by decide) ?_
                        refine lv_goto (tgt := 121) hx hb dX12_next_117 (by decide) ?_
                        refine y_putI E h hI259 hF259 (ty := .int) (v := 4) (fi_mo_sort g) rfl hwX12 tyX12_ok nmX12 (by decide) (by decide +kernel) (by decide +kernel) (by decide +kernel) rfl rfl (ba_none rfl) rfl dX12_next_121 (fun s274 H locs q274 hI274 hF274 h => ?_)
                        have e275 : s274.1 25 = nI F25 := (congrArg (fun t : ST => t.1 25) q274).trans e260
                        have e276 : s274.1 27 = nI f1_26 := (congrArg (fun t : ST => t.1 27) q274).trans e261
                        have e277 : s274.1 26 = nI f222_26 := (congrArg (fun t : ST => t.1 26) q274).trans e262
                        have e278 : s274.1 29 = (-9) := (congrArg (fun t : ST => t.1 29) q274).trans e263
                        have e279 : s274.1 28 = 4 := congrArg (fun t : ST => t.1 28) q274
                        refine lv_goto (tgt := 267) hx hb dX12_next_124 (by decide) ?_
                        exact x_vret E h ⟨(⟨f222_26, e277, (by omega), (by omega), (fun h9 => absurd (e279.symm.trans h9) (by decide)), (fun h9 => absurd (e279.symm.trans h9) (by decide))⟩), hI274, hF274⟩ dX12_next_267
              exact loop63_222 _ s207 f1_26 hI207 hF207 e208 e210 e211 e209 (by omega) (by omega) (Nat.lt_succ_self _) _ _ _ h (lv_sub hl [0, 1] rfl)
            · skip
              refine lv_if_eq (tgt := 127) hx hb dX12_next_60 (by decide) (fun _ => ?_) (fun c => absurd (by decide) c)
              refine lv_iload_n hx hb dX12_next_127 rfl (lv_at hl 0 rfl) ?_
              refine lv_bipush (v := 48) hx hb dX12_next_128 (by decide) ?_
              refine lv_bipush (v := 57) hx hb dX12_next_130 (by decide) ?_
              refine x_si E h (na := 3) (As := [.int (nI m212_1n), .int 48, .int 57]) (aX12_in_0 l g s207 hI207 (nI m212_1n) 48 57) gX12_next_X12_in rfl ⟨rfl, rfl⟩ rfl (by decide +kernel) ⟨Nat.le_of_ble_eq_true rfl, Nat.le_of_ble_eq_true rfl⟩ hl.1 rfl (Nat.le_of_ble_eq_true rfl) dX12_next_132 ⟨Nat.le_of_ble_eq_true rfl, Nat.le_of_ble_eq_true rfl⟩ (fun r280 s280 H locs q280 h => ?_)
              obtain ⟨d280, rfl⟩ := q280
              rcases d280 with ⟨rfl, u280_0_0, u280_0_1⟩ | ⟨rfl, u280_1_0⟩
              · skip
                have b281 : 48 ≤ m212_1n := y_nlt (a := m212_1n) (b := 48) (by omega) (by omega) u280_0_0
                have b282 : m212_1n ≤ 57 := y_nlt (a := 57) (b := m212_1n) (by omega) (by omega) u280_0_1
                refine lv_if_eq (tgt := 242) hx hb dX12_next_135 (by decide) (fun c => absurd c (by decide)) (fun _ => ?_)
                have loop138_283 : ∀ (fu : Nat) (t283 : ST) (f283_26 : Nat), INV t283 → Fr [(26, 29)] [] σ t283 → t283.1 25 = nI F25 → t283.1 27 = nI f1_26 → t283.1 26 = nI f283_26 → f283_26 ≤ 200 → f1_26 ≤ f283_26 → 200 - f283_26 < fu → ∀ (H : Heap) (locs : List Loc) (ls : Array Slot), HW g t283 s H locs → lv_has ls 2 [(1, .int (nI m212_1n)), (0, .ref (g.2.1 79))] → W p l e { frames := 3, cells := 0, slots := 0, locals := 71 } s m args below meth c H locs 0 0 (MQ below (XQv g (fun σ' => ((∃ a : Nat, σ'.1 26 = nI a ∧ F26 ≤ a ∧ a ≤ 200 ∧ NX σ' ∧ (σ'.1 28 = 3 → F26 < a))) ∧ INV σ' ∧ Fr [(26, 29)] [] σ σ')) args s 0 0 (Aw g)) (F0 m 138 ls []) := by
                  intro fu
                  induction fu with
                  | zero => intro t283 f283_26 hI_283 hF_283 e284 e285 ef283_26 pp283_0 pp283_1 hm; exact absurd hm (Nat.not_lt_zero _)
                  | succ fu ih =>
                    have ih283 := ih
                    clear ih
                    intro t283 f283_26 hI_283 hF_283 e284 e285 ef283_26 pp283_0 pp283_1 hm283 H locs ls h hl
                    refine lv_aload_n hx hb dX12_next_138 rfl (lv_at hl 1 rfl) ?_
                    refine x_vi E h (na := 0) (As := []) (aX12_here_0 l g t283 hI_283) (oc_mo g) rfl gX12_next_X12_here rfl ⟨rfl, rfl⟩ rfl (by decide +kernel) ⟨Nat.le_of_ble_eq_true rfl, Nat.le_of_ble_eq_true rfl⟩ hl.1 rfl (Nat.le_of_ble_eq_true rfl) dX12_next_139 ⟨Nat.le_of_ble_eq_true rfl, Nat.le_of_ble_eq_true rfl⟩ (fun r286 s286 H locs q286 h => ?_)
                    obtain ⟨d286, rfl⟩ := q286
                    rcases d286 with rfl | ⟨m286_1a, m286_1T, m286_1n, u286_1_0, u286_1_1, u286_1_2, u286_1_3, u286_1_4, rfl⟩
                    · skip
                      refine lv_bipush (v := 48) hx hb dX12_next_142 (by decide) ?_
                      refine lv_bipush (v := 57) hx hb dX12_next_144 (by decide) ?_
                      refine x_si E h (na := 3) (As := [.int (-1), .int 48, .int 57]) (aX12_in_0 l g t283 hI_283 (-1) 48 57) gX12_next_X12_in rfl ⟨rfl, rfl⟩ rfl (by decide +kernel) ⟨Nat.le_of_ble_eq_true rfl, Nat.le_of_ble_eq_true rfl⟩ hl.1 rfl (Nat.le_of_ble_eq_true rfl) dX12_next_146 ⟨Nat.le_of_ble_eq_true rfl, Nat.le_of_ble_eq_true rfl⟩ (fun r287 s287 H locs q287 h => ?_)
                      obtain ⟨d287, rfl⟩ := q287
                      rcases d287 with ⟨rfl, u287_0_0, u287_0_1⟩ | ⟨rfl, u287_1_0⟩
                      · skip
                        exact absurd (by decide) u287_0_0
                      · skip
                        refine lv_if_eq (tgt := 201) hx hb dX12_next_149 (by decide) (fun _ => ?_) (fun c => absurd (by decide) c)
                        refine lv_aload_n hx hb dX12_next_201 rfl (lv_at hl 1 rfl) ?_
                        refine lv_aload_n hx hb dX12_next_202 rfl (lv_at hl 1 rfl) ?_
                        obtain ⟨x288, e288⟩ : ∃ x, t283.1 29 = x := ⟨_, rfl⟩
                        refine x_getI E h (fi_mo_value g) rfl hwX12 (by decide) (by decide +kernel) (v := x288) e288 dX12_next_203 ?_
                        refine lv_sipush (v := 9999) hx hb dX12_next_206 (by decide) ?_
                        refine lv_icmp_gt (tgt := 231) hx hb dX12_next_209 (by decide) (fun c289 => ?_) (fun c289 => ?_)
                        · skip
                          refine lv_iconst (v := 4) hx hb dX12_next_231 (by decide) ?_
                          refine lv_goto (tgt := 236) hx hb dX12_next_232 (by decide) ?_
                          refine y_putI E h hI_283 hF_283 (ty := .int) (v := 4) (fi_mo_sort g) rfl hwX12 tyX12_ok nmX12 (by decide) (by decide +kernel) (by decide +kernel) (by decide +kernel) rfl rfl (ba_none rfl) rfl dX12_next_236 (fun s291 H locs q291 hI291 hF291 h => ?_)
                          have e292 : s291.1 25 = nI F25 := (congrArg (fun t : ST => t.1 25) q291).trans e284
                          have e293 : s291.1 27 = nI f1_26 := (congrArg (fun t : ST => t.1 27) q291).trans e285
                          have e294 : s291.1 26 = nI f283_26 := (congrArg (fun t : ST => t.1 26) q291).trans ef283_26
                          have e295 : s291.1 29 = x288 := (congrArg (fun t : ST => t.1 29) q291).trans e288
                          have e296 : s291.1 28 = 4 := congrArg (fun t : ST => t.1 28) q291
                          refine lv_goto (tgt := 267) hx hb dX12_next_239 (by decide) ?_
                          exact x_vret E h ⟨(⟨f283_26, e294, (by omega), (by omega), (fun h9 => absurd (e296.symm.trans h9) (by decide)), (fun h9 => absurd (e296.symm.trans h9) (by decide))⟩), hI291, hF291⟩ dX12_next_267
                        · skip
                          refine lv_iload_n hx hb dX12_next_212 rfl (lv_at hl 0 rfl) ?_
                          refine lv_bipush (v := 48) hx hb dX12_next_213 (by decide) ?_
                          refine lv_icmp_ne (tgt := 235) hx hb dX12_next_215 (by decide) (fun c298 => ?_) (fun c298 => ?_)
                          · skip
                            have b299 : ¬ m212_1n = 48 := y_ne (a := m212_1n) (b := 48) (by omega) (by omega) c298
                            refine lv_iconst (v := 2) hx hb dX12_next_235 (by decide) ?_
                            refine y_putI E h hI_283 hF_283 (ty := .int) (v := 2) (fi_mo_sort g) rfl hwX12 tyX12_ok nmX12 (by decide) (by decide +kernel) (by decide +kernel) (by decide +kernel) rfl rfl (ba_none rfl) rfl dX12_next_236 (fun s300 H locs q300 hI300 hF300 h => ?_)
                            have e301 : s300.1 25 = nI F25 := (congrArg (fun t : ST => t.1 25) q300).trans e284
                            have e302 : s300.1 27 = nI f1_26 := (congrArg (fun t : ST => t.1 27) q300).trans e285
                            have e303 : s300.1 26 = nI f283_26 := (congrArg (fun t : ST => t.1 26) q300).trans ef283_26
                            have e304 : s300.1 29 = x288 := (congrArg (fun t : ST => t.1 29) q300).trans e288
                            have e305 : s300.1 28 = 2 := congrArg (fun t : ST => t.1 28) q300
                            refine lv_goto (tgt := 267) hx hb dX12_next_239 (by decide) ?_
                            exact x_vret E h ⟨(⟨f283_26, e303, (by omega), (by omega), (fun h9 => absurd (e305.symm.trans h9) (by decide)), (fun h9 => absurd (e305.symm.trans h9) (by decide))⟩), hI300, hF300⟩ dX12_next_267
                          · skip
                            have b306 : m212_1n = 48 := y_eq (a := m212_1n) (b := 48) (by omega) (by omega) c298
                            refine lv_aload_n hx hb dX12_next_218 rfl (lv_at hl 1 rfl) ?_
                            refine x_getI E h (fi_mo_at g) rfl hwX12 (by decide) (by decide +kernel) (v := nI f283_26) ef283_26 dX12_next_219 ?_
                            refine lv_aload_n hx hb dX12_next_222 rfl (lv_at hl 1 rfl) ?_
                            refine x_getI E h (fi_mo_start g) rfl hwX12 (by decide) (by decide +kernel) (v := nI f1_26) e285 dX12_next_223 ?_
                            refine lv_isub hx hb dX12_next_226 ?_
                            refine lv_iconst (v := 1) hx hb dX12_next_227 (by decide) ?_
                            refine lv_icmp_le (tgt := 235) hx hb dX12_next_228 (by decide) (fun c307 => ?_) (fun c307 => ?_)
                            · skip
                              refine lv_iconst (v := 2) hx hb dX12_next_235 (by decide) ?_
                              refine y_putI E h hI_283 hF_283 (ty := .int) (v := 2) (fi_mo_sort g) rfl hwX12 tyX12_ok nmX12 (by decide) (by decide +kernel) (by decide +kernel) (by decide +kernel) rfl rfl (ba_none rfl) rfl dX12_next_236 (fun s309 H locs q309 hI309 hF309 h => ?_)
                              have e310 : s309.1 25 = nI F25 := (congrArg (fun t : ST => t.1 25) q309).trans e284
                              have e311 : s309.1 27 = nI f1_26 := (congrArg (fun t : ST => t.1 27) q309).trans e285
                              have e312 : s309.1 26 = nI f283_26 := (congrArg (fun t : ST => t.1 26) q309).trans ef283_26
                              have e313 : s309.1 29 = x288 := (congrArg (fun t : ST => t.1 29) q309).trans e288
                              have e314 : s309.1 28 = 2 := congrArg (fun t : ST => t.1 28) q309
                              refine lv_goto (tgt := 267) hx hb dX12_next_239 (by decide) ?_
                              exact x_vret E h ⟨(⟨f283_26, e312, (by omega), (by omega), (fun h9 => absurd (e314.symm.trans h9) (by decide)), (fun h9 => absurd (e314.symm.trans h9) (by decide))⟩), hI309, hF309⟩ dX12_next_267
                            · skip
                              refine lv_iconst (v := 4) hx hb dX12_next_231 (by decide) ?_
                              refine lv_goto (tgt := 236) hx hb dX12_next_232 (by decide) ?_
                              refine y_putI E h hI_283 hF_283 (ty := .int) (v := 4) (fi_mo_sort g) rfl hwX12 tyX12_ok nmX12 (by decide) (by decide +kernel) (by decide +kernel) (by decide +kernel) rfl rfl (ba_none rfl) rfl dX12_next_236 (fun s316 H locs q316 hI316 hF316 h => ?_)
                              have e317 : s316.1 25 = nI F25 := (congrArg (fun t : ST => t.1 25) q316).trans e284
                              have e318 : s316.1 27 = nI f1_26 := (congrArg (fun t : ST => t.1 27) q316).trans e285
                              have e319 : s316.1 26 = nI f283_26 := (congrArg (fun t : ST => t.1 26) q316).trans ef283_26
                              have e320 : s316.1 29 = x288 := (congrArg (fun t : ST => t.1 29) q316).trans e288
                              have e321 : s316.1 28 = 4 := congrArg (fun t : ST => t.1 28) q316
                              refine lv_goto (tgt := 267) hx hb dX12_next_239 (by decide) ?_
                              exact x_vret E h ⟨(⟨f283_26, e319, (by omega), (by omega), (fun h9 => absurd (e321.symm.trans h9) (by decide)), (fun h9 => absurd (e321.symm.trans h9) (by decide))⟩), hI316, hF316⟩ dX12_next_267
                    · skip
                      obtain rfl : f283_26 = m286_1a := y_eq (by omega) (by omega) ((ef283_26).symm.trans u286_1_0)
                      obtain rfl : F25 = m286_1T := y_eq (by omega) (by omega) ((e284).symm.trans u286_1_1)
                      refine lv_bipush (v := 48) hx hb dX12_next_142 (by decide) ?_
                      refine lv_bipush (v := 57) hx hb dX12_next_144 (by decide) ?_
                      refine x_si E h (na := 3) (As := [.int (nI m286_1n), .int 48, .int 57]) (aX12_in_0 l g t283 hI_283 (nI m286_1n) 48 57) gX12_next_X12_in rfl ⟨rfl, rfl⟩ rfl (by decide +kernel) ⟨Nat.le_of_ble_eq_true rfl, Nat.le_of_ble_eq_true rfl⟩ hl.1 rfl (Nat.le_of_ble_eq_true rfl) dX12_next_146 ⟨Nat.le_of_ble_eq_true rfl, Nat.le_of_ble_eq_true rfl⟩ (fun r322 s322 H locs q322 h => ?_)
                      obtain ⟨d322, rfl⟩ := q322
                      rcases d322 with ⟨rfl, u322_0_0, u322_0_1⟩ | ⟨rfl, u322_1_0⟩
                      · skip
                        have b323 : 48 ≤ m286_1n := y_nlt (a := m286_1n) (b := 48) (by omega) (by omega) u322_0_0
                        have b324 : m286_1n ≤ 57 := y_nlt (a := 57) (b := m286_1n) (by omega) (by omega) u322_0_1
                        refine lv_if_eq (tgt := 201) hx hb dX12_next_149 (by decide) (fun c => absurd c (by decide)) (fun _ => ?_)
                        refine lv_aload_n hx hb dX12_next_152 rfl (lv_at hl 1 rfl) ?_
                        refine lv_aload_n hx hb dX12_next_153 rfl (lv_at hl 1 rfl) ?_
                        obtain ⟨x325, e325⟩ : ∃ x, t283.1 29 = x := ⟨_, rfl⟩
                        refine x_getI E h (fi_mo_value g) rfl hwX12 (by decide) (by decide +kernel) (v := x325) e325 dX12_next_154 ?_
                        refine lv_sipush (v := 9999) hx hb dX12_next_157 (by decide) ?_
                        have j185_332 : ∀ (y332_s0 : Int32), ∀ (H : Heap) (locs : List Loc) (ls : Array Slot), HW g t283 s H locs → lv_has ls 2 [(1, .int (nI m212_1n)), (0, .ref (g.2.1 79))] → W p l e { frames := 3, cells := 0, slots := 0, locals := 71 } s m args below meth c H locs 0 0 (MQ below (XQv g (fun σ' => ((∃ a : Nat, σ'.1 26 = nI a ∧ F26 ≤ a ∧ a ≤ 200 ∧ NX σ' ∧ (σ'.1 28 = 3 → F26 < a))) ∧ INV σ' ∧ Fr [(26, 29)] [] σ σ')) args s 0 0 (Aw g)) (F0 m 185 ls [.int y332_s0, .ref (g.2.1 79)]) := by
                          intro y332_s0 H locs ls h hl
                          refine y_putI E h hI_283 hF_283 (ty := .int) (v := y332_s0) (fi_mo_value g) rfl hwX12 tyX12_ok nmX12 (by decide) (by decide +kernel) (by decide +kernel) (by decide +kernel) rfl rfl (ba_none rfl) rfl dX12_next_185 (fun s333 H locs q333 hI333 hF333 h => ?_)
                          have e334 : s333.1 25 = nI F25 := (congrArg (fun t : ST => t.1 25) q333).trans e284
                          have e335 : s333.1 27 = nI f1_26 := (congrArg (fun t : ST => t.1 27) q333).trans e285
                          have e336 : s333.1 26 = nI f283_26 := (congrArg (fun t : ST => t.1 26) q333).trans ef283_26
                          have e337 : s333.1 29 = y332_s0 := congrArg (fun t : ST => t.1 29) q333
                          refine lv_aload_n hx hb dX12_next_188 rfl (lv_at hl 1 rfl) ?_
                          refine lv_dup hx hb dX12_next_189 rfl ?_
                          refine x_getI E h (fi_mo_at g) rfl hwX12 (by decide) (by decide +kernel) (v := nI f283_26) e336 dX12_next_190 ?_
                          refine lv_iconst (v := 1) hx hb dX12_next_193 (by decide) ?_
                          refine lv_iadd hx hb dX12_next_194 ?_
                          refine x_topI (v2 := nI (f283_26 + 1)) (nI_add f283_26 1) ?_
                          refine y_putI E h hI333 hF333 (ty := .int) (v := nI (f283_26 + 1)) (fi_mo_at g) rfl hwX12 tyX12_ok nmX12 (by decide) (by decide +kernel) (by decide +kernel) (by decide +kernel) rfl rfl (ba_some rfl (Bd.mk (n := (f283_26 + 1)) (by omega))) rfl dX12_next_195 (fun s338 H locs q338 hI338 hF338 h => ?_)
                          have e339 : s338.1 25 = nI F25 := (congrArg (fun t : ST => t.1 25) q338).trans e334
                          have e340 : s338.1 27 = nI f1_26 := (congrArg (fun t : ST => t.1 27) q338).trans e335
                          have e341 : s338.1 29 = y332_s0 := (congrArg (fun t : ST => t.1 29) q338).trans e337
                          have e342 : s338.1 26 = nI (f283_26 + 1) := congrArg (fun t : ST => t.1 26) q338
                          refine lv_goto (tgt := 138) hx hb dX12_next_198 (by decide) ?_
                          exact ih283 s338 (f283_26 + 1) hI338 hF338 e339 e340 e342 (by omega) (by omega) (by omega) _ _ _ h (lv_sub hl [0, 1] rfl)
                        refine lv_icmp_le (tgt := 170) hx hb dX12_next_160 (by decide) (fun c326 => ?_) (fun c326 => ?_)
                        · skip
                          refine lv_bipush (v := 10) hx hb dX12_next_170 (by decide) ?_
                          refine lv_aload_n hx hb dX12_next_172 rfl (lv_at hl 1 rfl) ?_
                          refine x_getI E h (fi_mo_value g) rfl hwX12 (by decide) (by decide +kernel) (v := x325) e325 dX12_next_173 ?_
                          refine lv_imul hx hb dX12_next_176 ?_
                          refine lv_topi (fun x328 e328 => ?_)
                          refine lv_aload_n hx hb dX12_next_177 rfl (lv_at hl 1 rfl) ?_
                          refine x_vi E h (na := 0) (As := []) (aX12_here_0 l g t283 hI_283) (oc_mo g) rfl gX12_next_X12_here rfl ⟨rfl, rfl⟩ rfl (by decide +kernel) ⟨Nat.le_of_ble_eq_true rfl, Nat.le_of_ble_eq_true rfl⟩ hl.1 rfl (Nat.le_of_ble_eq_true rfl) dX12_next_178 ⟨Nat.le_of_ble_eq_true rfl, Nat.le_of_ble_eq_true rfl⟩ (fun r329 s329 H locs q329 h => ?_)
                          obtain ⟨d329, rfl⟩ := q329
                          rcases d329 with rfl | ⟨m329_1a, m329_1T, m329_1n, u329_1_0, u329_1_1, u329_1_2, u329_1_3, u329_1_4, rfl⟩
                          · skip
                            refine lv_iadd hx hb dX12_next_181 ?_
                            refine lv_topi (fun x330 e330 => ?_)
                            refine lv_bipush (v := 48) hx hb dX12_next_182 (by decide) ?_
                            refine lv_isub hx hb dX12_next_184 ?_
                            refine lv_topi (fun x331 e331 => ?_)
                            exact j185_332 x331 _ _ _ h (lv_sub hl [0, 1] rfl)
                          · skip
                            obtain rfl : f283_26 = m329_1a := y_eq (by omega) (by omega) ((ef283_26).symm.trans u329_1_0)
                            obtain rfl : F25 = m329_1T := y_eq (by omega) (by omega) ((e284).symm.trans u329_1_1)
                            refine lv_iadd hx hb dX12_next_181 ?_
                            refine lv_topi (fun x343 e343 => ?_)
                            refine lv_bipush (v := 48) hx hb dX12_next_182 (by decide) ?_
                            refine lv_isub hx hb dX12_next_184 ?_
                            refine lv_topi (fun x344 e344 => ?_)
                            exact j185_332 x344 _ _ _ h (lv_sub hl [0, 1] rfl)
                        · skip
                          refine lv_aload_n hx hb dX12_next_163 rfl (lv_at hl 1 rfl) ?_
                          refine x_getI E h (fi_mo_value g) rfl hwX12 (by decide) (by decide +kernel) (v := x325) e325 dX12_next_164 ?_
                          refine lv_goto (tgt := 185) hx hb dX12_next_167 (by decide) ?_
                          exact j185_332 x325 _ _ _ h (lv_sub hl [0, 1] rfl)
                      · skip
                        refine lv_if_eq (tgt := 201) hx hb dX12_next_149 (by decide) (fun _ => ?_) (fun c => absurd (by decide) c)
                        refine lv_aload_n hx hb dX12_next_201 rfl (lv_at hl 1 rfl) ?_
                        refine lv_aload_n hx hb dX12_next_202 rfl (lv_at hl 1 rfl) ?_
                        obtain ⟨x346, e346⟩ : ∃ x, t283.1 29 = x := ⟨_, rfl⟩
                        refine x_getI E h (fi_mo_value g) rfl hwX12 (by decide) (by decide +kernel) (v := x346) e346 dX12_next_203 ?_
                        refine lv_sipush (v := 9999) hx hb dX12_next_206 (by decide) ?_
                        refine lv_icmp_gt (tgt := 231) hx hb dX12_next_209 (by decide) (fun c347 => ?_) (fun c347 => ?_)
                        · skip
                          refine lv_iconst (v := 4) hx hb dX12_next_231 (by decide) ?_
                          refine lv_goto (tgt := 236) hx hb dX12_next_232 (by decide) ?_
                          refine y_putI E h hI_283 hF_283 (ty := .int) (v := 4) (fi_mo_sort g) rfl hwX12 tyX12_ok nmX12 (by decide) (by decide +kernel) (by decide +kernel) (by decide +kernel) rfl rfl (ba_none rfl) rfl dX12_next_236 (fun s349 H locs q349 hI349 hF349 h => ?_)
                          have e350 : s349.1 25 = nI F25 := (congrArg (fun t : ST => t.1 25) q349).trans e284
                          have e351 : s349.1 27 = nI f1_26 := (congrArg (fun t : ST => t.1 27) q349).trans e285
                          have e352 : s349.1 26 = nI f283_26 := (congrArg (fun t : ST => t.1 26) q349).trans ef283_26
                          have e353 : s349.1 29 = x346 := (congrArg (fun t : ST => t.1 29) q349).trans e346
                          have e354 : s349.1 28 = 4 := congrArg (fun t : ST => t.1 28) q349
                          refine lv_goto (tgt := 267) hx hb dX12_next_239 (by decide) ?_
                          exact x_vret E h ⟨(⟨f283_26, e352, (by omega), (by omega), (fun h9 => absurd (e354.symm.trans h9) (by decide)), (fun h9 => absurd (e354.symm.trans h9) (by decide))⟩), hI349, hF349⟩ dX12_next_267
                        · skip
                          refine lv_iload_n hx hb dX12_next_212 rfl (lv_at hl 0 rfl) ?_
                          refine lv_bipush (v := 48) hx hb dX12_next_213 (by decide) ?_
                          refine lv_icmp_ne (tgt := 235) hx hb dX12_next_215 (by decide) (fun c356 => ?_) (fun c356 => ?_)
                          · skip
                            have b357 : ¬ m212_1n = 48 := y_ne (a := m212_1n) (b := 48) (by omega) (by omega) c356
                            refine lv_iconst (v := 2) hx hb dX12_next_235 (by decide) ?_
                            refine y_putI E h hI_283 hF_283 (ty := .int) (v := 2) (fi_mo_sort g) rfl hwX12 tyX12_ok nmX12 (by decide) (by decide +kernel) (by decide +kernel) (by decide +kernel) rfl rfl (ba_none rfl) rfl dX12_next_236 (fun s358 H locs q358 hI358 hF358 h => ?_)
                            have e359 : s358.1 25 = nI F25 := (congrArg (fun t : ST => t.1 25) q358).trans e284
                            have e360 : s358.1 27 = nI f1_26 := (congrArg (fun t : ST => t.1 27) q358).trans e285
                            have e361 : s358.1 26 = nI f283_26 := (congrArg (fun t : ST => t.1 26) q358).trans ef283_26
                            have e362 : s358.1 29 = x346 := (congrArg (fun t : ST => t.1 29) q358).trans e346
                            have e363 : s358.1 28 = 2 := congrArg (fun t : ST => t.1 28) q358
                            refine lv_goto (tgt := 267) hx hb dX12_next_239 (by decide) ?_
                            exact x_vret E h ⟨(⟨f283_26, e361, (by omega), (by omega), (fun h9 => absurd (e363.symm.trans h9) (by decide)), (fun h9 => absurd (e363.symm.trans h9) (by decide))⟩), hI358, hF358⟩ dX12_next_267
                          · skip
                            have b364 : m212_1n = 48 := y_eq (a := m212_1n) (b := 48) (by omega) (by omega) c356
                            refine lv_aload_n hx hb dX12_next_218 rfl (lv_at hl 1 rfl) ?_
                            refine x_getI E h (fi_mo_at g) rfl hwX12 (by decide) (by decide +kernel) (v := nI f283_26) ef283_26 dX12_next_219 ?_
                            refine lv_aload_n hx hb dX12_next_222 rfl (lv_at hl 1 rfl) ?_
                            refine x_getI E h (fi_mo_start g) rfl hwX12 (by decide) (by decide +kernel) (v := nI f1_26) e285 dX12_next_223 ?_
                            refine lv_isub hx hb dX12_next_226 ?_
                            refine lv_iconst (v := 1) hx hb dX12_next_227 (by decide) ?_
                            refine lv_icmp_le (tgt := 235) hx hb dX12_next_228 (by decide) (fun c365 => ?_) (fun c365 => ?_)
                            · skip
                              refine lv_iconst (v := 2) hx hb dX12_next_235 (by decide) ?_
                              refine y_putI E h hI_283 hF_283 (ty := .int) (v := 2) (fi_mo_sort g) rfl hwX12 tyX12_ok nmX12 (by decide) (by decide +kernel) (by decide +kernel) (by decide +kernel) rfl rfl (ba_none rfl) rfl dX12_next_236 (fun s367 H locs q367 hI367 hF367 h => ?_)
                              have e368 : s367.1 25 = nI F25 := (congrArg (fun t : ST => t.1 25) q367).trans e284
                              have e369 : s367.1 27 = nI f1_26 := (congrArg (fun t : ST => t.1 27) q367).trans e285
                              have e370 : s367.1 26 = nI f283_26 := (congrArg (fun t : ST => t.1 26) q367).trans ef283_26
                              have e371 : s367.1 29 = x346 := (congrArg (fun t : ST => t.1 29) q367).trans e346
                              have e372 : s367.1 28 = 2 := congrArg (fun t : ST => t.1 28) q367
                              refine lv_goto (tgt := 267) hx hb dX12_next_239 (by decide) ?_
                              exact x_vret E h ⟨(⟨f283_26, e370, (by omega), (by omega), (fun h9 => absurd (e372.symm.trans h9) (by decide)), (fun h9 => absurd (e372.symm.trans h9) (by decide))⟩), hI367, hF367⟩ dX12_next_267
                            · skip
                              refine lv_iconst (v := 4) hx hb dX12_next_231 (by decide) ?_
                              refine lv_goto (tgt := 236) hx hb dX12_next_232 (by decide) ?_
                              refine y_putI E h hI_283 hF_283 (ty := .int) (v := 4) (fi_mo_sort g) rfl hwX12 tyX12_ok nmX12 (by decide) (by decide +kernel) (by decide +kernel) (by decide +kernel) rfl rfl (ba_none rfl) rfl dX12_next_236 (fun s374 H locs q374 hI374 hF374 h => ?_)
                              have e375 : s374.1 25 = nI F25 := (congrArg (fun t : ST => t.1 25) q374).trans e284
                              have e376 : s374.1 27 = nI f1_26 := (congrArg (fun t : ST => t.1 27) q374).trans e285
                              have e377 : s374.1 26 = nI f283_26 := (congrArg (fun t : ST => t.1 26) q374).trans ef283_26
                              have e378 : s374.1 29 = x346 := (congrArg (fun t : ST => t.1 29) q374).trans e346
                              have e379 : s374.1 28 = 4 := congrArg (fun t : ST => t.1 28) q374
                              refine lv_goto (tgt := 267) hx hb dX12_next_239 (by decide) ?_
                              exact x_vret E h ⟨(⟨f283_26, e377, (by omega), (by omega), (fun h9 => absurd (e379.symm.trans h9) (by decide)), (fun h9 => absurd (e379.symm.trans h9) (by decide))⟩), hI374, hF374⟩ dX12_next_267
                exact loop138_283 _ s207 f1_26 hI207 hF207 e208 e210 e209 (by omega) (by omega) (Nat.lt_succ_self _) _ _ _ h (lv_sub hl [0, 1] rfl)
              · skip
                refine lv_if_eq (tgt := 242) hx hb dX12_next_135 (by decide) (fun _ => ?_) (fun c => absurd (by decide) c)
                refine lv_aload_n hx hb dX12_next_242 rfl (lv_at hl 1 rfl) ?_
                refine lv_dup hx hb dX12_next_243 rfl ?_
                refine x_getI E h (fi_mo_at g) rfl hwX12 (by decide) (by decide +kernel) (v := nI f1_26) e209 dX12_next_244 ?_
                refine lv_iconst (v := 1) hx hb dX12_next_247 (by decide) ?_
                refine lv_iadd hx hb dX12_next_248 ?_
                refine x_topI (v2 := nI (f1_26 + 1)) (nI_add f1_26 1) ?_
                refine y_putI E h hI207 hF207 (ty := .int) (v := nI (f1_26 + 1)) (fi_mo_at g) rfl hwX12 tyX12_ok nmX12 (by decide) (by decide +kernel) (by decide +kernel) (by decide +kernel) rfl rfl (ba_some rfl (Bd.mk (n := (f1_26 + 1)) (by omega))) rfl dX12_next_249 (fun s380 H locs q380 hI380 hF380 h => ?_)
                have e381 : s380.1 25 = nI F25 := (congrArg (fun t : ST => t.1 25) q380).trans e208
                have e382 : s380.1 27 = nI f1_26 := (congrArg (fun t : ST => t.1 27) q380).trans e210
                have e383 : s380.1 29 = 0 := (congrArg (fun t : ST => t.1 29) q380).trans e211
                have e384 : s380.1 26 = nI (f1_26 + 1) := congrArg (fun t : ST => t.1 26) q380
                refine lv_aload_n hx hb dX12_next_252 rfl (lv_at hl 1 rfl) ?_
                refine lv_iload_n hx hb dX12_next_253 rfl (lv_at hl 0 rfl) ?_
                refine lv_bipush (v := 59) hx hb dX12_next_254 (by decide) ?_
                refine lv_icmp_ne (tgt := 263) hx hb dX12_next_256 (by decide) (fun c385 => ?_) (fun c385 => ?_)
                · skip
                  have b386 : ¬ m212_1n = 59 := y_ne (a := m212_1n) (b := 59) (by omega) (by omega) c385
                  refine lv_iconst (v := 4) hx hb dX12_next_263 (by decide) ?_
                  refine y_putI E h hI380 hF380 (ty := .int) (v := 4) (fi_mo_sort g) rfl hwX12 tyX12_ok nmX12 (by decide) (by decide +kernel) (by decide +kernel) (by decide +kernel) rfl rfl (ba_none rfl) rfl dX12_next_264 (fun s387 H locs q387 hI387 hF387 h => ?_)
                  have e388 : s387.1 25 = nI F25 := (congrArg (fun t : ST => t.1 25) q387).trans e381
                  have e389 : s387.1 27 = nI f1_26 := (congrArg (fun t : ST => t.1 27) q387).trans e382
                  have e390 : s387.1 29 = 0 := (congrArg (fun t : ST => t.1 29) q387).trans e383
                  have e391 : s387.1 26 = nI (f1_26 + 1) := (congrArg (fun t : ST => t.1 26) q387).trans e384
                  have e392 : s387.1 28 = 4 := congrArg (fun t : ST => t.1 28) q387
                  exact x_vret E h ⟨(⟨(f1_26 + 1), e391, (by omega), (by omega), (fun h9 => absurd (e392.symm.trans h9) (by decide)), (fun h9 => absurd (e392.symm.trans h9) (by decide))⟩), hI387, hF387⟩ dX12_next_267
                · skip
                  have b393 : m212_1n = 59 := y_eq (a := m212_1n) (b := 59) (by omega) (by omega) c385
                  refine lv_iconst (v := 3) hx hb dX12_next_259 (by decide) ?_
                  refine lv_goto (tgt := 264) hx hb dX12_next_260 (by decide) ?_
                  refine y_putI E h hI380 hF380 (ty := .int) (v := 3) (fi_mo_sort g) rfl hwX12 tyX12_ok nmX12 (by decide) (by decide +kernel) (by decide +kernel) (by decide +kernel) rfl rfl (ba_none rfl) rfl dX12_next_264 (fun s394 H locs q394 hI394 hF394 h => ?_)
                  have e395 : s394.1 25 = nI F25 := (congrArg (fun t : ST => t.1 25) q394).trans e381
                  have e396 : s394.1 27 = nI f1_26 := (congrArg (fun t : ST => t.1 27) q394).trans e382
                  have e397 : s394.1 29 = 0 := (congrArg (fun t : ST => t.1 29) q394).trans e383
                  have e398 : s394.1 26 = nI (f1_26 + 1) := (congrArg (fun t : ST => t.1 26) q394).trans e384
                  have e399 : s394.1 28 = 3 := congrArg (fun t : ST => t.1 28) q394
                  exact x_vret E h ⟨(⟨(f1_26 + 1), e398, (by omega), (by omega), (fun h9 => absurd (e399.symm.trans h9) (by decide)), (fun _ => by omega)⟩), hI394, hF394⟩ dX12_next_267
        · skip
          have b400 : m3_1n = 32 := y_eq (a := m3_1n) (b := 32) (by omega) (by omega) c201
          refine lv_aload_n hx hb dX12_next_9 rfl (lv_at hl 0 rfl) ?_
          refine lv_dup hx hb dX12_next_10 rfl ?_
          refine x_getI E h (fi_mo_at g) rfl hwX12 (by decide) (by decide +kernel) (v := nI f1_26) ef1_26 dX12_next_11 ?_
          refine lv_iconst (v := 1) hx hb dX12_next_14 (by decide) ?_
          refine lv_iadd hx hb dX12_next_15 ?_
          refine x_topI (v2 := nI (f1_26 + 1)) (nI_add f1_26 1) ?_
          refine y_putI E h hI_1 hF_1 (ty := .int) (v := nI (f1_26 + 1)) (fi_mo_at g) rfl hwX12 tyX12_ok nmX12 (by decide) (by decide +kernel) (by decide +kernel) (by decide +kernel) rfl rfl (ba_some rfl (Bd.mk (n := (f1_26 + 1)) (by omega))) rfl dX12_next_16 (fun s401 H locs q401 hI401 hF401 h => ?_)
          have e402 : s401.1 25 = nI F25 := (congrArg (fun t : ST => t.1 25) q401).trans e2
          have e403 : s401.1 26 = nI (f1_26 + 1) := congrArg (fun t : ST => t.1 26) q401
          refine lv_goto (tgt := 0) hx hb dX12_next_19 (by decide) ?_
          exact ih1 s401 (f1_26 + 1) hI401 hF401 e402 e403 (by omega) (by omega) (by omega) _ _ _ h (lv_sub hl [0] rfl)
  exact loop0_1 _ σ F26 hI hF eF25 eF26 (by omega) (by omega) (Nat.lt_succ_self _) _ _ _ h (lv_sub hl [0] rfl)
set_option maxHeartbeats 4000000 in
set_option maxRecDepth 100000 in
theorem aX12_due_0 (l : Launch) (g : CX) (σ : ST) (hI : INV σ) (F25 : Nat) (eF25 : σ.1 25 = nI F25) (F26 : Nat) (eF26 : σ.1 26 = nI F26) (eF30 : σ.1 30 = (-9)) (hh0 : F25 ≤ 200) (hh1 : F26 ≤ 200) : XM l g yX12_due wsX12_due { frames := 0, cells := 0, slots := 0, locals := 0 } [.ref (g.2.1 79), .int 0] σ (XQi g (fun r σ' => ((∃ s : Nat, σ'.1 30 = nI s ∧ s ≤ 200)) ∧ INV σ' ∧ Fr [(30, 30)] [] σ σ')) := by
  refine x_met (own := RX12) (cc := cX12_due) (maxL := 3) (ret := (some .int)) (lv := [(0, .ref (g.2.1 79)), (1, .int 0)]) (by decide) rfl rfl (Nat.le_of_ble_eq_true rfl) rfl ?_
  intro p e s m args below meth c ls E h hl
  have hx := E.1
  have hb := E.2.1
  have hown := E.2.2.2.1
  have hts := E.2.2.2.2.1
  have hF : Fr [(30, 30)] [] σ σ := Fr.refl σ
  have hwX12 : ∀ w ∈ wsX120, w ∈ wsX12_due := by decide +kernel
  refine lv_aload_n hx hb dX12_due_0 rfl (lv_at hl 0 rfl) ?_
  obtain ⟨x1, e1⟩ : ∃ x, σ.1 29 = x := ⟨_, rfl⟩
  refine x_getI E h (fi_mo_value g) rfl hwX12 (by decide) (by decide +kernel) (v := x1) e1 dX12_due_1 ?_
  refine lv_istore_n (lv' := [(2, .int x1), (0, .ref (g.2.1 79)), (1, .int 0)]) hx hb dX12_due_4 rfl hl (by decide) rfl (fun ls hl => ?_)
  refine lv_aload_n hx hb dX12_due_5 rfl (lv_at hl 1 rfl) ?_
  refine x_getI E h (fi_mo_fault g) rfl hwX12 (by decide) (by decide +kernel) (v := (-9)) eF30 dX12_due_6 ?_
  refine lv_bipush (v := (-9)) hx hb dX12_due_9 (by decide) ?_
  refine lv_icmp_ne (tgt := 33) hx hb dX12_due_11 (by decide) (fun c => absurd (by decide) c) (fun _ => ?_)
  refine lv_iload_n hx hb dX12_due_14 rfl (lv_at hl 2 rfl) ?_
  refine lv_if_eq (tgt := 25) hx hb dX12_due_15 (by decide) (fun _ => ?_) (fun c => absurd (by decide) c)
  refine lv_aload_n hx hb dX12_due_25 rfl (lv_at hl 1 rfl) ?_
  refine lv_aload_n hx hb dX12_due_26 rfl (lv_at hl 1 rfl) ?_
  obtain ⟨n2, b2, e2⟩ := hI.1 27 200 rfl
  refine x_getI E h (fi_mo_start g) rfl hwX12 (by decide) (by decide +kernel) (v := nI n2) e2 dX12_due_27 ?_
  refine y_putI E h hI hF (ty := .int) (v := nI n2) (fi_mo_fault g) rfl hwX12 tyX12_ok nmX12 (by decide) (by decide +kernel) (by decide +kernel) (by decide +kernel) rfl rfl (ba_none rfl) rfl dX12_due_30 (fun s3 H locs q3 hI3 hF3 h => ?_)
  have e4 : s3.1 25 = nI F25 := (congrArg (fun t : ST => t.1 25) q3).trans eF25
  have e5 : s3.1 26 = nI F26 := (congrArg (fun t : ST => t.1 26) q3).trans eF26
  have e6 : s3.1 29 = x1 := (congrArg (fun t : ST => t.1 29) q3).trans e1
  have e7 : s3.1 27 = nI n2 := (congrArg (fun t : ST => t.1 27) q3).trans e2
  have e8 : s3.1 30 = nI n2 := congrArg (fun t : ST => t.1 30) q3
  refine lv_iload_n hx hb dX12_due_33 rfl (lv_at hl 0 rfl) ?_
  exact x_iret E h ⟨(⟨n2, e8, (by omega)⟩), hI3, hF3⟩ dX12_due_34
set_option maxHeartbeats 4000000 in
set_option maxRecDepth 100000 in
theorem aX12_due_1 (l : Launch) (g : CX) (σ : ST) (hI : INV σ) (F25 : Nat) (eF25 : σ.1 25 = nI F25) (F26 : Nat) (eF26 : σ.1 26 = nI F26) (F29 : Nat) (eF29 : σ.1 29 = nI F29) (eF30 : σ.1 30 = (-9)) (hh0 : F25 ≤ 200) (hh1 : F26 ≤ 200) : XM l g yX12_due wsX12_due { frames := 0, cells := 0, slots := 0, locals := 0 } [.ref (g.2.1 79), .int 0] σ (XQi g (fun r σ' => ((∃ s n : Nat, σ'.1 30 = nI s ∧ s ≤ 200 ∧ n = F29 ∧ r = nI n)) ∧ INV σ' ∧ Fr [(30, 30)] [] σ σ')) := by
  refine x_met (own := RX12) (cc := cX12_due) (maxL := 3) (ret := (some .int)) (lv := [(0, .ref (g.2.1 79)), (1, .int 0)]) (by decide) rfl rfl (Nat.le_of_ble_eq_true rfl) rfl ?_
  intro p e s m args below meth c ls E h hl
  have hx := E.1
  have hb := E.2.1
  have hown := E.2.2.2.1
  have hts := E.2.2.2.2.1
  have hF : Fr [(30, 30)] [] σ σ := Fr.refl σ
  have hwX12 : ∀ w ∈ wsX120, w ∈ wsX12_due := by decide +kernel
  refine lv_aload_n hx hb dX12_due_0 rfl (lv_at hl 0 rfl) ?_
  refine x_getI E h (fi_mo_value g) rfl hwX12 (by decide) (by decide +kernel) (v := nI F29) eF29 dX12_due_1 ?_
  refine lv_istore_n (lv' := [(2, .int (nI F29)), (0, .ref (g.2.1 79)), (1, .int 0)]) hx hb dX12_due_4 rfl hl (by decide) rfl (fun ls hl => ?_)
  refine lv_aload_n hx hb dX12_due_5 rfl (lv_at hl 1 rfl) ?_
  refine x_getI E h (fi_mo_fault g) rfl hwX12 (by decide) (by decide +kernel) (v := (-9)) eF30 dX12_due_6 ?_
  refine lv_bipush (v := (-9)) hx hb dX12_due_9 (by decide) ?_
  refine lv_icmp_ne (tgt := 33) hx hb dX12_due_11 (by decide) (fun c => absurd (by decide) c) (fun _ => ?_)
  refine lv_iload_n hx hb dX12_due_14 rfl (lv_at hl 2 rfl) ?_
  refine lv_if_eq (tgt := 25) hx hb dX12_due_15 (by decide) (fun _ => ?_) (fun c => absurd (by decide) c)
  refine lv_aload_n hx hb dX12_due_25 rfl (lv_at hl 1 rfl) ?_
  refine lv_aload_n hx hb dX12_due_26 rfl (lv_at hl 1 rfl) ?_
  obtain ⟨n1, b1, e1⟩ := hI.1 27 200 rfl
  refine x_getI E h (fi_mo_start g) rfl hwX12 (by decide) (by decide +kernel) (v := nI n1) e1 dX12_due_27 ?_
  refine y_putI E h hI hF (ty := .int) (v := nI n1) (fi_mo_fault g) rfl hwX12 tyX12_ok nmX12 (by decide) (by decide +kernel) (by decide +kernel) (by decide +kernel) rfl rfl (ba_none rfl) rfl dX12_due_30 (fun s2 H locs q2 hI2 hF2 h => ?_)
  have e3 : s2.1 25 = nI F25 := (congrArg (fun t : ST => t.1 25) q2).trans eF25
  have e4 : s2.1 26 = nI F26 := (congrArg (fun t : ST => t.1 26) q2).trans eF26
  have e5 : s2.1 29 = nI F29 := (congrArg (fun t : ST => t.1 29) q2).trans eF29
  have e6 : s2.1 27 = nI n1 := (congrArg (fun t : ST => t.1 27) q2).trans e1
  have e7 : s2.1 30 = nI n1 := congrArg (fun t : ST => t.1 30) q2
  refine lv_iload_n hx hb dX12_due_33 rfl (lv_at hl 0 rfl) ?_
  exact x_iret E h ⟨(⟨n1, F29, e7, (by omega), (by omega), rfl⟩), hI2, hF2⟩ dX12_due_34
set_option maxHeartbeats 4000000 in
set_option maxRecDepth 100000 in
theorem aX12_due_2 (l : Launch) (g : CX) (σ : ST) (hI : INV σ) (F25 : Nat) (eF25 : σ.1 25 = nI F25) (F26 : Nat) (eF26 : σ.1 26 = nI F26) (F29 : Nat) (eF29 : σ.1 29 = nI F29) (eF30 : σ.1 30 = (-9)) (hh0 : F25 ≤ 200) (hh1 : F26 ≤ 200) : XM l g yX12_due wsX12_due { frames := 4, cells := 0, slots := 0, locals := 92 } [.ref (g.2.1 79), .int 1] σ (XQi g (fun r σ' => ((∃ a n : Nat, σ'.1 26 = nI a ∧ F26 ≤ a ∧ a ≤ 200 ∧ NX σ' ∧ (σ'.1 28 = 3 → F26 < a) ∧ n = F29 ∧ r = nI n)) ∧ INV σ' ∧ Fr [(26, 29)] [] σ σ')) := by
  refine x_met (own := RX12) (cc := cX12_due) (maxL := 3) (ret := (some .int)) (lv := [(0, .ref (g.2.1 79)), (1, .int 1)]) (by decide) rfl rfl (Nat.le_of_ble_eq_true rfl) rfl ?_
  intro p e s m args below meth c ls E h hl
  have hx := E.1
  have hb := E.2.1
  have hown := E.2.2.2.1
  have hts := E.2.2.2.2.1
  have hF : Fr [(26, 29)] [] σ σ := Fr.refl σ
  have hwX12 : ∀ w ∈ wsX120, w ∈ wsX12_due := by decide +kernel
  refine lv_aload_n hx hb dX12_due_0 rfl (lv_at hl 0 rfl) ?_
  refine x_getI E h (fi_mo_value g) rfl hwX12 (by decide) (by decide +kernel) (v := nI F29) eF29 dX12_due_1 ?_
  refine lv_istore_n (lv' := [(2, .int (nI F29)), (0, .ref (g.2.1 79)), (1, .int 1)]) hx hb dX12_due_4 rfl hl (by decide) rfl (fun ls hl => ?_)
  refine lv_aload_n hx hb dX12_due_5 rfl (lv_at hl 1 rfl) ?_
  refine x_getI E h (fi_mo_fault g) rfl hwX12 (by decide) (by decide +kernel) (v := (-9)) eF30 dX12_due_6 ?_
  refine lv_bipush (v := (-9)) hx hb dX12_due_9 (by decide) ?_
  refine lv_icmp_ne (tgt := 33) hx hb dX12_due_11 (by decide) (fun c => absurd (by decide) c) (fun _ => ?_)
  refine lv_iload_n hx hb dX12_due_14 rfl (lv_at hl 2 rfl) ?_
  refine lv_if_eq (tgt := 25) hx hb dX12_due_15 (by decide) (fun c => absurd c (by decide)) (fun _ => ?_)
  refine lv_aload_n hx hb dX12_due_18 rfl (lv_at hl 1 rfl) ?_
  refine x_vv E h (na := 0) (As := []) (aX12_next_0 l g σ hI F25 eF25 F26 eF26 (by omega) (by omega)) (oc_mo g) rfl gX12_due_X12_next rfl ⟨rfl, rfl⟩ rfl (by decide +kernel) ⟨Nat.le_of_ble_eq_true rfl, Nat.le_of_ble_eq_true rfl⟩ hl.1 rfl (Nat.le_of_ble_eq_true rfl) dX12_due_19 ⟨Nat.le_of_ble_eq_true rfl, Nat.le_of_ble_eq_true rfl⟩ (fun s1 H locs q1 h => ?_)
  obtain ⟨d1, hI1, f1⟩ := q1
  have hF1 := hF.call f1 (I := [(26, 29)]) (J := []) rfl rfl
  have e2 : s1.1 25 = nI F25 := ((f1.1 25 rfl)).trans eF25
  have e3 : s1.1 30 = (-9) := ((f1.1 30 rfl)).trans eF30
  rcases d1 with ⟨m1_0a, u1_0_0, u1_0_1, u1_0_2, u1_0_3, u1_0_4⟩
  refine lv_goto (tgt := 33) hx hb dX12_due_22 (by decide) ?_
  refine lv_iload_n hx hb dX12_due_33 rfl (lv_at hl 0 rfl) ?_
  exact x_iret E h ⟨(⟨m1_0a, F29, u1_0_0, (by omega), (by omega), u1_0_3, u1_0_4, (by omega), rfl⟩), hI1, hF1⟩ dX12_due_34
set_option maxHeartbeats 4000000 in
set_option maxRecDepth 100000 in
theorem aX12_due_3 (l : Launch) (g : CX) (σ : ST) (hI : INV σ) (F25 : Nat) (eF25 : σ.1 25 = nI F25) (F26 : Nat) (eF26 : σ.1 26 = nI F26) (F30 : Nat) (eF30 : σ.1 30 = nI F30) (hh0 : F25 ≤ 200) (hh1 : F26 ≤ 200) (hh2 : F30 ≤ 200) : XM l g yX12_due wsX12_due { frames := 0, cells := 0, slots := 0, locals := 0 } [.ref (g.2.1 79), .int 0] σ (XQi g (fun r σ' => INV σ' ∧ Fr [] [] σ σ')) := by
  refine x_met (own := RX12) (cc := cX12_due) (maxL := 3) (ret := (some .int)) (lv := [(0, .ref (g.2.1 79)), (1, .int 0)]) (by decide) rfl rfl (Nat.le_of_ble_eq_true rfl) rfl ?_
  intro p e s m args below meth c ls E h hl
  have hx := E.1
  have hb := E.2.1
  have hown := E.2.2.2.1
  have hts := E.2.2.2.2.1
  have hF : Fr [] [] σ σ := Fr.refl σ
  have hwX12 : ∀ w ∈ wsX120, w ∈ wsX12_due := by decide +kernel
  refine lv_aload_n hx hb dX12_due_0 rfl (lv_at hl 0 rfl) ?_
  obtain ⟨x1, e1⟩ : ∃ x, σ.1 29 = x := ⟨_, rfl⟩
  refine x_getI E h (fi_mo_value g) rfl hwX12 (by decide) (by decide +kernel) (v := x1) e1 dX12_due_1 ?_
  refine lv_istore_n (lv' := [(2, .int x1), (0, .ref (g.2.1 79)), (1, .int 0)]) hx hb dX12_due_4 rfl hl (by decide) rfl (fun ls hl => ?_)
  refine lv_aload_n hx hb dX12_due_5 rfl (lv_at hl 1 rfl) ?_
  refine x_getI E h (fi_mo_fault g) rfl hwX12 (by decide) (by decide +kernel) (v := nI F30) eF30 dX12_due_6 ?_
  refine lv_bipush (v := (-9)) hx hb dX12_due_9 (by decide) ?_
  refine lv_icmp_ne (tgt := 33) hx hb dX12_due_11 (by decide) (fun _ => ?_) (fun c => absurd c (y_neq F30 (by omega) (by decide)))
  refine lv_iload_n hx hb dX12_due_33 rfl (lv_at hl 0 rfl) ?_
  exact x_iret E h ⟨hI, hF⟩ dX12_due_34
set_option maxHeartbeats 4000000 in
set_option maxRecDepth 100000 in
theorem aX12_due_4 (l : Launch) (g : CX) (σ : ST) (hI : INV σ) (F25 : Nat) (eF25 : σ.1 25 = nI F25) (F26 : Nat) (eF26 : σ.1 26 = nI F26) (F30 : Nat) (eF30 : σ.1 30 = nI F30) (hh0 : F25 ≤ 200) (hh1 : F26 ≤ 200) (hh2 : F30 ≤ 200) : XM l g yX12_due wsX12_due { frames := 0, cells := 0, slots := 0, locals := 0 } [.ref (g.2.1 79), .int 1] σ (XQi g (fun r σ' => INV σ' ∧ Fr [] [] σ σ')) := by
  refine x_met (own := RX12) (cc := cX12_due) (maxL := 3) (ret := (some .int)) (lv := [(0, .ref (g.2.1 79)), (1, .int 1)]) (by decide) rfl rfl (Nat.le_of_ble_eq_true rfl) rfl ?_
  intro p e s m args below meth c ls E h hl
  have hx := E.1
  have hb := E.2.1
  have hown := E.2.2.2.1
  have hts := E.2.2.2.2.1
  have hF : Fr [] [] σ σ := Fr.refl σ
  have hwX12 : ∀ w ∈ wsX120, w ∈ wsX12_due := by decide +kernel
  refine lv_aload_n hx hb dX12_due_0 rfl (lv_at hl 0 rfl) ?_
  obtain ⟨x1, e1⟩ : ∃ x, σ.1 29 = x := ⟨_, rfl⟩
  refine x_getI E h (fi_mo_value g) rfl hwX12 (by decide) (by decide +kernel) (v := x1) e1 dX12_due_1 ?_
  refine lv_istore_n (lv' := [(2, .int x1), (0, .ref (g.2.1 79)), (1, .int 1)]) hx hb dX12_due_4 rfl hl (by decide) rfl (fun ls hl => ?_)
  refine lv_aload_n hx hb dX12_due_5 rfl (lv_at hl 1 rfl) ?_
  refine x_getI E h (fi_mo_fault g) rfl hwX12 (by decide) (by decide +kernel) (v := nI F30) eF30 dX12_due_6 ?_
  refine lv_bipush (v := (-9)) hx hb dX12_due_9 (by decide) ?_
  refine lv_icmp_ne (tgt := 33) hx hb dX12_due_11 (by decide) (fun _ => ?_) (fun c => absurd c (y_neq F30 (by omega) (by decide)))
  refine lv_iload_n hx hb dX12_due_33 rfl (lv_at hl 0 rfl) ?_
  exact x_iret E h ⟨hI, hF⟩ dX12_due_34
set_option maxHeartbeats 4000000 in
set_option maxRecDepth 100000 in
theorem aX12_most_0 (l : Launch) (g : CX) (σ : ST) (hI : INV σ) (p0 : Int32) : XM l g yX12_most wsX12_most { frames := 0, cells := 0, slots := 0, locals := 0 } [.int p0] σ (XQi g (fun r σ' => σ = σ')) := by
  refine x_met (own := RX12) (cc := cX12_most) (maxL := 1) (ret := (some .int)) (lv := [(0, .int p0)]) (by decide) rfl rfl (Nat.le_of_ble_eq_true rfl) rfl ?_
  intro p e s m args below meth c ls E h hl
  have hx := E.1
  have hb := E.2.1
  have hown := E.2.2.2.1
  have hts := E.2.2.2.2.1
  refine lv_iload_n hx hb dX12_most_0 rfl (lv_at hl 0 rfl) ?_
  refine lv_if_eq (tgt := 9) hx hb dX12_most_1 (by decide) (fun c1 => ?_) (fun c1 => ?_)
  · skip
    refine lv_sipush (v := 999) hx hb dX12_most_9 (by decide) ?_
    refine lv_goto (tgt := 29) hx hb dX12_most_12 (by decide) ?_
    exact x_iret E h rfl dX12_most_29
  · skip
    refine lv_iload_n hx hb dX12_most_4 rfl (lv_at hl 0 rfl) ?_
    refine lv_iconst (v := 4) hx hb dX12_most_5 (by decide) ?_
    refine lv_icmp_ne (tgt := 15) hx hb dX12_most_6 (by decide) (fun c4 => ?_) (fun c4 => ?_)
    · skip
      refine lv_iload_n hx hb dX12_most_15 rfl (lv_at hl 0 rfl) ?_
      refine lv_iconst (v := 3) hx hb dX12_most_16 (by decide) ?_
      refine lv_icmp_ne (tgt := 26) hx hb dX12_most_17 (by decide) (fun c6 => ?_) (fun c6 => ?_)
      · skip
        refine lv_sipush (v := 399) hx hb dX12_most_26 (by decide) ?_
        exact x_iret E h rfl dX12_most_29
      · skip
        refine lv_sipush (v := 9999) hx hb dX12_most_20 (by decide) ?_
        refine lv_goto (tgt := 29) hx hb dX12_most_23 (by decide) ?_
        exact x_iret E h rfl dX12_most_29
    · skip
      refine lv_sipush (v := 999) hx hb dX12_most_9 (by decide) ?_
      refine lv_goto (tgt := 29) hx hb dX12_most_12 (by decide) ?_
      exact x_iret E h rfl dX12_most_29
set_option maxHeartbeats 4000000 in
set_option maxRecDepth 100000 in
theorem aX12_due_5 (l : Launch) (g : CX) (σ : ST) (hI : INV σ) (F25 : Nat) (eF25 : σ.1 25 = nI F25) (F26 : Nat) (eF26 : σ.1 26 = nI F26) (eF30 : σ.1 30 = (-9)) (hh0 : F25 ≤ 200) (hh1 : F26 ≤ 200) : XM l g yX12_due wsX12_due { frames := 4, cells := 0, slots := 0, locals := 92 } [.ref (g.2.1 79), .int 1] σ (XQi g (fun r σ' => ((∃ a : Nat, σ'.1 26 = nI a ∧ F26 ≤ a ∧ a ≤ 200 ∧ NX σ' ∧ (σ'.1 28 = 3 → F26 < a))) ∧ INV σ' ∧ Fr [(26, 29)] [] σ σ')) := by
  refine x_met (own := RX12) (cc := cX12_due) (maxL := 3) (ret := (some .int)) (lv := [(0, .ref (g.2.1 79)), (1, .int 1)]) (by decide) rfl rfl (Nat.le_of_ble_eq_true rfl) rfl ?_
  intro p e s m args below meth c ls E h hl
  have hx := E.1
  have hb := E.2.1
  have hown := E.2.2.2.1
  have hts := E.2.2.2.2.1
  have hF : Fr [(26, 29)] [] σ σ := Fr.refl σ
  have hwX12 : ∀ w ∈ wsX120, w ∈ wsX12_due := by decide +kernel
  refine lv_aload_n hx hb dX12_due_0 rfl (lv_at hl 0 rfl) ?_
  obtain ⟨x1, e1⟩ : ∃ x, σ.1 29 = x := ⟨_, rfl⟩
  refine x_getI E h (fi_mo_value g) rfl hwX12 (by decide) (by decide +kernel) (v := x1) e1 dX12_due_1 ?_
  refine lv_istore_n (lv' := [(2, .int x1), (0, .ref (g.2.1 79)), (1, .int 1)]) hx hb dX12_due_4 rfl hl (by decide) rfl (fun ls hl => ?_)
  refine lv_aload_n hx hb dX12_due_5 rfl (lv_at hl 1 rfl) ?_
  refine x_getI E h (fi_mo_fault g) rfl hwX12 (by decide) (by decide +kernel) (v := (-9)) eF30 dX12_due_6 ?_
  refine lv_bipush (v := (-9)) hx hb dX12_due_9 (by decide) ?_
  refine lv_icmp_ne (tgt := 33) hx hb dX12_due_11 (by decide) (fun c => absurd (by decide) c) (fun _ => ?_)
  refine lv_iload_n hx hb dX12_due_14 rfl (lv_at hl 2 rfl) ?_
  refine lv_if_eq (tgt := 25) hx hb dX12_due_15 (by decide) (fun c => absurd c (by decide)) (fun _ => ?_)
  refine lv_aload_n hx hb dX12_due_18 rfl (lv_at hl 1 rfl) ?_
  refine x_vv E h (na := 0) (As := []) (aX12_next_0 l g σ hI F25 eF25 F26 eF26 (by omega) (by omega)) (oc_mo g) rfl gX12_due_X12_next rfl ⟨rfl, rfl⟩ rfl (by decide +kernel) ⟨Nat.le_of_ble_eq_true rfl, Nat.le_of_ble_eq_true rfl⟩ hl.1 rfl (Nat.le_of_ble_eq_true rfl) dX12_due_19 ⟨Nat.le_of_ble_eq_true rfl, Nat.le_of_ble_eq_true rfl⟩ (fun s2 H locs q2 h => ?_)
  obtain ⟨d2, hI2, f2⟩ := q2
  have hF2 := hF.call f2 (I := [(26, 29)]) (J := []) rfl rfl
  have e3 : s2.1 25 = nI F25 := ((f2.1 25 rfl)).trans eF25
  have e4 : s2.1 30 = (-9) := ((f2.1 30 rfl)).trans eF30
  rcases d2 with ⟨m2_0a, u2_0_0, u2_0_1, u2_0_2, u2_0_3, u2_0_4⟩
  refine lv_goto (tgt := 33) hx hb dX12_due_22 (by decide) ?_
  refine lv_iload_n hx hb dX12_due_33 rfl (lv_at hl 0 rfl) ?_
  exact x_iret E h ⟨(⟨m2_0a, u2_0_0, (by omega), (by omega), u2_0_3, u2_0_4⟩), hI2, hF2⟩ dX12_due_34
set_option maxHeartbeats 4000000 in
set_option maxRecDepth 100000 in
theorem aX12_rules_0 (l : Launch) (g : CX) (σ : ST) (hI : INV σ)  : XM l g yX12_rules wsX12_rules { frames := 5, cells := 0, slots := 0, locals := 114 } [.ref (g.2.1 79)] σ (XQi g (fun r σ' => INV σ' ∧ Fr [(25, 30)] [(66, 66)] σ σ')) := by
  refine x_met (own := RX12) (cc := cX12_rules) (maxL := 5) (ret := (some .int)) (lv := [(0, .ref (g.2.1 79))]) (by decide) rfl rfl (Nat.le_of_ble_eq_true rfl) rfl ?_
  intro p e s m args below meth c ls E h hl
  have hx := E.1
  have hb := E.2.1
  have hown := E.2.2.2.1
  have hts := E.2.2.2.2.1
  have hF : Fr [(25, 30)] [(66, 66)] σ σ := Fr.refl σ
  have hwX12 : ∀ w ∈ wsX120, w ∈ wsX12_rules := by decide +kernel
  refine lv_aload_n hx hb dX12_rules_0 rfl (lv_at hl 0 rfl) ?_
  refine lv_iconst (v := 0) hx hb dX12_rules_1 (by decide) ?_
  refine y_putI E h hI hF (ty := .int) (v := nI 0) (fi_mo_at g) rfl hwX12 tyX12_ok nmX12 (by decide) (by decide +kernel) (by decide +kernel) (by decide +kernel) rfl rfl (ba_some rfl (Bd.mk (n := 0) (by omega))) rfl dX12_rules_2 (fun s1 H locs q1 hI1 hF1 h => ?_)
  have e2 : s1.1 26 = nI 0 := congrArg (fun t : ST => t.1 26) q1
  refine lv_aload_n hx hb dX12_rules_5 rfl (lv_at hl 0 rfl) ?_
  refine lv_bipush (v := (-9)) hx hb dX12_rules_6 (by decide) ?_
  refine y_putI E h hI1 hF1 (ty := .int) (v := (-9)) (fi_mo_fault g) rfl hwX12 tyX12_ok nmX12 (by decide) (by decide +kernel) (by decide +kernel) (by decide +kernel) rfl rfl (ba_none rfl) rfl dX12_rules_8 (fun s3 H locs q3 hI3 hF3 h => ?_)
  have e4 : s3.1 26 = 0 := (congrArg (fun t : ST => t.1 26) q3).trans e2
  have e5 : s3.1 30 = (-9) := congrArg (fun t : ST => t.1 30) q3
  refine lv_iconst (v := 0) hx hb dX12_rules_11 (by decide) ?_
  refine lv_istore_n (lv' := [(1, .int 0), (0, .ref (g.2.1 79))]) hx hb dX12_rules_12 rfl hl (by decide) rfl (fun ls hl => ?_)
  refine lv_iconst (v := 0) hx hb dX12_rules_13 (by decide) ?_
  refine lv_istore_n (lv' := [(2, .int 0), (1, .int 0), (0, .ref (g.2.1 79))]) hx hb dX12_rules_14 rfl hl (by decide) rfl (fun ls hl => ?_)
  refine lv_aload_n hx hb dX12_rules_15 rfl (lv_at hl 2 rfl) ?_
  refine lv_bipush (v := 6) hx hb dX12_rules_16 (by decide) ?_
  refine x_vv E h (na := 1) (As := [.int 6]) (aX12_atFirst_0 l g s3 hI3) (oc_mo g) rfl gX12_rules_X12_atFirst rfl ⟨rfl, rfl⟩ rfl (by decide +kernel) ⟨Nat.le_of_ble_eq_true rfl, Nat.le_of_ble_eq_true rfl⟩ hl.1 rfl (Nat.le_of_ble_eq_true rfl) dX12_rules_18 ⟨Nat.le_of_ble_eq_true rfl, Nat.le_of_ble_eq_true rfl⟩ (fun s6 H locs q6 h => ?_)
  obtain ⟨hI6, f6⟩ := q6
  have hF6 := hF3.call f6 (I := [(25, 30)]) (J := [(66, 66)]) rfl rfl
  have e7 : s6.1 26 = 0 := ((f6.1 26 rfl)).trans e4
  have e8 : s6.1 30 = (-9) := ((f6.1 30 rfl)).trans e5
  refine lv_aload_n hx hb dX12_rules_21 rfl (lv_at hl 2 rfl) ?_
  obtain ⟨n9, b9, e9⟩ := hI6.1 25 200 rfl
  refine x_vv E h (na := 0) (As := []) (aX12_next_0 l g s6 hI6 n9 e9 0 e7 (by omega) (by omega)) (oc_mo g) rfl gX12_rules_X12_next rfl ⟨rfl, rfl⟩ rfl (by decide +kernel) ⟨Nat.le_of_ble_eq_true rfl, Nat.le_of_ble_eq_true rfl⟩ hl.1 rfl (Nat.le_of_ble_eq_true rfl) dX12_rules_22 ⟨Nat.le_of_ble_eq_true rfl, Nat.le_of_ble_eq_true rfl⟩ (fun s10 H locs q10 h => ?_)
  obtain ⟨d10, hI10, f10⟩ := q10
  have hF10 := hF6.call f10 (I := [(25, 30)]) (J := [(66, 66)]) rfl rfl
  have e11 : s10.1 30 = (-9) := ((f10.1 30 rfl)).trans e8
  have e12 : s10.1 25 = nI n9 := ((f10.1 25 rfl)).trans e9
  rcases d10 with ⟨m10_0a, u10_0_0, u10_0_1, u10_0_2, u10_0_3, u10_0_4⟩
  have loop25_13 : ∀ (fu : Nat) (t13 : ST) (f13_26 : Nat) (i13_2 : Int32) (i13_1 : Int32), INV t13 → Fr [(25, 30)] [(66, 66)] σ t13 → t13.1 25 = nI n9 → t13.1 26 = nI f13_26 → f13_26 ≤ 200 → NX t13 → 200 - f13_26 < fu → ∀ (H : Heap) (locs : List Loc) (ls : Array Slot), HW g t13 s H locs → lv_has ls 5 [(2, .int i13_2), (1, .int i13_1), (0, .ref (g.2.1 79))] → W p l e { frames := 5, cells := 0, slots := 0, locals := 114 } s m args below meth c H locs 0 0 (MQ below (XQi g (fun r σ' => INV σ' ∧ Fr [(25, 30)] [(66, 66)] σ σ')) args s 0 0 (Aw g)) (F0 m 25 ls []) := by
    intro fu
    induction fu with
    | zero => intro t13 f13_26 i13_2 i13_1 hI_13 hF_13 e14 ef13_26 pp13_0 nx_13 hm; exact absurd hm (Nat.not_lt_zero _)
    | succ fu ih =>
      have ih13 := ih
      clear ih
      intro t13 f13_26 i13_2 i13_1 hI_13 hF_13 e14 ef13_26 pp13_0 nx_13 hm13 H locs ls h hl
      refine lv_aload_n hx hb dX12_rules_25 rfl (lv_at hl 2 rfl) ?_
      obtain ⟨x15, e15⟩ : ∃ x, t13.1 30 = x := ⟨_, rfl⟩
      refine x_getI E h (fi_mo_fault g) rfl hwX12 (by decide) (by decide +kernel) (v := x15) e15 dX12_rules_26 ?_
      refine lv_bipush (v := (-9)) hx hb dX12_rules_29 (by decide) ?_
      refine lv_icmp_ne (tgt := 150) hx hb dX12_rules_31 (by decide) (fun c16 => ?_) (fun c16 => ?_)
      · skip
        refine lv_aload_n hx hb dX12_rules_150 rfl (lv_at hl 2 rfl) ?_
        refine x_getI E h (fi_mo_fault g) rfl hwX12 (by decide) (by decide +kernel) (v := x15) e15 dX12_rules_151 ?_
        refine lv_bipush (v := (-9)) hx hb dX12_rules_154 (by decide) ?_
        refine lv_icmp_eq (tgt := 167) hx hb dX12_rules_156 (by decide) (fun c => absurd c c16) (fun _ => ?_)
        refine lv_bipush (v := (-10)) hx hb dX12_rules_159 (by decide) ?_
        refine lv_aload_n hx hb dX12_rules_161 rfl (lv_at hl 2 rfl) ?_
        refine x_getI E h (fi_mo_fault g) rfl hwX12 (by decide) (by decide +kernel) (v := x15) e15 dX12_rules_162 ?_
        refine lv_isub hx hb dX12_rules_165 ?_
        refine lv_topi (fun x18 e18 => ?_)
        exact x_iret E h ⟨hI_13, hF_13⟩ dX12_rules_166
      · skip
        subst c16
        refine lv_aload_n hx hb dX12_rules_34 rfl (lv_at hl 2 rfl) ?_
        obtain ⟨x20, e20⟩ : ∃ x, t13.1 28 = x := ⟨_, rfl⟩
        refine x_getI E h (fi_mo_sort g) rfl hwX12 (by decide) (by decide +kernel) (v := x20) e20 dX12_rules_35 ?_
        refine lv_if_eq (tgt := 150) hx hb dX12_rules_38 (by decide) (fun c21 => ?_) (fun c21 => ?_)
        · skip
          subst c21
          refine lv_aload_n hx hb dX12_rules_150 rfl (lv_at hl 2 rfl) ?_
          refine x_getI E h (fi_mo_fault g) rfl hwX12 (by decide) (by decide +kernel) (v := (-9)) e15 dX12_rules_151 ?_
          refine lv_bipush (v := (-9)) hx hb dX12_rules_154 (by decide) ?_
          refine lv_icmp_eq (tgt := 167) hx hb dX12_rules_156 (by decide) (fun _ => ?_) (fun c => absurd (by decide) c)
          refine lv_iconst (v := 0) hx hb dX12_rules_167 (by decide) ?_
          refine lv_istore_n (lv' := [(3, .int 0), (2, .int i13_2), (1, .int i13_1), (0, .ref (g.2.1 79))]) hx hb dX12_rules_168 rfl hl (by decide) rfl (fun ls hl => ?_)
          have loop169_23 : ∀ (fu : Nat) (t23 : ST) (i23_3 : Nat), INV t23 → Fr [(25, 30)] [(66, 66)] σ t23 → t23.1 25 = nI n9 → t23.1 26 = nI f13_26 → t23.1 30 = (-9) → t23.1 28 = 0 → i23_3 ≤ 6 → 6 - i23_3 < fu → ∀ (H : Heap) (locs : List Loc) (ls : Array Slot), HW g t23 s H locs → lv_has ls 5 [(3, .int (nI i23_3)), (2, .int i13_2), (1, .int i13_1), (0, .ref (g.2.1 79))] → W p l e { frames := 5, cells := 0, slots := 0, locals := 114 } s m args below meth c H locs 0 0 (MQ below (XQi g (fun r σ' => INV σ' ∧ Fr [(25, 30)] [(66, 66)] σ σ')) args s 0 0 (Aw g)) (F0 m 169 ls []) := by
            intro fu
            induction fu with
            | zero => intro t23 i23_3 hI_23 hF_23 e24 e25 e26 e27 bi23_3 hm; exact absurd hm (Nat.not_lt_zero _)
            | succ fu ih =>
              have ih23 := ih
              clear ih
              intro t23 i23_3 hI_23 hF_23 e24 e25 e26 e27 bi23_3 hm23 H locs ls h hl
              refine lv_iload_n hx hb dX12_rules_169 rfl (lv_at hl 0 rfl) ?_
              refine lv_bipush (v := 6) hx hb dX12_rules_170 (by decide) ?_
              refine lv_icmp_ge (tgt := 196) hx hb dX12_rules_172 (by decide) (fun c28 => ?_) (fun c28 => ?_)
              · skip
                have b29 : 6 ≤ i23_3 := y_le (a := 6) (b := i23_3) (by omega) (by omega) c28
                refine lv_aload_n hx hb dX12_rules_196 rfl (lv_at hl 3 rfl) ?_
                refine lv_iconst (v := 0) hx hb dX12_rules_197 (by decide) ?_
                refine y_putI E h hI_23 hF_23 (ty := .int) (v := nI 0) (fi_mo_typed g) rfl hwX12 tyX12_ok nmX12 (by decide) (by decide +kernel) (by decide +kernel) (by decide +kernel) rfl rfl (ba_some rfl (Bd.mk (n := 0) (by omega))) rfl dX12_rules_198 (fun s30 H locs q30 hI30 hF30 h => ?_)
                have e31 : s30.1 26 = nI f13_26 := (congrArg (fun t : ST => t.1 26) q30).trans e25
                have e32 : s30.1 30 = (-9) := (congrArg (fun t : ST => t.1 30) q30).trans e26
                have e33 : s30.1 28 = 0 := (congrArg (fun t : ST => t.1 28) q30).trans e27
                have e34 : s30.1 25 = nI 0 := congrArg (fun t : ST => t.1 25) q30
                refine lv_iload_n hx hb dX12_rules_201 rfl (lv_at hl 1 rfl) ?_
                exact x_iret E h ⟨hI30, hF30⟩ dX12_rules_202
              · skip
                have b35 : i23_3 < 6 := y_nle (a := 6) (b := i23_3) (by omega) (by omega) c28
                refine lv_aload_n hx hb dX12_rules_175 rfl (lv_at hl 3 rfl) ?_
                refine x_getR E h (fr_mo_rule g) rfl hwX12 (by decide) (by decide +kernel) dX12_rules_176 ?_
                refine lv_iload_n hx hb dX12_rules_179 rfl (lv_at hl 0 rfl) ?_
                refine lv_aload_n hx hb dX12_rules_180 rfl (lv_at hl 3 rfl) ?_
                refine x_getR E h (fr_mo_rule g) rfl hwX12 (by decide) (by decide +kernel) dX12_rules_181 ?_
                refine lv_bipush (v := 6) hx hb dX12_rules_184 (by decide) ?_
                refine lv_iload_n hx hb dX12_rules_186 rfl (lv_at hl 0 rfl) ?_
                refine lv_iadd hx hb dX12_rules_187 ?_
                refine x_topI (v2 := nI (6 + i23_3)) (nI_add 6 i23_3) ?_
                refine x_ldI E h (ia_mo_rule g) (i := nI (6 + i23_3)) (vp_in_nI (by omega) (by decide)) (v := t23.2.2 66 (6 + i23_3)) (congrArg (t23.2.2 66) (nI_clamp (by omega))) dX12_rules_188 ?_
                refine y_stI E h hI_23 hF_23 (ia_mo_rule g) (i := nI i23_3) (vp_in_nI (by omega) (by decide)) (j := i23_3) (nI_clamp (by omega)) (ba_none rfl) rfl dX12_rules_189 (fun s36 H locs q36 hI36 hF36 h => ?_)
                have e37 : s36.1 25 = nI n9 := (congrArg (fun t : ST => t.1 25) q36).trans e24
                have e38 : s36.1 26 = nI f13_26 := (congrArg (fun t : ST => t.1 26) q36).trans e25
                have e39 : s36.1 30 = (-9) := (congrArg (fun t : ST => t.1 30) q36).trans e26
                have e40 : s36.1 28 = 0 := (congrArg (fun t : ST => t.1 28) q36).trans e27
                refine lv_iinc (v := (nI (i23_3 + 1))) (lv' := [(3, .int (nI (i23_3 + 1))), (2, .int i13_2), (1, .int i13_1), (0, .ref (g.2.1 79))]) hx hb dX12_rules_190 hl (k := 0) rfl (nI_add i23_3 1) (by decide) rfl (fun ls hl => ?_)
                refine lv_goto (tgt := 169) hx hb dX12_rules_193 (by decide) ?_
                exact ih23 s36 (i23_3 + 1) hI36 hF36 e37 e38 e39 e40 (by omega) (by omega) _ _ _ h (lv_sub hl [0, 1, 2, 3] rfl)
          exact loop169_23 _ t13 0 hI_13 hF_13 e14 ef13_26 e15 e20 (Nat.zero_le _) (Nat.lt_succ_self _) _ _ _ h (lv_sub hl [0, 1, 2, 3] rfl)
        · skip
          refine lv_aload_n hx hb dX12_rules_41 rfl (lv_at hl 2 rfl) ?_
          refine lv_aload_n hx hb dX12_rules_42 rfl (lv_at hl 2 rfl) ?_
          refine x_getI E h (fi_mo_sort g) rfl hwX12 (by decide) (by decide +kernel) (v := x20) e20 dX12_rules_43 ?_
          refine lv_iconst (v := 1) hx hb dX12_rules_46 (by decide) ?_
          refine lv_icmp_ne (tgt := 65) hx hb dX12_rules_47 (by decide) (fun c42 => ?_) (fun c42 => ?_)
          · skip
            refine lv_iconst (v := 0) hx hb dX12_rules_65 (by decide) ?_
            refine x_vi E h (na := 1) (As := [.int 0]) (aX12_due_0 l g t13 hI_13 n9 e14 f13_26 ef13_26 e15 (by omega) (by omega)) (oc_mo g) rfl gX12_rules_X12_due rfl ⟨rfl, rfl⟩ rfl (by decide +kernel) ⟨Nat.le_of_ble_eq_true rfl, Nat.le_of_ble_eq_true rfl⟩ hl.1 rfl (Nat.le_of_ble_eq_true rfl) dX12_rules_66 ⟨Nat.le_of_ble_eq_true rfl, Nat.le_of_ble_eq_true rfl⟩ (fun r44 s44 H locs q44 h => ?_)
            obtain ⟨d44, hI44, f44⟩ := q44
            have hF44 := hF_13.call f44 (I := [(25, 30)]) (J := [(66, 66)]) rfl rfl
            have e45 : s44.1 25 = nI n9 := ((f44.1 25 rfl)).trans e14
            have e46 : s44.1 26 = nI f13_26 := ((f44.1 26 rfl)).trans ef13_26
            have e47 : s44.1 28 = x20 := ((f44.1 28 rfl)).trans e20
            have a48 : NX s44 := NX.eq nx_13 (f44.1 28 rfl) (f44.1 29 rfl)
            rcases d44 with ⟨m44_0s, u44_0_0, u44_0_1⟩
            refine lv_istore_n (lv' := [(3, .int r44), (2, .int i13_2), (1, .int i13_1), (0, .ref (g.2.1 79))]) hx hb dX12_rules_69 rfl hl (by decide) rfl (fun ls hl => ?_)
            refine lv_aload_n hx hb dX12_rules_70 rfl (lv_at hl 3 rfl) ?_
            refine x_getI E h (fi_mo_fault g) rfl hwX12 (by decide) (by decide +kernel) (v := nI m44_0s) u44_0_0 dX12_rules_71 ?_
            refine lv_bipush (v := (-9)) hx hb dX12_rules_74 (by decide) ?_
            refine lv_icmp_ne (tgt := 147) hx hb dX12_rules_76 (by decide) (fun _ => ?_) (fun c => absurd c (y_neq m44_0s (by omega) (by decide)))
            refine lv_goto (tgt := 25) hx hb dX12_rules_147 (by decide) ?_
            refine lv_aload_n hx hb dX12_rules_25 rfl (lv_at hl 3 rfl) ?_
            refine x_getI E h (fi_mo_fault g) rfl hwX12 (by decide) (by decide +kernel) (v := nI m44_0s) u44_0_0 dX12_rules_26 ?_
            refine lv_bipush (v := (-9)) hx hb dX12_rules_29 (by decide) ?_
            refine lv_icmp_ne (tgt := 150) hx hb dX12_rules_31 (by decide) (fun _ => ?_) (fun c => absurd c (y_neq m44_0s (by omega) (by decide)))
            refine lv_aload_n hx hb dX12_rules_150 rfl (lv_at hl 3 rfl) ?_
            refine x_getI E h (fi_mo_fault g) rfl hwX12 (by decide) (by decide +kernel) (v := nI m44_0s) u44_0_0 dX12_rules_151 ?_
            refine lv_bipush (v := (-9)) hx hb dX12_rules_154 (by decide) ?_
            refine lv_icmp_eq (tgt := 167) hx hb dX12_rules_156 (by decide) (fun c => absurd c (y_neq m44_0s (by omega) (by decide))) (fun _ => ?_)
            refine lv_bipush (v := (-10)) hx hb dX12_rules_159 (by decide) ?_
            refine lv_aload_n hx hb dX12_rules_161 rfl (lv_at hl 3 rfl) ?_
            refine x_getI E h (fi_mo_fault g) rfl hwX12 (by decide) (by decide +kernel) (v := nI m44_0s) u44_0_0 dX12_rules_162 ?_
            refine lv_isub hx hb dX12_rules_165 ?_
            refine lv_topi (fun x49 e49 => ?_)
            exact x_iret E h ⟨hI44, hF44⟩ dX12_rules_166
          · skip
            subst c42
            obtain ⟨w51, b51, e51⟩ := nx_13 e20
            refine lv_iload_n hx hb dX12_rules_50 rfl (lv_at hl 1 rfl) ?_
            refine lv_aload_n hx hb dX12_rules_51 rfl (lv_at hl 2 rfl) ?_
            refine x_getI E h (fi_mo_value g) rfl hwX12 (by decide) (by decide +kernel) (v := nI w51) e51 dX12_rules_52 ?_
            refine lv_ishr hx hb dX12_rules_55 ?_
            refine lv_topi (fun x52 e52 => ?_)
            refine lv_iconst (v := 1) hx hb dX12_rules_56 (by decide) ?_
            refine lv_iand hx hb dX12_rules_57 ?_
            obtain ⟨n53, b53, e53⟩ := pk_andE x52 (m := 1) 1 (by decide)
            refine x_topI (v2 := nI n53) e53 ?_
            refine lv_if_ne (tgt := 65) hx hb dX12_rules_58 (by decide) (fun c54 => ?_) (fun c54 => ?_)
            · skip
              have b55 : ¬ n53 = 0 := y_ne (a := n53) (b := 0) (by omega) (by omega) c54
              refine lv_iconst (v := 0) hx hb dX12_rules_65 (by decide) ?_
              refine x_vi E h (na := 1) (As := [.int 0]) (aX12_due_1 l g t13 hI_13 n9 e14 f13_26 ef13_26 w51 e51 e15 (by omega) (by omega)) (oc_mo g) rfl gX12_rules_X12_due rfl ⟨rfl, rfl⟩ rfl (by decide +kernel) ⟨Nat.le_of_ble_eq_true rfl, Nat.le_of_ble_eq_true rfl⟩ hl.1 rfl (Nat.le_of_ble_eq_true rfl) dX12_rules_66 ⟨Nat.le_of_ble_eq_true rfl, Nat.le_of_ble_eq_true rfl⟩ (fun r56 s56 H locs q56 h => ?_)
              obtain ⟨d56, hI56, f56⟩ := q56
              have hF56 := hF_13.call f56 (I := [(25, 30)]) (J := [(66, 66)]) rfl rfl
              have e57 : s56.1 25 = nI n9 := ((f56.1 25 rfl)).trans e14
              have e58 : s56.1 26 = nI f13_26 := ((f56.1 26 rfl)).trans ef13_26
              have e59 : s56.1 28 = 1 := ((f56.1 28 rfl)).trans e20
              have e60 : s56.1 29 = nI w51 := ((f56.1 29 rfl)).trans e51
              have a61 : NX s56 := NX.eq nx_13 (f56.1 28 rfl) (f56.1 29 rfl)
              rcases d56 with ⟨m56_0s, m56_0n, u56_0_0, u56_0_1, u56_0_2, rfl⟩
              refine lv_istore_n (lv' := [(3, .int (nI m56_0n)), (2, .int i13_2), (1, .int i13_1), (0, .ref (g.2.1 79))]) hx hb dX12_rules_69 rfl hl (by decide) rfl (fun ls hl => ?_)
              refine lv_aload_n hx hb dX12_rules_70 rfl (lv_at hl 3 rfl) ?_
              refine x_getI E h (fi_mo_fault g) rfl hwX12 (by decide) (by decide +kernel) (v := nI m56_0s) u56_0_0 dX12_rules_71 ?_
              refine lv_bipush (v := (-9)) hx hb dX12_rules_74 (by decide) ?_
              refine lv_icmp_ne (tgt := 147) hx hb dX12_rules_76 (by decide) (fun _ => ?_) (fun c => absurd c (y_neq m56_0s (by omega) (by decide)))
              refine lv_goto (tgt := 25) hx hb dX12_rules_147 (by decide) ?_
              refine lv_aload_n hx hb dX12_rules_25 rfl (lv_at hl 3 rfl) ?_
              refine x_getI E h (fi_mo_fault g) rfl hwX12 (by decide) (by decide +kernel) (v := nI m56_0s) u56_0_0 dX12_rules_26 ?_
              refine lv_bipush (v := (-9)) hx hb dX12_rules_29 (by decide) ?_
              refine lv_icmp_ne (tgt := 150) hx hb dX12_rules_31 (by decide) (fun _ => ?_) (fun c => absurd c (y_neq m56_0s (by omega) (by decide)))
              refine lv_aload_n hx hb dX12_rules_150 rfl (lv_at hl 3 rfl) ?_
              refine x_getI E h (fi_mo_fault g) rfl hwX12 (by decide) (by decide +kernel) (v := nI m56_0s) u56_0_0 dX12_rules_151 ?_
              refine lv_bipush (v := (-9)) hx hb dX12_rules_154 (by decide) ?_
              refine lv_icmp_eq (tgt := 167) hx hb dX12_rules_156 (by decide) (fun c => absurd c (y_neq m56_0s (by omega) (by decide))) (fun _ => ?_)
              refine lv_bipush (v := (-10)) hx hb dX12_rules_159 (by decide) ?_
              refine lv_aload_n hx hb dX12_rules_161 rfl (lv_at hl 3 rfl) ?_
              refine x_getI E h (fi_mo_fault g) rfl hwX12 (by decide) (by decide +kernel) (v := nI m56_0s) u56_0_0 dX12_rules_162 ?_
              refine lv_isub hx hb dX12_rules_165 ?_
              refine lv_topi (fun x62 e62 => ?_)
              exact x_iret E h ⟨hI56, hF56⟩ dX12_rules_166
            · skip
              have b63 : n53 = 0 := y_eq (a := n53) (b := 0) (by omega) (by omega) c54
              refine lv_iconst (v := 1) hx hb dX12_rules_61 (by decide) ?_
              refine lv_goto (tgt := 66) hx hb dX12_rules_62 (by decide) ?_
              refine x_vi E h (na := 1) (As := [.int 1]) (aX12_due_2 l g t13 hI_13 n9 e14 f13_26 ef13_26 w51 e51 e15 (by omega) (by omega)) (oc_mo g) rfl gX12_rules_X12_due rfl ⟨rfl, rfl⟩ rfl (by decide +kernel) ⟨Nat.le_of_ble_eq_true rfl, Nat.le_of_ble_eq_true rfl⟩ hl.1 rfl (Nat.le_of_ble_eq_true rfl) dX12_rules_66 ⟨Nat.le_of_ble_eq_true rfl, Nat.le_of_ble_eq_true rfl⟩ (fun r64 s64 H locs q64 h => ?_)
              obtain ⟨d64, hI64, f64⟩ := q64
              have hF64 := hF_13.call f64 (I := [(25, 30)]) (J := [(66, 66)]) rfl rfl
              have e65 : s64.1 25 = nI n9 := ((f64.1 25 rfl)).trans e14
              have e66 : s64.1 30 = (-9) := ((f64.1 30 rfl)).trans e15
              rcases d64 with ⟨m64_0a, m64_0n, u64_0_0, u64_0_1, u64_0_2, u64_0_3, u64_0_4, u64_0_5, rfl⟩
              refine lv_istore_n (lv' := [(3, .int (nI m64_0n)), (2, .int i13_2), (1, .int i13_1), (0, .ref (g.2.1 79))]) hx hb dX12_rules_69 rfl hl (by decide) rfl (fun ls hl => ?_)
              refine lv_aload_n hx hb dX12_rules_70 rfl (lv_at hl 3 rfl) ?_
              refine x_getI E h (fi_mo_fault g) rfl hwX12 (by decide) (by decide +kernel) (v := (-9)) e66 dX12_rules_71 ?_
              refine lv_bipush (v := (-9)) hx hb dX12_rules_74 (by decide) ?_
              refine lv_icmp_ne (tgt := 147) hx hb dX12_rules_76 (by decide) (fun c => absurd (by decide) c) (fun _ => ?_)
              refine lv_iload_n hx hb dX12_rules_79 rfl (lv_at hl 2 rfl) ?_
              refine lv_iconst (v := 1) hx hb dX12_rules_80 (by decide) ?_
              refine lv_iload_n hx hb dX12_rules_81 rfl (lv_at hl 0 rfl) ?_
              refine lv_ishl hx hb dX12_rules_82 ?_
              refine x_topI (v2 := nI (2 ^ m64_0n)) (y_shl1 (by omega)) ?_
              have b68 := y_pow (p := m64_0n) (by omega)
              refine lv_ior hx hb dX12_rules_83 ?_
              refine lv_topi (fun x69 e69 => ?_)
              refine lv_istore_n (lv' := [(1, .int x69), (3, .int (nI m64_0n)), (2, .int i13_2), (0, .ref (g.2.1 79))]) hx hb dX12_rules_84 rfl hl (by decide) rfl (fun ls hl => ?_)
              refine lv_aload_n hx hb dX12_rules_85 rfl (lv_at hl 3 rfl) ?_
              refine lv_aload_n hx hb dX12_rules_86 rfl (lv_at hl 3 rfl) ?_
              obtain ⟨x70, e70⟩ : ∃ x, s64.1 28 = x := ⟨_, rfl⟩
              refine x_getI E h (fi_mo_sort g) rfl hwX12 (by decide) (by decide +kernel) (v := x70) e70 dX12_rules_87 ?_
              refine lv_iconst (v := 2) hx hb dX12_rules_90 (by decide) ?_
              refine lv_icmp_ne (tgt := 109) hx hb dX12_rules_91 (by decide) (fun c71 => ?_) (fun c71 => ?_)
              · skip
                refine lv_iconst (v := 0) hx hb dX12_rules_109 (by decide) ?_
                refine x_vi E h (na := 1) (As := [.int 0]) (aX12_due_0 l g s64 hI64 n9 e65 m64_0a u64_0_0 e66 (by omega) (by omega)) (oc_mo g) rfl gX12_rules_X12_due rfl ⟨rfl, rfl⟩ rfl (by decide +kernel) ⟨Nat.le_of_ble_eq_true rfl, Nat.le_of_ble_eq_true rfl⟩ hl.1 rfl (Nat.le_of_ble_eq_true rfl) dX12_rules_110 ⟨Nat.le_of_ble_eq_true rfl, Nat.le_of_ble_eq_true rfl⟩ (fun r73 s73 H locs q73 h => ?_)
                obtain ⟨d73, hI73, f73⟩ := q73
                have hF73 := hF64.call f73 (I := [(25, 30)]) (J := [(66, 66)]) rfl rfl
                have e74 : s73.1 25 = nI n9 := ((f73.1 25 rfl)).trans e65
                have e75 : s73.1 26 = nI m64_0a := ((f73.1 26 rfl)).trans u64_0_0
                have e76 : s73.1 28 = x70 := ((f73.1 28 rfl)).trans e70
                have a77 : NX s73 := NX.eq u64_0_3 (f73.1 28 rfl) (f73.1 29 rfl)
                rcases d73 with ⟨m73_0s, u73_0_0, u73_0_1⟩
                refine lv_istore (lv' := [(4, .int r73), (1, .int x69), (3, .int (nI m64_0n)), (2, .int i13_2), (0, .ref (g.2.1 79))]) hx hb dX12_rules_113 hl (by decide) rfl (fun ls hl => ?_)
                refine lv_aload_n hx hb dX12_rules_115 rfl (lv_at hl 4 rfl) ?_
                refine lv_aload_n hx hb dX12_rules_116 rfl (lv_at hl 4 rfl) ?_
                refine x_getI E h (fi_mo_sort g) rfl hwX12 (by decide) (by decide +kernel) (v := x70) e76 dX12_rules_117 ?_
                refine lv_iconst (v := 3) hx hb dX12_rules_120 (by decide) ?_
                refine lv_icmp_ne (tgt := 128) hx hb dX12_rules_121 (by decide) (fun c78 => ?_) (fun c78 => ?_)
                · skip
                  refine lv_iconst (v := 0) hx hb dX12_rules_128 (by decide) ?_
                  refine x_vi E h (na := 1) (As := [.int 0]) (aX12_due_3 l g s73 hI73 n9 e74 m64_0a e75 m73_0s u73_0_0 (by omega) (by omega) (by omega)) (oc_mo g) rfl gX12_rules_X12_due rfl ⟨rfl, rfl⟩ rfl (by decide +kernel) ⟨Nat.le_of_ble_eq_true rfl, Nat.le_of_ble_eq_true rfl⟩ hl.1 rfl (Nat.le_of_ble_eq_true rfl) dX12_rules_129 ⟨Nat.le_of_ble_eq_true rfl, Nat.le_of_ble_eq_true rfl⟩ (fun r80 s80 H locs q80 h => ?_)
                  obtain ⟨hI80, f80⟩ := q80
                  have hF80 := hF73.call f80 (I := [(25, 30)]) (J := [(66, 66)]) rfl rfl
                  have e81 : s80.1 25 = nI n9 := ((f80.1 25 rfl)).trans e74
                  have e82 : s80.1 26 = nI m64_0a := ((f80.1 26 rfl)).trans e75
                  have e83 : s80.1 28 = x70 := ((f80.1 28 rfl)).trans e76
                  have e84 : s80.1 30 = nI m73_0s := ((f80.1 30 rfl)).trans u73_0_0
                  have a85 : NX s80 := NX.eq a77 (f80.1 28 rfl) (f80.1 29 rfl)
                  refine lv_pop hx hb dX12_rules_132 rfl ?_
                  refine lv_aload_n hx hb dX12_rules_133 rfl (lv_at hl 4 rfl) ?_
                  refine x_getR E h (fr_mo_rule g) rfl hwX12 (by decide) (by decide +kernel) dX12_rules_134 ?_
                  refine lv_bipush (v := 6) hx hb dX12_rules_137 (by decide) ?_
                  refine lv_iload_n hx hb dX12_rules_139 rfl (lv_at hl 2 rfl) ?_
                  refine lv_iadd hx hb dX12_rules_140 ?_
                  refine x_topI (v2 := nI (6 + m64_0n)) (nI_add 6 m64_0n) ?_
                  refine lv_iload hx hb dX12_rules_141 (lv_at hl 0 rfl) ?_
                  refine y_stI E h hI80 hF80 (ia_mo_rule g) (i := nI (6 + m64_0n)) (vp_in_nI (by omega) (by decide)) (j := (6 + m64_0n)) (nI_clamp (by omega)) (ba_none rfl) rfl dX12_rules_143 (fun s86 H locs q86 hI86 hF86 h => ?_)
                  have e87 : s86.1 25 = nI n9 := (congrArg (fun t : ST => t.1 25) q86).trans e81
                  have e88 : s86.1 26 = nI m64_0a := (congrArg (fun t : ST => t.1 26) q86).trans e82
                  have e89 : s86.1 28 = x70 := (congrArg (fun t : ST => t.1 28) q86).trans e83
                  have e90 : s86.1 30 = nI m73_0s := (congrArg (fun t : ST => t.1 30) q86).trans e84
                  have a91 : NX s86 := NX.eq a85 ((congrArg (fun t : ST => t.1 28) q86).trans rfl) ((congrArg (fun t : ST => t.1 29) q86).trans rfl)
                  obtain ⟨z92, e92⟩ : ∃ y : Int32, y = i13_2 + 1 := ⟨_, rfl⟩
                  refine lv_iinc (v := z92) (lv' := [(2, .int z92), (4, .int r73), (1, .int x69), (3, .int (nI m64_0n)), (0, .ref (g.2.1 79))]) hx hb dX12_rules_144 hl (k := 3) rfl e92.symm (by decide) rfl (fun ls hl => ?_)
                  refine lv_goto (tgt := 25) hx hb dX12_rules_147 (by decide) ?_
                  refine lv_aload_n hx hb dX12_rules_25 rfl (lv_at hl 4 rfl) ?_
                  refine x_getI E h (fi_mo_fault g) rfl hwX12 (by decide) (by decide +kernel) (v := nI m73_0s) e90 dX12_rules_26 ?_
                  refine lv_bipush (v := (-9)) hx hb dX12_rules_29 (by decide) ?_
                  refine lv_icmp_ne (tgt := 150) hx hb dX12_rules_31 (by decide) (fun _ => ?_) (fun c => absurd c (y_neq m73_0s (by omega) (by decide)))
                  refine lv_aload_n hx hb dX12_rules_150 rfl (lv_at hl 4 rfl) ?_
                  refine x_getI E h (fi_mo_fault g) rfl hwX12 (by decide) (by decide +kernel) (v := nI m73_0s) e90 dX12_rules_151 ?_
                  refine lv_bipush (v := (-9)) hx hb dX12_rules_154 (by decide) ?_
                  refine lv_icmp_eq (tgt := 167) hx hb dX12_rules_156 (by decide) (fun c => absurd c (y_neq m73_0s (by omega) (by decide))) (fun _ => ?_)
                  refine lv_bipush (v := (-10)) hx hb dX12_rules_159 (by decide) ?_
                  refine lv_aload_n hx hb dX12_rules_161 rfl (lv_at hl 4 rfl) ?_
                  refine x_getI E h (fi_mo_fault g) rfl hwX12 (by decide) (by decide +kernel) (v := nI m73_0s) e90 dX12_rules_162 ?_
                  refine lv_isub hx hb dX12_rules_165 ?_
                  refine lv_topi (fun x93 e93 => ?_)
                  exact x_iret E h ⟨hI86, hF86⟩ dX12_rules_166
                · skip
                  subst c78
                  refine lv_iconst (v := 1) hx hb dX12_rules_124 (by decide) ?_
                  refine lv_goto (tgt := 129) hx hb dX12_rules_125 (by decide) ?_
                  refine x_vi E h (na := 1) (As := [.int 1]) (aX12_due_4 l g s73 hI73 n9 e74 m64_0a e75 m73_0s u73_0_0 (by omega) (by omega) (by omega)) (oc_mo g) rfl gX12_rules_X12_due rfl ⟨rfl, rfl⟩ rfl (by decide +kernel) ⟨Nat.le_of_ble_eq_true rfl, Nat.le_of_ble_eq_true rfl⟩ hl.1 rfl (Nat.le_of_ble_eq_true rfl) dX12_rules_129 ⟨Nat.le_of_ble_eq_true rfl, Nat.le_of_ble_eq_true rfl⟩ (fun r95 s95 H locs q95 h => ?_)
                  obtain ⟨hI95, f95⟩ := q95
                  have hF95 := hF73.call f95 (I := [(25, 30)]) (J := [(66, 66)]) rfl rfl
                  have e96 : s95.1 25 = nI n9 := ((f95.1 25 rfl)).trans e74
                  have e97 : s95.1 26 = nI m64_0a := ((f95.1 26 rfl)).trans e75
                  have e98 : s95.1 28 = 3 := ((f95.1 28 rfl)).trans e76
                  have e99 : s95.1 30 = nI m73_0s := ((f95.1 30 rfl)).trans u73_0_0
                  have a100 : NX s95 := NX.eq a77 (f95.1 28 rfl) (f95.1 29 rfl)
                  refine lv_pop hx hb dX12_rules_132 rfl ?_
                  refine lv_aload_n hx hb dX12_rules_133 rfl (lv_at hl 4 rfl) ?_
                  refine x_getR E h (fr_mo_rule g) rfl hwX12 (by decide) (by decide +kernel) dX12_rules_134 ?_
                  refine lv_bipush (v := 6) hx hb dX12_rules_137 (by decide) ?_
                  refine lv_iload_n hx hb dX12_rules_139 rfl (lv_at hl 2 rfl) ?_
                  refine lv_iadd hx hb dX12_rules_140 ?_
                  refine x_topI (v2 := nI (6 + m64_0n)) (nI_add 6 m64_0n) ?_
                  refine lv_iload hx hb dX12_rules_141 (lv_at hl 0 rfl) ?_
                  refine y_stI E h hI95 hF95 (ia_mo_rule g) (i := nI (6 + m64_0n)) (vp_in_nI (by omega) (by decide)) (j := (6 + m64_0n)) (nI_clamp (by omega)) (ba_none rfl) rfl dX12_rules_143 (fun s101 H locs q101 hI101 hF101 h => ?_)
                  have e102 : s101.1 25 = nI n9 := (congrArg (fun t : ST => t.1 25) q101).trans e96
                  have e103 : s101.1 26 = nI m64_0a := (congrArg (fun t : ST => t.1 26) q101).trans e97
                  have e104 : s101.1 28 = 3 := (congrArg (fun t : ST => t.1 28) q101).trans e98
                  have e105 : s101.1 30 = nI m73_0s := (congrArg (fun t : ST => t.1 30) q101).trans e99
                  have a106 : NX s101 := NX.eq a100 ((congrArg (fun t : ST => t.1 28) q101).trans rfl) ((congrArg (fun t : ST => t.1 29) q101).trans rfl)
                  obtain ⟨z107, e107⟩ : ∃ y : Int32, y = i13_2 + 1 := ⟨_, rfl⟩
                  refine lv_iinc (v := z107) (lv' := [(2, .int z107), (4, .int r73), (1, .int x69), (3, .int (nI m64_0n)), (0, .ref (g.2.1 79))]) hx hb dX12_rules_144 hl (k := 3) rfl e107.symm (by decide) rfl (fun ls hl => ?_)
                  refine lv_goto (tgt := 25) hx hb dX12_rules_147 (by decide) ?_
                  refine lv_aload_n hx hb dX12_rules_25 rfl (lv_at hl 4 rfl) ?_
                  refine x_getI E h (fi_mo_fault g) rfl hwX12 (by decide) (by decide +kernel) (v := nI m73_0s) e105 dX12_rules_26 ?_
                  refine lv_bipush (v := (-9)) hx hb dX12_rules_29 (by decide) ?_
                  refine lv_icmp_ne (tgt := 150) hx hb dX12_rules_31 (by decide) (fun _ => ?_) (fun c => absurd c (y_neq m73_0s (by omega) (by decide)))
                  refine lv_aload_n hx hb dX12_rules_150 rfl (lv_at hl 4 rfl) ?_
                  refine x_getI E h (fi_mo_fault g) rfl hwX12 (by decide) (by decide +kernel) (v := nI m73_0s) e105 dX12_rules_151 ?_
                  refine lv_bipush (v := (-9)) hx hb dX12_rules_154 (by decide) ?_
                  refine lv_icmp_eq (tgt := 167) hx hb dX12_rules_156 (by decide) (fun c => absurd c (y_neq m73_0s (by omega) (by decide))) (fun _ => ?_)
                  refine lv_bipush (v := (-10)) hx hb dX12_rules_159 (by decide) ?_
                  refine lv_aload_n hx hb dX12_rules_161 rfl (lv_at hl 4 rfl) ?_
                  refine x_getI E h (fi_mo_fault g) rfl hwX12 (by decide) (by decide +kernel) (v := nI m73_0s) e105 dX12_rules_162 ?_
                  refine lv_isub hx hb dX12_rules_165 ?_
                  refine lv_topi (fun x108 e108 => ?_)
                  exact x_iret E h ⟨hI101, hF101⟩ dX12_rules_166
              · skip
                subst c71
                refine lv_aload_n hx hb dX12_rules_94 rfl (lv_at hl 3 rfl) ?_
                obtain ⟨x110, e110⟩ : ∃ x, s64.1 29 = x := ⟨_, rfl⟩
                refine x_getI E h (fi_mo_value g) rfl hwX12 (by decide) (by decide +kernel) (v := x110) e110 dX12_rules_95 ?_
                refine lv_iload_n hx hb dX12_rules_98 rfl (lv_at hl 1 rfl) ?_
                refine x_si E h (na := 1) (As := [.int (nI m64_0n)]) (aX12_most_0 l g s64 hI64 (nI m64_0n)) gX12_rules_X12_most rfl ⟨rfl, rfl⟩ rfl (by decide +kernel) ⟨Nat.le_of_ble_eq_true rfl, Nat.le_of_ble_eq_true rfl⟩ hl.1 rfl (Nat.le_of_ble_eq_true rfl) dX12_rules_99 ⟨Nat.le_of_ble_eq_true rfl, Nat.le_of_ble_eq_true rfl⟩ (fun r111 s111 H locs q111 h => ?_)
                subst q111
                refine lv_icmp_gt (tgt := 109) hx hb dX12_rules_102 (by decide) (fun c112 => ?_) (fun c112 => ?_)
                · skip
                  refine lv_iconst (v := 0) hx hb dX12_rules_109 (by decide) ?_
                  refine x_vi E h (na := 1) (As := [.int 0]) (aX12_due_0 l g s64 hI64 n9 e65 m64_0a u64_0_0 e66 (by omega) (by omega)) (oc_mo g) rfl gX12_rules_X12_due rfl ⟨rfl, rfl⟩ rfl (by decide +kernel) ⟨Nat.le_of_ble_eq_true rfl, Nat.le_of_ble_eq_true rfl⟩ hl.1 rfl (Nat.le_of_ble_eq_true rfl) dX12_rules_110 ⟨Nat.le_of_ble_eq_true rfl, Nat.le_of_ble_eq_true rfl⟩ (fun r114 s114 H locs q114 h => ?_)
                  obtain ⟨d114, hI114, f114⟩ := q114
                  have hF114 := hF64.call f114 (I := [(25, 30)]) (J := [(66, 66)]) rfl rfl
                  have e115 : s114.1 25 = nI n9 := ((f114.1 25 rfl)).trans e65
                  have e116 : s114.1 26 = nI m64_0a := ((f114.1 26 rfl)).trans u64_0_0
                  have e117 : s114.1 28 = 2 := ((f114.1 28 rfl)).trans e70
                  have e118 : s114.1 29 = x110 := ((f114.1 29 rfl)).trans e110
                  have a119 : NX s114 := NX.eq u64_0_3 (f114.1 28 rfl) (f114.1 29 rfl)
                  rcases d114 with ⟨m114_0s, u114_0_0, u114_0_1⟩
                  refine lv_istore (lv' := [(4, .int r114), (1, .int x69), (3, .int (nI m64_0n)), (2, .int i13_2), (0, .ref (g.2.1 79))]) hx hb dX12_rules_113 hl (by decide) rfl (fun ls hl => ?_)
                  refine lv_aload_n hx hb dX12_rules_115 rfl (lv_at hl 4 rfl) ?_
                  refine lv_aload_n hx hb dX12_rules_116 rfl (lv_at hl 4 rfl) ?_
                  refine x_getI E h (fi_mo_sort g) rfl hwX12 (by decide) (by decide +kernel) (v := 2) e117 dX12_rules_117 ?_
                  refine lv_iconst (v := 3) hx hb dX12_rules_120 (by decide) ?_
                  refine lv_icmp_ne (tgt := 128) hx hb dX12_rules_121 (by decide) (fun _ => ?_) (fun c => absurd c (by decide))
                  refine lv_iconst (v := 0) hx hb dX12_rules_128 (by decide) ?_
                  refine x_vi E h (na := 1) (As := [.int 0]) (aX12_due_3 l g s114 hI114 n9 e115 m64_0a e116 m114_0s u114_0_0 (by omega) (by omega) (by omega)) (oc_mo g) rfl gX12_rules_X12_due rfl ⟨rfl, rfl⟩ rfl (by decide +kernel) ⟨Nat.le_of_ble_eq_true rfl, Nat.le_of_ble_eq_true rfl⟩ hl.1 rfl (Nat.le_of_ble_eq_true rfl) dX12_rules_129 ⟨Nat.le_of_ble_eq_true rfl, Nat.le_of_ble_eq_true rfl⟩ (fun r120 s120 H locs q120 h => ?_)
                  obtain ⟨hI120, f120⟩ := q120
                  have hF120 := hF114.call f120 (I := [(25, 30)]) (J := [(66, 66)]) rfl rfl
                  have e121 : s120.1 25 = nI n9 := ((f120.1 25 rfl)).trans e115
                  have e122 : s120.1 26 = nI m64_0a := ((f120.1 26 rfl)).trans e116
                  have e123 : s120.1 28 = 2 := ((f120.1 28 rfl)).trans e117
                  have e124 : s120.1 29 = x110 := ((f120.1 29 rfl)).trans e118
                  have e125 : s120.1 30 = nI m114_0s := ((f120.1 30 rfl)).trans u114_0_0
                  have a126 : NX s120 := NX.eq a119 (f120.1 28 rfl) (f120.1 29 rfl)
                  refine lv_pop hx hb dX12_rules_132 rfl ?_
                  refine lv_aload_n hx hb dX12_rules_133 rfl (lv_at hl 4 rfl) ?_
                  refine x_getR E h (fr_mo_rule g) rfl hwX12 (by decide) (by decide +kernel) dX12_rules_134 ?_
                  refine lv_bipush (v := 6) hx hb dX12_rules_137 (by decide) ?_
                  refine lv_iload_n hx hb dX12_rules_139 rfl (lv_at hl 2 rfl) ?_
                  refine lv_iadd hx hb dX12_rules_140 ?_
                  refine x_topI (v2 := nI (6 + m64_0n)) (nI_add 6 m64_0n) ?_
                  refine lv_iload hx hb dX12_rules_141 (lv_at hl 0 rfl) ?_
                  refine y_stI E h hI120 hF120 (ia_mo_rule g) (i := nI (6 + m64_0n)) (vp_in_nI (by omega) (by decide)) (j := (6 + m64_0n)) (nI_clamp (by omega)) (ba_none rfl) rfl dX12_rules_143 (fun s127 H locs q127 hI127 hF127 h => ?_)
                  have e128 : s127.1 25 = nI n9 := (congrArg (fun t : ST => t.1 25) q127).trans e121
                  have e129 : s127.1 26 = nI m64_0a := (congrArg (fun t : ST => t.1 26) q127).trans e122
                  have e130 : s127.1 28 = 2 := (congrArg (fun t : ST => t.1 28) q127).trans e123
                  have e131 : s127.1 29 = x110 := (congrArg (fun t : ST => t.1 29) q127).trans e124
                  have e132 : s127.1 30 = nI m114_0s := (congrArg (fun t : ST => t.1 30) q127).trans e125
                  have a133 : NX s127 := NX.eq a126 ((congrArg (fun t : ST => t.1 28) q127).trans rfl) ((congrArg (fun t : ST => t.1 29) q127).trans rfl)
                  obtain ⟨z134, e134⟩ : ∃ y : Int32, y = i13_2 + 1 := ⟨_, rfl⟩
                  refine lv_iinc (v := z134) (lv' := [(2, .int z134), (4, .int r114), (1, .int x69), (3, .int (nI m64_0n)), (0, .ref (g.2.1 79))]) hx hb dX12_rules_144 hl (k := 3) rfl e134.symm (by decide) rfl (fun ls hl => ?_)
                  refine lv_goto (tgt := 25) hx hb dX12_rules_147 (by decide) ?_
                  refine lv_aload_n hx hb dX12_rules_25 rfl (lv_at hl 4 rfl) ?_
                  refine x_getI E h (fi_mo_fault g) rfl hwX12 (by decide) (by decide +kernel) (v := nI m114_0s) e132 dX12_rules_26 ?_
                  refine lv_bipush (v := (-9)) hx hb dX12_rules_29 (by decide) ?_
                  refine lv_icmp_ne (tgt := 150) hx hb dX12_rules_31 (by decide) (fun _ => ?_) (fun c => absurd c (y_neq m114_0s (by omega) (by decide)))
                  refine lv_aload_n hx hb dX12_rules_150 rfl (lv_at hl 4 rfl) ?_
                  refine x_getI E h (fi_mo_fault g) rfl hwX12 (by decide) (by decide +kernel) (v := nI m114_0s) e132 dX12_rules_151 ?_
                  refine lv_bipush (v := (-9)) hx hb dX12_rules_154 (by decide) ?_
                  refine lv_icmp_eq (tgt := 167) hx hb dX12_rules_156 (by decide) (fun c => absurd c (y_neq m114_0s (by omega) (by decide))) (fun _ => ?_)
                  refine lv_bipush (v := (-10)) hx hb dX12_rules_159 (by decide) ?_
                  refine lv_aload_n hx hb dX12_rules_161 rfl (lv_at hl 4 rfl) ?_
                  refine x_getI E h (fi_mo_fault g) rfl hwX12 (by decide) (by decide +kernel) (v := nI m114_0s) e132 dX12_rules_162 ?_
                  refine lv_isub hx hb dX12_rules_165 ?_
                  refine lv_topi (fun x135 e135 => ?_)
                  exact x_iret E h ⟨hI127, hF127⟩ dX12_rules_166
                · skip
                  refine lv_iconst (v := 1) hx hb dX12_rules_105 (by decide) ?_
                  refine lv_goto (tgt := 110) hx hb dX12_rules_106 (by decide) ?_
                  refine x_vi E h (na := 1) (As := [.int 1]) (aX12_due_5 l g s64 hI64 n9 e65 m64_0a u64_0_0 e66 (by omega) (by omega)) (oc_mo g) rfl gX12_rules_X12_due rfl ⟨rfl, rfl⟩ rfl (by decide +kernel) ⟨Nat.le_of_ble_eq_true rfl, Nat.le_of_ble_eq_true rfl⟩ hl.1 rfl (Nat.le_of_ble_eq_true rfl) dX12_rules_110 ⟨Nat.le_of_ble_eq_true rfl, Nat.le_of_ble_eq_true rfl⟩ (fun r137 s137 H locs q137 h => ?_)
                  obtain ⟨d137, hI137, f137⟩ := q137
                  have hF137 := hF64.call f137 (I := [(25, 30)]) (J := [(66, 66)]) rfl rfl
                  have e138 : s137.1 25 = nI n9 := ((f137.1 25 rfl)).trans e65
                  have e139 : s137.1 30 = (-9) := ((f137.1 30 rfl)).trans e66
                  rcases d137 with ⟨m137_0a, u137_0_0, u137_0_1, u137_0_2, u137_0_3, u137_0_4⟩
                  refine lv_istore (lv' := [(4, .int r137), (1, .int x69), (3, .int (nI m64_0n)), (2, .int i13_2), (0, .ref (g.2.1 79))]) hx hb dX12_rules_113 hl (by decide) rfl (fun ls hl => ?_)
                  refine lv_aload_n hx hb dX12_rules_115 rfl (lv_at hl 4 rfl) ?_
                  refine lv_aload_n hx hb dX12_rules_116 rfl (lv_at hl 4 rfl) ?_
                  obtain ⟨x141, e141⟩ : ∃ x, s137.1 28 = x := ⟨_, rfl⟩
                  refine x_getI E h (fi_mo_sort g) rfl hwX12 (by decide) (by decide +kernel) (v := x141) e141 dX12_rules_117 ?_
                  refine lv_iconst (v := 3) hx hb dX12_rules_120 (by decide) ?_
                  refine lv_icmp_ne (tgt := 128) hx hb dX12_rules_121 (by decide) (fun c142 => ?_) (fun c142 => ?_)
                  · skip
                    refine lv_iconst (v := 0) hx hb dX12_rules_128 (by decide) ?_
                    refine x_vi E h (na := 1) (As := [.int 0]) (aX12_due_0 l g s137 hI137 n9 e138 m137_0a u137_0_0 e139 (by omega) (by omega)) (oc_mo g) rfl gX12_rules_X12_due rfl ⟨rfl, rfl⟩ rfl (by decide +kernel) ⟨Nat.le_of_ble_eq_true rfl, Nat.le_of_ble_eq_true rfl⟩ hl.1 rfl (Nat.le_of_ble_eq_true rfl) dX12_rules_129 ⟨Nat.le_of_ble_eq_true rfl, Nat.le_of_ble_eq_true rfl⟩ (fun r144 s144 H locs q144 h => ?_)
                    obtain ⟨d144, hI144, f144⟩ := q144
                    have hF144 := hF137.call f144 (I := [(25, 30)]) (J := [(66, 66)]) rfl rfl
                    have e145 : s144.1 25 = nI n9 := ((f144.1 25 rfl)).trans e138
                    have e146 : s144.1 26 = nI m137_0a := ((f144.1 26 rfl)).trans u137_0_0
                    have e147 : s144.1 28 = x141 := ((f144.1 28 rfl)).trans e141
                    have a148 : NX s144 := NX.eq u137_0_3 (f144.1 28 rfl) (f144.1 29 rfl)
                    rcases d144 with ⟨m144_0s, u144_0_0, u144_0_1⟩
                    refine lv_pop hx hb dX12_rules_132 rfl ?_
                    refine lv_aload_n hx hb dX12_rules_133 rfl (lv_at hl 4 rfl) ?_
                    refine x_getR E h (fr_mo_rule g) rfl hwX12 (by decide) (by decide +kernel) dX12_rules_134 ?_
                    refine lv_bipush (v := 6) hx hb dX12_rules_137 (by decide) ?_
                    refine lv_iload_n hx hb dX12_rules_139 rfl (lv_at hl 2 rfl) ?_
                    refine lv_iadd hx hb dX12_rules_140 ?_
                    refine x_topI (v2 := nI (6 + m64_0n)) (nI_add 6 m64_0n) ?_
                    refine lv_iload hx hb dX12_rules_141 (lv_at hl 0 rfl) ?_
                    refine y_stI E h hI144 hF144 (ia_mo_rule g) (i := nI (6 + m64_0n)) (vp_in_nI (by omega) (by decide)) (j := (6 + m64_0n)) (nI_clamp (by omega)) (ba_none rfl) rfl dX12_rules_143 (fun s149 H locs q149 hI149 hF149 h => ?_)
                    have e150 : s149.1 25 = nI n9 := (congrArg (fun t : ST => t.1 25) q149).trans e145
                    have e151 : s149.1 26 = nI m137_0a := (congrArg (fun t : ST => t.1 26) q149).trans e146
                    have e152 : s149.1 28 = x141 := (congrArg (fun t : ST => t.1 28) q149).trans e147
                    have e153 : s149.1 30 = nI m144_0s := (congrArg (fun t : ST => t.1 30) q149).trans u144_0_0
                    have a154 : NX s149 := NX.eq a148 ((congrArg (fun t : ST => t.1 28) q149).trans rfl) ((congrArg (fun t : ST => t.1 29) q149).trans rfl)
                    obtain ⟨z155, e155⟩ : ∃ y : Int32, y = i13_2 + 1 := ⟨_, rfl⟩
                    refine lv_iinc (v := z155) (lv' := [(2, .int z155), (4, .int r137), (1, .int x69), (3, .int (nI m64_0n)), (0, .ref (g.2.1 79))]) hx hb dX12_rules_144 hl (k := 3) rfl e155.symm (by decide) rfl (fun ls hl => ?_)
                    refine lv_goto (tgt := 25) hx hb dX12_rules_147 (by decide) ?_
                    refine lv_aload_n hx hb dX12_rules_25 rfl (lv_at hl 4 rfl) ?_
                    refine x_getI E h (fi_mo_fault g) rfl hwX12 (by decide) (by decide +kernel) (v := nI m144_0s) e153 dX12_rules_26 ?_
                    refine lv_bipush (v := (-9)) hx hb dX12_rules_29 (by decide) ?_
                    refine lv_icmp_ne (tgt := 150) hx hb dX12_rules_31 (by decide) (fun _ => ?_) (fun c => absurd c (y_neq m144_0s (by omega) (by decide)))
                    refine lv_aload_n hx hb dX12_rules_150 rfl (lv_at hl 4 rfl) ?_
                    refine x_getI E h (fi_mo_fault g) rfl hwX12 (by decide) (by decide +kernel) (v := nI m144_0s) e153 dX12_rules_151 ?_
                    refine lv_bipush (v := (-9)) hx hb dX12_rules_154 (by decide) ?_
                    refine lv_icmp_eq (tgt := 167) hx hb dX12_rules_156 (by decide) (fun c => absurd c (y_neq m144_0s (by omega) (by decide))) (fun _ => ?_)
                    refine lv_bipush (v := (-10)) hx hb dX12_rules_159 (by decide) ?_
                    refine lv_aload_n hx hb dX12_rules_161 rfl (lv_at hl 4 rfl) ?_
                    refine x_getI E h (fi_mo_fault g) rfl hwX12 (by decide) (by decide +kernel) (v := nI m144_0s) e153 dX12_rules_162 ?_
                    refine lv_isub hx hb dX12_rules_165 ?_
                    refine lv_topi (fun x156 e156 => ?_)
                    exact x_iret E h ⟨hI149, hF149⟩ dX12_rules_166
                  · skip
                    subst c142
                    have b158 := u137_0_4 e141
                    refine lv_iconst (v := 1) hx hb dX12_rules_124 (by decide) ?_
                    refine lv_goto (tgt := 129) hx hb dX12_rules_125 (by decide) ?_
                    refine x_vi E h (na := 1) (As := [.int 1]) (aX12_due_5 l g s137 hI137 n9 e138 m137_0a u137_0_0 e139 (by omega) (by omega)) (oc_mo g) rfl gX12_rules_X12_due rfl ⟨rfl, rfl⟩ rfl (by decide +kernel) ⟨Nat.le_of_ble_eq_true rfl, Nat.le_of_ble_eq_true rfl⟩ hl.1 rfl (Nat.le_of_ble_eq_true rfl) dX12_rules_129 ⟨Nat.le_of_ble_eq_true rfl, Nat.le_of_ble_eq_true rfl⟩ (fun r159 s159 H locs q159 h => ?_)
                    obtain ⟨d159, hI159, f159⟩ := q159
                    have hF159 := hF137.call f159 (I := [(25, 30)]) (J := [(66, 66)]) rfl rfl
                    have e160 : s159.1 25 = nI n9 := ((f159.1 25 rfl)).trans e138
                    have e161 : s159.1 30 = (-9) := ((f159.1 30 rfl)).trans e139
                    rcases d159 with ⟨m159_0a, u159_0_0, u159_0_1, u159_0_2, u159_0_3, u159_0_4⟩
                    refine lv_pop hx hb dX12_rules_132 rfl ?_
                    refine lv_aload_n hx hb dX12_rules_133 rfl (lv_at hl 4 rfl) ?_
                    refine x_getR E h (fr_mo_rule g) rfl hwX12 (by decide) (by decide +kernel) dX12_rules_134 ?_
                    refine lv_bipush (v := 6) hx hb dX12_rules_137 (by decide) ?_
                    refine lv_iload_n hx hb dX12_rules_139 rfl (lv_at hl 2 rfl) ?_
                    refine lv_iadd hx hb dX12_rules_140 ?_
                    refine x_topI (v2 := nI (6 + m64_0n)) (nI_add 6 m64_0n) ?_
                    refine lv_iload hx hb dX12_rules_141 (lv_at hl 0 rfl) ?_
                    refine y_stI E h hI159 hF159 (ia_mo_rule g) (i := nI (6 + m64_0n)) (vp_in_nI (by omega) (by decide)) (j := (6 + m64_0n)) (nI_clamp (by omega)) (ba_none rfl) rfl dX12_rules_143 (fun s163 H locs q163 hI163 hF163 h => ?_)
                    have e164 : s163.1 25 = nI n9 := (congrArg (fun t : ST => t.1 25) q163).trans e160
                    have e165 : s163.1 30 = (-9) := (congrArg (fun t : ST => t.1 30) q163).trans e161
                    have e166 : s163.1 26 = nI m159_0a := (congrArg (fun t : ST => t.1 26) q163).trans u159_0_0
                    have a167 : NX s163 := NX.eq u159_0_3 ((congrArg (fun t : ST => t.1 28) q163).trans rfl) ((congrArg (fun t : ST => t.1 29) q163).trans rfl)
                    obtain ⟨z168, e168⟩ : ∃ y : Int32, y = i13_2 + 1 := ⟨_, rfl⟩
                    refine lv_iinc (v := z168) (lv' := [(2, .int z168), (4, .int r137), (1, .int x69), (3, .int (nI m64_0n)), (0, .ref (g.2.1 79))]) hx hb dX12_rules_144 hl (k := 3) rfl e168.symm (by decide) rfl (fun ls hl => ?_)
                    refine lv_goto (tgt := 25) hx hb dX12_rules_147 (by decide) ?_
                    exact ih13 s163 m159_0a z168 x69 hI163 hF163 e164 e166 (by omega) a167 (by omega) _ _ _ h (lv_sub hl [0, 2, 4] rfl)
  exact loop25_13 _ s10 m10_0a 0 0 hI10 hF10 e12 u10_0_0 (by omega) u10_0_3 (Nat.lt_succ_self _) _ _ _ h (lv_sub hl [0, 1, 2] rfl)
