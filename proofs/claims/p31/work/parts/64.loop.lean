set_option maxHeartbeats 4000000 in
set_option maxRecDepth 100000 in
theorem law_loop {p : Program} {e : Env} {s : State} {m : MethodId} {below : List Frame} {meth : Method} {c : Code} (l : Launch) {b L : Nat} {xs : Nat → Int32} {g : CX} (E : EV p s m #[Value.ref b] meth c cL_law RL wsL_law 4 ret g) (hX : va_X b L xs s s.heap) (hbl : b < s.heap.size) (hbA : ¬ Aw g b) (hAw : ∀ q, Aw g q → s.heap.size ≤ q) (hL : L ≤ 2560) : ∀ (fu : Nat) {H : Heap} {ls : Array Slot} {locs : List Loc} {σ : ST} (hI : INV σ) (hJ : JJ σ) {i : Nat} (h : HW g σ s H locs) (hl : lv_has ls 4 [(3, .int (nI i)), (2, .ref (g.2.1 79)), (1, .ref (g.2.1 0)), (0, .ref b)]) (hfu : L + 5 - i < fu) (hiL : i ≤ L + 5), W p l e room_1 s m #[Value.ref b] below meth c H locs 108 7415 (lw_Z below #[Value.ref b] s) (F0 m 18 ls []) := by
  have hx := E.1
  have hb := E.2.1
  intro fu
  induction fu with
  | zero => intro H ls locs σ hI hJ i h hl hfu hiL; exact absurd hfu (Nat.not_lt_zero _)
  | succ fu ih =>
    intro H ls locs σ hI hJ i h hl hfu hiL
    refine lv_iload_n hx hb dL_law_18 rfl (lv_at hl 0 rfl) ?_
    refine lv_aload_n hx hb dL_law_19 rfl (lv_at hl 3 rfl) ?_
    refine va_slen hx hb hX hbl hbA h.2 dL_law_20 ?_
    refine lv_iconst (v := 5) hx hb dL_law_21 (by decide) ?_
    refine lv_isub hx hb dL_law_22 ?_
    rcases Nat.lt_or_ge L 5 with hc | hc
    · refine lv_icmp_gt (tgt := 1071) hx hb dL_law_23 (by decide) (fun _ => ?_) (fun c => absurd (y_neg5 hc (by omega)) c)
      exact law_end l E h hAw
    refine x_topI (v2 := nI (L - 5)) (pk_sub (b := 5) hc) ?_
    refine lv_icmp_gt (tgt := 1071) hx hb dL_law_23 (by decide) (fun _ => ?_) (fun c9 => ?_)
    · exact law_end l E h hAw
    have hi : i + 5 ≤ L := by have := y_nlt (a := L - 5) (b := i) (by omega) (by omega) c9; omega
    have K : ∀ (τ : ST) (H : Heap) (locs : List Loc) (ls : Array Slot), INV τ → JJ τ → HW g τ s H locs → lv_has ls 4 [(3, .int (nI i)), (2, .ref (g.2.1 79)), (1, .ref (g.2.1 0)), (0, .ref b)] → W p l e room_1 s m #[Value.ref b] below meth c H locs 108 7415 (lw_Z below #[Value.ref b] s) (F0 m 1065 ls []) := by
      intro τ H2 locs2 ls2 hI2 hJ2 h2 hl2
      refine lv_iinc (v := nI (i + 5)) (lv' := [(3, .int (nI (i + 5))), (2, .ref (g.2.1 79)), (1, .ref (g.2.1 0)), (0, .ref b)]) hx hb dL_law_1065 hl2 (k := 0) rfl (nI_add i 5) (by decide) rfl (fun ls3 hl3 => ?_)
      refine lv_goto (tgt := 18) hx hb dL_law_1068 (by decide) ?_
      exact ih hI2 hJ2 h2 hl3 (by omega) (by omega)
    refine lv_aload_n hx hb dL_law_26 rfl (lv_at hl 3 rfl) ?_
    refine lv_iload_n hx hb dL_law_27 rfl (lv_at hl 0 rfl) ?_
    refine x_sld E h hX hbl hbA (i := nI i) (j := i) (vp_in_nI (by omega) (by omega)) (nI_clamp (by omega)) dL_law_28 ?_
    refine lv_bipush (v := 31) hx hb dL_law_29 (by decide) ?_
    refine lv_iand hx hb dL_law_31 ?_
    obtain ⟨j, hj, ej⟩ := pk_andE (xs i) (m := 31) 5 (by decide)
    refine x_topI (v2 := nI j) ej ?_
    rcases (show j = 0 ∨ j = 1 ∨ j = 2 ∨ j = 3 ∨ j = 4 ∨ j = 5 ∨ j = 6 ∨ j = 7 ∨ j = 8 ∨ j = 9 ∨ j = 10 ∨ j = 11 ∨ j = 12 ∨ j = 13 ∨ j = 14 ∨ j = 15 ∨ j = 16 ∨ j = 17 ∨ j = 18 ∨ j = 19 ∨ j = 20 ∨ j = 21 ∨ j = 22 ∨ j = 23 ∨ j = 24 ∨ j = 25 ∨ j = 26 ∨ j = 27 ∨ j = 28 ∨ j = 29 ∨ j = 30 ∨ j = 31 by omega) with rfl | rfl | rfl | rfl | rfl | rfl | rfl | rfl | rfl | rfl | rfl | rfl | rfl | rfl | rfl | rfl | rfl | rfl | rfl | rfl | rfl | rfl | rfl | rfl | rfl | rfl | rfl | rfl | rfl | rfl | rfl | rfl
    · refine lv_tableIn (tgt := 172) (off := 140) hx hb dL_law_32 (by decide) (by decide) (by decide) (by decide) ?_
      exact lawc_0 l E hX hbl hbA hI hJ hL h hi hl K
    · refine lv_tableIn (tgt := 235) (off := 203) hx hb dL_law_32 (by decide) (by decide) (by decide) (by decide) ?_
      exact lawc_1 l E hX hbl hbA hI hJ hL h hi hl K
    · refine lv_tableIn (tgt := 248) (off := 216) hx hb dL_law_32 (by decide) (by decide) (by decide) (by decide) ?_
      exact lawc_2 l E hX hbl hbA hI hJ hL h hi hl K
    · refine lv_tableIn (tgt := 261) (off := 229) hx hb dL_law_32 (by decide) (by decide) (by decide) (by decide) ?_
      exact lawc_3 l E hX hbl hbA hI hJ hL h hi hl K
    · refine lv_tableIn (tgt := 284) (off := 252) hx hb dL_law_32 (by decide) (by decide) (by decide) (by decide) ?_
      exact lawc_4 l E hX hbl hbA hI hJ hL h hi hl K
    · refine lv_tableIn (tgt := 337) (off := 305) hx hb dL_law_32 (by decide) (by decide) (by decide) (by decide) ?_
      exact lawc_5 l E hX hbl hbA hI hJ hL h hi hl K
    · refine lv_tableIn (tgt := 360) (off := 328) hx hb dL_law_32 (by decide) (by decide) (by decide) (by decide) ?_
      exact lawc_6 l E hX hbl hbA hI hJ hL h hi hl K
    · refine lv_tableIn (tgt := 403) (off := 371) hx hb dL_law_32 (by decide) (by decide) (by decide) (by decide) ?_
      exact lawc_7 l E hX hbl hbA hI hJ hL h hi hl K
    · refine lv_tableIn (tgt := 416) (off := 384) hx hb dL_law_32 (by decide) (by decide) (by decide) (by decide) ?_
      exact lawc_8 l E hX hbl hbA hI hJ hL h hi hl K
    · refine lv_tableIn (tgt := 439) (off := 407) hx hb dL_law_32 (by decide) (by decide) (by decide) (by decide) ?_
      exact lawc_9 l E hX hbl hbA hI hJ hL h hi hl K
    · refine lv_tableIn (tgt := 472) (off := 440) hx hb dL_law_32 (by decide) (by decide) (by decide) (by decide) ?_
      exact lawc_10 l E hX hbl hbA hI hJ hL h hi hl K
    · refine lv_tableIn (tgt := 495) (off := 463) hx hb dL_law_32 (by decide) (by decide) (by decide) (by decide) ?_
      exact lawc_11 l E hX hbl hbA hI hJ hL h hi hl K
    · refine lv_tableIn (tgt := 528) (off := 496) hx hb dL_law_32 (by decide) (by decide) (by decide) (by decide) ?_
      exact lawc_12 l E hX hbl hbA hI hJ hL h hi hl K
    · refine lv_tableIn (tgt := 561) (off := 529) hx hb dL_law_32 (by decide) (by decide) (by decide) (by decide) ?_
      exact lawc_13 l E hX hbl hbA hI hJ hL h hi hl K
    · refine lv_tableIn (tgt := 584) (off := 552) hx hb dL_law_32 (by decide) (by decide) (by decide) (by decide) ?_
      exact lawc_14 l E hX hbl hbA hI hJ hL h hi hl K
    · refine lv_tableIn (tgt := 607) (off := 575) hx hb dL_law_32 (by decide) (by decide) (by decide) (by decide) ?_
      exact lawc_15 l E hX hbl hbA hI hJ hL h hi hl K
    · refine lv_tableIn (tgt := 640) (off := 608) hx hb dL_law_32 (by decide) (by decide) (by decide) (by decide) ?_
      exact lawc_16 l E hX hbl hbA hI hJ hL h hi hl K
    · refine lv_tableIn (tgt := 673) (off := 641) hx hb dL_law_32 (by decide) (by decide) (by decide) (by decide) ?_
      exact lawc_17 l E hX hbl hbA hI hJ hL h hi hl K
    · refine lv_tableIn (tgt := 706) (off := 674) hx hb dL_law_32 (by decide) (by decide) (by decide) (by decide) ?_
      exact lawc_18 l E hX hbl hbA hI hJ hL h hi hl K
    · refine lv_tableIn (tgt := 739) (off := 707) hx hb dL_law_32 (by decide) (by decide) (by decide) (by decide) ?_
      exact lawc_19 l E hX hbl hbA hI hJ hL h hi hl K
    · refine lv_tableIn (tgt := 762) (off := 730) hx hb dL_law_32 (by decide) (by decide) (by decide) (by decide) ?_
      exact lawc_20 l E hX hbl hbA hI hJ hL h hi hl K
    · refine lv_tableIn (tgt := 795) (off := 763) hx hb dL_law_32 (by decide) (by decide) (by decide) (by decide) ?_
      exact lawc_21 l E hX hbl hbA hI hJ hL h hi hl K
    · refine lv_tableIn (tgt := 838) (off := 806) hx hb dL_law_32 (by decide) (by decide) (by decide) (by decide) ?_
      exact lawc_22 l E hX hbl hbA hI hJ hL h hi hl K
    · refine lv_tableIn (tgt := 851) (off := 819) hx hb dL_law_32 (by decide) (by decide) (by decide) (by decide) ?_
      exact lawc_23 l E hX hbl hbA hI hJ hL h hi hl K
    · refine lv_tableIn (tgt := 864) (off := 832) hx hb dL_law_32 (by decide) (by decide) (by decide) (by decide) ?_
      exact lawc_24 l E hX hbl hbA hI hJ hL h hi hl K
    · refine lv_tableIn (tgt := 897) (off := 865) hx hb dL_law_32 (by decide) (by decide) (by decide) (by decide) ?_
      exact lawc_25 l E hX hbl hbA hI hJ hL h hi hl K
    · refine lv_tableIn (tgt := 930) (off := 898) hx hb dL_law_32 (by decide) (by decide) (by decide) (by decide) ?_
      exact lawc_26 l E hX hbl hbA hI hJ hL h hi hl K
    · refine lv_tableIn (tgt := 973) (off := 941) hx hb dL_law_32 (by decide) (by decide) (by decide) (by decide) ?_
      exact lawc_27 l E hX hbl hbA hI hJ hL h hi hl K
    · refine lv_tableIn (tgt := 996) (off := 964) hx hb dL_law_32 (by decide) (by decide) (by decide) (by decide) ?_
      exact lawc_28 l E hX hbl hbA hI hJ hL h hi hl K
    · refine lv_tableIn (tgt := 1029) (off := 997) hx hb dL_law_32 (by decide) (by decide) (by decide) (by decide) ?_
      exact lawc_29 l E hX hbl hbA hI hJ hL h hi hl K
    · refine lv_tableIn (tgt := 1052) (off := 1020) hx hb dL_law_32 (by decide) (by decide) (by decide) (by decide) ?_
      exact lawc_30 l E hX hbl hbA hI hJ hL h hi hl K
    · refine lv_tableOut (tgt := 1065) hx hb dL_law_32 (by decide) (by decide) ?_
      exact K σ _ _ _ hI hJ h hl
