def wo_X8 (h : Nat) (r : Nat → Nat) (c : Nat → ClassId) : va_W := [(h, .inr (8, [.ref (r 0), .ref (r 1), .ref (r 2), .int 0, .int 0])), ((r 0), .inl ((c 0), 200, .inl (fun _ => 0))), ((r 1), .inl ((c 1), 6, .inl nowF)), ((r 2), .inl ((c 2), 6, .inl (fun _ => 0)))]
def ty_X8 (c : Nat → ClassId) : List (ClassId × FieldType) := [(c 0, .int), (c 1, .int), (c 2, .int)]
set_option maxHeartbeats 4000000 in
set_option maxRecDepth 100000 in
theorem kc_X8 (l : Launch) (D : va_G) (N0 t1 h0 sz : Nat) (hN : N0 ≤ h0 ∧ N0 ≤ sz) : CM l D N0 t1 h0 sz yX8_init wsX8_init { frames := 1, cells := 3, slots := 212, locals := 12 } 8 [.null, .null, .null, .int 0, .int 0] (wo_X8 h0) ty_X8 3 212 := by
  refine c_met (own := RX8) (cc := cX8_init) (maxL := 2) hN (by decide) rfl rfl rfl (by decide) ?_
  intro p e s m args below meth c ls E h hl
  have hx := E.1
  have hb := E.2.1
  have hts := E.2.2.2.2.1
  have hwX8 : ∀ w ∈ wsX80, w ∈ wsX8_init := by decide +kernel
  refine lv_aload_n hx hb dX8_init_0 rfl (lv_at hl 0 rfl) ?_
  refine c_obj E (by decide +kernel) (by decide +kernel) (by decide +kernel) hl.1 ⟨Nat.le_of_ble_eq_true rfl, Nat.le_of_ble_eq_true rfl⟩ dX8_init_1 ?_
  refine lv_aload_n hx hb dX8_init_4 rfl (lv_at hl 0 rfl) ?_
  refine lv_sipush (v := 200) hx hb dX8_init_5 (by decide) ?_
  refine c_newI E h 200 1 (N := 200) (by decide +kernel) (by decide) (by decide) (Nat.le_of_ble_eq_true rfl) rfl rfl (Nat.le_of_ble_eq_true rfl) (Nat.le_of_ble_eq_true rfl) dX8_init_8 (fun q1 a1 H h => ?_)
  have h : HC D (va_A (C1 h0 8 [.null, .null, .null, .int 0, .int 0]) sz) s ((h0, .inr (8, [.null, .null, .null, .int 0, .int 0])) :: ([] ++ [(q1, .inl (a1, 200, .inl (fun _ => 0)))])) ([] ++ [(a1, .int)]) H _ := h
  refine c_putF E h (fs' := [.ref q1, .null, .null, .int 0, .int 0]) (ty := (.array .int)) (q := q1) rfl hwX8 tyX8_ok nmX8 (j := 0) (by decide) (by decide +kernel) (by decide +kernel) rfl rfl (by decide +kernel) rfl rfl (Nat.le_of_ble_eq_true rfl) rfl dX8_init_10 (fun H locs h => ?_)
  have h : HC D (va_A (C1 h0 8 [.null, .null, .null, .int 0, .int 0]) sz) s ((h0, .inr (8, [.ref q1, .null, .null, .int 0, .int 0])) :: ([] ++ [(q1, .inl (a1, 200, .inl (fun _ => 0)))])) ([] ++ [(a1, .int)]) H _ := h
  refine lv_aload_n hx hb dX8_init_13 rfl (lv_at hl 0 rfl) ?_
  refine lv_bipush (v := 6) hx hb dX8_init_14 (by decide) ?_
  refine c_newI E h 206 2 (N := 6) (by decide +kernel) (by decide) (by decide) (Nat.le_of_ble_eq_true rfl) rfl rfl (Nat.le_of_ble_eq_true rfl) (Nat.le_of_ble_eq_true rfl) dX8_init_16 (fun q2 a2 H h => ?_)
  have h : HC D (va_A (C1 h0 8 [.null, .null, .null, .int 0, .int 0]) sz) s ((h0, .inr (8, [.ref q1, .null, .null, .int 0, .int 0])) :: (([] ++ [(q1, .inl (a1, 200, .inl (fun _ => 0)))]) ++ [(q2, .inl (a2, 6, .inl (fun _ => 0)))])) (([] ++ [(a1, .int)]) ++ [(a2, .int)]) H _ := h
  refine c_putF E h (fs' := [.ref q1, .ref q2, .null, .int 0, .int 0]) (ty := (.array .int)) (q := q2) rfl hwX8 tyX8_ok nmX8 (j := 1) (by decide) (by decide +kernel) (by decide +kernel) rfl rfl (by decide +kernel) rfl rfl (Nat.le_of_ble_eq_true rfl) rfl dX8_init_18 (fun H locs h => ?_)
  have h : HC D (va_A (C1 h0 8 [.null, .null, .null, .int 0, .int 0]) sz) s ((h0, .inr (8, [.ref q1, .ref q2, .null, .int 0, .int 0])) :: (([] ++ [(q1, .inl (a1, 200, .inl (fun _ => 0)))]) ++ [(q2, .inl (a2, 6, .inl (fun _ => 0)))])) (([] ++ [(a1, .int)]) ++ [(a2, .int)]) H _ := h
  refine lv_aload_n hx hb dX8_init_21 rfl (lv_at hl 0 rfl) ?_
  refine lv_bipush (v := 6) hx hb dX8_init_22 (by decide) ?_
  refine c_newI E h 212 3 (N := 6) (by decide +kernel) (by decide) (by decide) (Nat.le_of_ble_eq_true rfl) rfl rfl (Nat.le_of_ble_eq_true rfl) (Nat.le_of_ble_eq_true rfl) dX8_init_24 (fun q3 a3 H h => ?_)
  have h : HC D (va_A (C1 h0 8 [.null, .null, .null, .int 0, .int 0]) sz) s ((h0, .inr (8, [.ref q1, .ref q2, .null, .int 0, .int 0])) :: ((([] ++ [(q1, .inl (a1, 200, .inl (fun _ => 0)))]) ++ [(q2, .inl (a2, 6, .inl (fun _ => 0)))]) ++ [(q3, .inl (a3, 6, .inl (fun _ => 0)))])) ((([] ++ [(a1, .int)]) ++ [(a2, .int)]) ++ [(a3, .int)]) H _ := h
  refine c_putF E h (fs' := [.ref q1, .ref q2, .ref q3, .int 0, .int 0]) (ty := (.array .int)) (q := q3) rfl hwX8 tyX8_ok nmX8 (j := 2) (by decide) (by decide +kernel) (by decide +kernel) rfl rfl (by decide +kernel) rfl rfl (Nat.le_of_ble_eq_true rfl) rfl dX8_init_26 (fun H locs h => ?_)
  have h : HC D (va_A (C1 h0 8 [.null, .null, .null, .int 0, .int 0]) sz) s ((h0, .inr (8, [.ref q1, .ref q2, .ref q3, .int 0, .int 0])) :: ((([] ++ [(q1, .inl (a1, 200, .inl (fun _ => 0)))]) ++ [(q2, .inl (a2, 6, .inl (fun _ => 0)))]) ++ [(q3, .inl (a3, 6, .inl (fun _ => 0)))])) ((([] ++ [(a1, .int)]) ++ [(a2, .int)]) ++ [(a3, .int)]) H _ := h
  refine lv_iconst (v := 0) hx hb dX8_init_29 (by decide) ?_
  refine lv_istore_n (lv' := [(1, .int 0), (0, .ref h0)]) hx hb dX8_init_30 rfl hl (by decide) rfl (fun ls hl => ?_)
  refine lv_iload_n hx hb dX8_init_31 rfl (lv_at hl 0 rfl) ?_
  refine lv_bipush (v := 6) hx hb dX8_init_32 (by decide) ?_
  refine lv_icmp_ge (tgt := 54) hx hb dX8_init_34 (by decide) (fun c => absurd c (by decide)) (fun _ => ?_)
  refine lv_aload_n hx hb dX8_init_37 rfl (lv_at hl 1 rfl) ?_
  refine c_getR E h (q := q2) rfl hwX8 (j := 1) (by decide) (by decide +kernel) rfl dX8_init_38 ?_
  refine lv_iload_n hx hb dX8_init_41 rfl (lv_at hl 0 rfl) ?_
  refine c_gets E h (by decide +kernel) dX8_init_42 ?_
  refine lv_iload_n hx hb dX8_init_45 rfl (lv_at hl 0 rfl) ?_
  refine c_tab E h (i := 0) (v := 20) (by unfold vp_in; decide) rfl dX8_init_46 ?_
  refine c_stI E h 2 1 (i := 0) rfl rfl (by unfold vp_in; decide) (j := 0) (by decide) (f' := (upd (fun _ => 0) 0 20)) rfl dX8_init_47 (fun H locs h => ?_)
  have h : HC D (va_A (C1 h0 8 [.null, .null, .null, .int 0, .int 0]) sz) s ((h0, .inr (8, [.ref q1, .ref q2, .ref q3, .int 0, .int 0])) :: ((([] ++ [(q1, .inl (a1, 200, .inl (fun _ => 0)))]) ++ [(q2, .inl (a2, 6, .inl (upd (fun _ => 0) 0 20)))]) ++ [(q3, .inl (a3, 6, .inl (fun _ => 0)))])) ((([] ++ [(a1, .int)]) ++ [(a2, .int)]) ++ [(a3, .int)]) H _ := h
  refine lv_iinc (v := 1) (lv' := [(1, .int 1), (0, .ref h0)]) hx hb dX8_init_48 hl (k := 0) rfl (by decide) (by decide) rfl (fun ls hl => ?_)
  refine lv_goto (tgt := 31) hx hb dX8_init_51 (by decide) ?_
  refine lv_iload_n hx hb dX8_init_31 rfl (lv_at hl 0 rfl) ?_
  refine lv_bipush (v := 6) hx hb dX8_init_32 (by decide) ?_
  refine lv_icmp_ge (tgt := 54) hx hb dX8_init_34 (by decide) (fun c => absurd c (by decide)) (fun _ => ?_)
  refine lv_aload_n hx hb dX8_init_37 rfl (lv_at hl 1 rfl) ?_
  refine c_getR E h (q := q2) rfl hwX8 (j := 1) (by decide) (by decide +kernel) rfl dX8_init_38 ?_
  refine lv_iload_n hx hb dX8_init_41 rfl (lv_at hl 0 rfl) ?_
  refine c_gets E h (by decide +kernel) dX8_init_42 ?_
  refine lv_iload_n hx hb dX8_init_45 rfl (lv_at hl 0 rfl) ?_
  refine c_tab E h (i := 1) (v := 10) (by unfold vp_in; decide) rfl dX8_init_46 ?_
  refine c_stI E h 2 1 (i := 1) rfl rfl (by unfold vp_in; decide) (j := 1) (by decide) (f' := (upd (upd (fun _ => 0) 0 20) 1 10)) rfl dX8_init_47 (fun H locs h => ?_)
  have h : HC D (va_A (C1 h0 8 [.null, .null, .null, .int 0, .int 0]) sz) s ((h0, .inr (8, [.ref q1, .ref q2, .ref q3, .int 0, .int 0])) :: ((([] ++ [(q1, .inl (a1, 200, .inl (fun _ => 0)))]) ++ [(q2, .inl (a2, 6, .inl (upd (upd (fun _ => 0) 0 20) 1 10)))]) ++ [(q3, .inl (a3, 6, .inl (fun _ => 0)))])) ((([] ++ [(a1, .int)]) ++ [(a2, .int)]) ++ [(a3, .int)]) H _ := h
  refine lv_iinc (v := 2) (lv' := [(1, .int 2), (0, .ref h0)]) hx hb dX8_init_48 hl (k := 0) rfl (by decide) (by decide) rfl (fun ls hl => ?_)
  refine lv_goto (tgt := 31) hx hb dX8_init_51 (by decide) ?_
  refine lv_iload_n hx hb dX8_init_31 rfl (lv_at hl 0 rfl) ?_
  refine lv_bipush (v := 6) hx hb dX8_init_32 (by decide) ?_
  refine lv_icmp_ge (tgt := 54) hx hb dX8_init_34 (by decide) (fun c => absurd c (by decide)) (fun _ => ?_)
  refine lv_aload_n hx hb dX8_init_37 rfl (lv_at hl 1 rfl) ?_
  refine c_getR E h (q := q2) rfl hwX8 (j := 1) (by decide) (by decide +kernel) rfl dX8_init_38 ?_
  refine lv_iload_n hx hb dX8_init_41 rfl (lv_at hl 0 rfl) ?_
  refine c_gets E h (by decide +kernel) dX8_init_42 ?_
  refine lv_iload_n hx hb dX8_init_45 rfl (lv_at hl 0 rfl) ?_
  refine c_tab E h (i := 2) (v := 40) (by unfold vp_in; decide) rfl dX8_init_46 ?_
  refine c_stI E h 2 1 (i := 2) rfl rfl (by unfold vp_in; decide) (j := 2) (by decide) (f' := (upd (upd (upd (fun _ => 0) 0 20) 1 10) 2 40)) rfl dX8_init_47 (fun H locs h => ?_)
  have h : HC D (va_A (C1 h0 8 [.null, .null, .null, .int 0, .int 0]) sz) s ((h0, .inr (8, [.ref q1, .ref q2, .ref q3, .int 0, .int 0])) :: ((([] ++ [(q1, .inl (a1, 200, .inl (fun _ => 0)))]) ++ [(q2, .inl (a2, 6, .inl (upd (upd (upd (fun _ => 0) 0 20) 1 10) 2 40)))]) ++ [(q3, .inl (a3, 6, .inl (fun _ => 0)))])) ((([] ++ [(a1, .int)]) ++ [(a2, .int)]) ++ [(a3, .int)]) H _ := h
  refine lv_iinc (v := 3) (lv' := [(1, .int 3), (0, .ref h0)]) hx hb dX8_init_48 hl (k := 0) rfl (by decide) (by decide) rfl (fun ls hl => ?_)
  refine lv_goto (tgt := 31) hx hb dX8_init_51 (by decide) ?_
  refine lv_iload_n hx hb dX8_init_31 rfl (lv_at hl 0 rfl) ?_
  refine lv_bipush (v := 6) hx hb dX8_init_32 (by decide) ?_
  refine lv_icmp_ge (tgt := 54) hx hb dX8_init_34 (by decide) (fun c => absurd c (by decide)) (fun _ => ?_)
  refine lv_aload_n hx hb dX8_init_37 rfl (lv_at hl 1 rfl) ?_
  refine c_getR E h (q := q2) rfl hwX8 (j := 1) (by decide) (by decide +kernel) rfl dX8_init_38 ?_
  refine lv_iload_n hx hb dX8_init_41 rfl (lv_at hl 0 rfl) ?_
  refine c_gets E h (by decide +kernel) dX8_init_42 ?_
  refine lv_iload_n hx hb dX8_init_45 rfl (lv_at hl 0 rfl) ?_
  refine c_tab E h (i := 3) (v := 0) (by unfold vp_in; decide) rfl dX8_init_46 ?_
  refine c_stI E h 2 1 (i := 3) rfl rfl (by unfold vp_in; decide) (j := 3) (by decide) (f' := (upd (upd (upd (upd (fun _ => 0) 0 20) 1 10) 2 40) 3 0)) rfl dX8_init_47 (fun H locs h => ?_)
  have h : HC D (va_A (C1 h0 8 [.null, .null, .null, .int 0, .int 0]) sz) s ((h0, .inr (8, [.ref q1, .ref q2, .ref q3, .int 0, .int 0])) :: ((([] ++ [(q1, .inl (a1, 200, .inl (fun _ => 0)))]) ++ [(q2, .inl (a2, 6, .inl (upd (upd (upd (upd (fun _ => 0) 0 20) 1 10) 2 40) 3 0)))]) ++ [(q3, .inl (a3, 6, .inl (fun _ => 0)))])) ((([] ++ [(a1, .int)]) ++ [(a2, .int)]) ++ [(a3, .int)]) H _ := h
  refine lv_iinc (v := 4) (lv' := [(1, .int 4), (0, .ref h0)]) hx hb dX8_init_48 hl (k := 0) rfl (by decide) (by decide) rfl (fun ls hl => ?_)
  refine lv_goto (tgt := 31) hx hb dX8_init_51 (by decide) ?_
  refine lv_iload_n hx hb dX8_init_31 rfl (lv_at hl 0 rfl) ?_
  refine lv_bipush (v := 6) hx hb dX8_init_32 (by decide) ?_
  refine lv_icmp_ge (tgt := 54) hx hb dX8_init_34 (by decide) (fun c => absurd c (by decide)) (fun _ => ?_)
  refine lv_aload_n hx hb dX8_init_37 rfl (lv_at hl 1 rfl) ?_
  refine c_getR E h (q := q2) rfl hwX8 (j := 1) (by decide) (by decide +kernel) rfl dX8_init_38 ?_
  refine lv_iload_n hx hb dX8_init_41 rfl (lv_at hl 0 rfl) ?_
  refine c_gets E h (by decide +kernel) dX8_init_42 ?_
  refine lv_iload_n hx hb dX8_init_45 rfl (lv_at hl 0 rfl) ?_
  refine c_tab E h (i := 4) (v := 0) (by unfold vp_in; decide) rfl dX8_init_46 ?_
  refine c_stI E h 2 1 (i := 4) rfl rfl (by unfold vp_in; decide) (j := 4) (by decide) (f' := (upd (upd (upd (upd (upd (fun _ => 0) 0 20) 1 10) 2 40) 3 0) 4 0)) rfl dX8_init_47 (fun H locs h => ?_)
  have h : HC D (va_A (C1 h0 8 [.null, .null, .null, .int 0, .int 0]) sz) s ((h0, .inr (8, [.ref q1, .ref q2, .ref q3, .int 0, .int 0])) :: ((([] ++ [(q1, .inl (a1, 200, .inl (fun _ => 0)))]) ++ [(q2, .inl (a2, 6, .inl (upd (upd (upd (upd (upd (fun _ => 0) 0 20) 1 10) 2 40) 3 0) 4 0)))]) ++ [(q3, .inl (a3, 6, .inl (fun _ => 0)))])) ((([] ++ [(a1, .int)]) ++ [(a2, .int)]) ++ [(a3, .int)]) H _ := h
  refine lv_iinc (v := 5) (lv' := [(1, .int 5), (0, .ref h0)]) hx hb dX8_init_48 hl (k := 0) rfl (by decide) (by decide) rfl (fun ls hl => ?_)
  refine lv_goto (tgt := 31) hx hb dX8_init_51 (by decide) ?_
  refine lv_iload_n hx hb dX8_init_31 rfl (lv_at hl 0 rfl) ?_
  refine lv_bipush (v := 6) hx hb dX8_init_32 (by decide) ?_
  refine lv_icmp_ge (tgt := 54) hx hb dX8_init_34 (by decide) (fun c => absurd c (by decide)) (fun _ => ?_)
  refine lv_aload_n hx hb dX8_init_37 rfl (lv_at hl 1 rfl) ?_
  refine c_getR E h (q := q2) rfl hwX8 (j := 1) (by decide) (by decide +kernel) rfl dX8_init_38 ?_
  refine lv_iload_n hx hb dX8_init_41 rfl (lv_at hl 0 rfl) ?_
  refine c_gets E h (by decide +kernel) dX8_init_42 ?_
  refine lv_iload_n hx hb dX8_init_45 rfl (lv_at hl 0 rfl) ?_
  refine c_tab E h (i := 5) (v := 10) (by unfold vp_in; decide) rfl dX8_init_46 ?_
  refine c_stI E h 2 1 (i := 5) rfl rfl (by unfold vp_in; decide) (j := 5) (by decide) (f' := nowF) rfl dX8_init_47 (fun H locs h => ?_)
  have h : HC D (va_A (C1 h0 8 [.null, .null, .null, .int 0, .int 0]) sz) s ((h0, .inr (8, [.ref q1, .ref q2, .ref q3, .int 0, .int 0])) :: ((([] ++ [(q1, .inl (a1, 200, .inl (fun _ => 0)))]) ++ [(q2, .inl (a2, 6, .inl nowF))]) ++ [(q3, .inl (a3, 6, .inl (fun _ => 0)))])) ((([] ++ [(a1, .int)]) ++ [(a2, .int)]) ++ [(a3, .int)]) H _ := h
  refine lv_iinc (v := 6) (lv' := [(1, .int 6), (0, .ref h0)]) hx hb dX8_init_48 hl (k := 0) rfl (by decide) (by decide) rfl (fun ls hl => ?_)
  refine lv_goto (tgt := 31) hx hb dX8_init_51 (by decide) ?_
  refine lv_iload_n hx hb dX8_init_31 rfl (lv_at hl 0 rfl) ?_
  refine lv_bipush (v := 6) hx hb dX8_init_32 (by decide) ?_
  refine lv_icmp_ge (tgt := 54) hx hb dX8_init_34 (by decide) (fun _ => ?_) (fun c => absurd (by decide) c)
  exact c_vret (wo := wo_X8 h0) (ty := ty_X8) (fun k => [q1, q2, q3].getD k 0) (fun k => [a1, a2, a3].getD k (a1)) E h (by decide +kernel) dX8_init_54
def wo_X7 (h : Nat) (r : Nat → Nat) (c : Nat → ClassId) : va_W := [(h, .inr (7, [.ref (r 0), .ref (r 1), .ref (r 2), .ref (r 3), .int 0])), ((r 0), .inl ((c 0), 192, .inl (fun _ => 0))), ((r 1), .inl ((c 1), 48, .inl (fun _ => 0))), ((r 2), .inl ((c 2), 48, .inl (fun _ => 0))), ((r 3), .inl ((c 3), 48, .inl (fun _ => 0)))]
def ty_X7 (c : Nat → ClassId) : List (ClassId × FieldType) := [(c 0, .int), (c 1, .boolean), (c 2, .boolean), (c 3, .int)]
set_option maxHeartbeats 4000000 in
set_option maxRecDepth 100000 in
theorem kc_X7 (l : Launch) (D : va_G) (N0 t1 h0 sz : Nat) (hN : N0 ≤ h0 ∧ N0 ≤ sz) : CM l D N0 t1 h0 sz yX7_init wsX7_init { frames := 1, cells := 4, slots := 336, locals := 12 } 7 [.null, .null, .null, .null, .int 0] (wo_X7 h0) ty_X7 4 336 := by
  refine c_met (own := RX7) (cc := cX7_init) (maxL := 1) hN (by decide) rfl rfl rfl (by decide) ?_
  intro p e s m args below meth c ls E h hl
  have hx := E.1
  have hb := E.2.1
  have hts := E.2.2.2.2.1
  have hwX7 : ∀ w ∈ wsX70, w ∈ wsX7_init := by decide +kernel
  refine lv_aload_n hx hb dX7_init_0 rfl (lv_at hl 0 rfl) ?_
  refine c_obj E (by decide +kernel) (by decide +kernel) (by decide +kernel) hl.1 ⟨Nat.le_of_ble_eq_true rfl, Nat.le_of_ble_eq_true rfl⟩ dX7_init_1 ?_
  refine lv_aload_n hx hb dX7_init_4 rfl (lv_at hl 0 rfl) ?_
  refine lv_sipush (v := 192) hx hb dX7_init_5 (by decide) ?_
  refine c_newI E h 192 1 (N := 192) (by decide +kernel) (by decide) (by decide) (Nat.le_of_ble_eq_true rfl) rfl rfl (Nat.le_of_ble_eq_true rfl) (Nat.le_of_ble_eq_true rfl) dX7_init_8 (fun q1 a1 H h => ?_)
  refine c_putF E h (fs' := [.ref q1, .null, .null, .null, .int 0]) (ty := (.array .int)) (q := q1) rfl hwX7 tyX7_ok nmX7 (j := 0) (by decide) (by decide +kernel) (by decide +kernel) rfl rfl (by decide +kernel) rfl rfl (Nat.le_of_ble_eq_true rfl) rfl dX7_init_10 (fun H locs h => ?_)
  refine lv_aload_n hx hb dX7_init_13 rfl (lv_at hl 0 rfl) ?_
  refine lv_bipush (v := 48) hx hb dX7_init_14 (by decide) ?_
  refine c_newZ E h 240 2 (N := 48) (by decide +kernel) (by decide) (by decide) (Nat.le_of_ble_eq_true rfl) rfl rfl (Nat.le_of_ble_eq_true rfl) (Nat.le_of_ble_eq_true rfl) dX7_init_16 (fun q2 a2 H h => ?_)
  refine c_putF E h (fs' := [.ref q1, .ref q2, .null, .null, .int 0]) (ty := (.array .boolean)) (q := q2) rfl hwX7 tyX7_ok nmX7 (j := 1) (by decide) (by decide +kernel) (by decide +kernel) rfl rfl (by decide +kernel) rfl rfl (Nat.le_of_ble_eq_true rfl) rfl dX7_init_18 (fun H locs h => ?_)
  refine lv_aload_n hx hb dX7_init_21 rfl (lv_at hl 0 rfl) ?_
  refine lv_bipush (v := 48) hx hb dX7_init_22 (by decide) ?_
  refine c_newZ E h 288 3 (N := 48) (by decide +kernel) (by decide) (by decide) (Nat.le_of_ble_eq_true rfl) rfl rfl (Nat.le_of_ble_eq_true rfl) (Nat.le_of_ble_eq_true rfl) dX7_init_24 (fun q3 a3 H h => ?_)
  refine c_putF E h (fs' := [.ref q1, .ref q2, .ref q3, .null, .int 0]) (ty := (.array .boolean)) (q := q3) rfl hwX7 tyX7_ok nmX7 (j := 2) (by decide) (by decide +kernel) (by decide +kernel) rfl rfl (by decide +kernel) rfl rfl (Nat.le_of_ble_eq_true rfl) rfl dX7_init_26 (fun H locs h => ?_)
  refine lv_aload_n hx hb dX7_init_29 rfl (lv_at hl 0 rfl) ?_
  refine lv_bipush (v := 48) hx hb dX7_init_30 (by decide) ?_
  refine c_newI E h 336 4 (N := 48) (by decide +kernel) (by decide) (by decide) (Nat.le_of_ble_eq_true rfl) rfl rfl (Nat.le_of_ble_eq_true rfl) (Nat.le_of_ble_eq_true rfl) dX7_init_32 (fun q4 a4 H h => ?_)
  refine c_putF E h (fs' := [.ref q1, .ref q2, .ref q3, .ref q4, .int 0]) (ty := (.array .int)) (q := q4) rfl hwX7 tyX7_ok nmX7 (j := 3) (by decide) (by decide +kernel) (by decide +kernel) rfl rfl (by decide +kernel) rfl rfl (Nat.le_of_ble_eq_true rfl) rfl dX7_init_34 (fun H locs h => ?_)
  exact c_vret (wo := wo_X7 h0) (ty := ty_X7) (fun k => [q1, q2, q3, q4].getD k 0) (fun k => [a1, a2, a3, a4].getD k (a1)) E h (by decide +kernel) dX7_init_37
