def wo_X4 (h : Nat) (r : Nat → Nat) (c : Nat → ClassId) : va_W := [(h, .inr (4, [.ref (r 0), .ref (r 1), .ref (r 2), .int 0, .int 0])), ((r 0), .inl ((c 0), 9, .inl (fun _ => 0))), ((r 1), .inl ((c 1), 9, .inl (fun _ => 0))), ((r 2), .inl ((c 2), 36, .inl (fun _ => 0)))]
def ty_X4 (c : Nat → ClassId) : List (ClassId × FieldType) := [(c 0, .int), (c 1, .int), (c 2, .int)]
set_option maxHeartbeats 4000000 in
set_option maxRecDepth 100000 in
theorem kc_X4 (l : Launch) (D : va_G) (N0 t1 h0 sz : Nat) (hN : N0 ≤ h0 ∧ N0 ≤ sz) : CM l D N0 t1 h0 sz yX4_init wsX4_init { frames := 1, cells := 3, slots := 54, locals := 12 } 4 [.null, .null, .null, .int 0, .int 0] (wo_X4 h0) ty_X4 3 54 := by
  refine c_met (own := RX4) (cc := cX4_init) (maxL := 1) hN (by decide) rfl rfl rfl (by decide) ?_
  intro p e s m args below meth c ls E h hl
  have hx := E.1
  have hb := E.2.1
  have hts := E.2.2.2.2.1
  have hwX4 : ∀ w ∈ wsX40, w ∈ wsX4_init := by decide +kernel
  refine lv_aload_n hx hb dX4_init_0 rfl (lv_at hl 0 rfl) ?_
  refine c_obj E (by decide +kernel) (by decide +kernel) (by decide +kernel) hl.1 ⟨Nat.le_of_ble_eq_true rfl, Nat.le_of_ble_eq_true rfl⟩ dX4_init_1 ?_
  refine lv_aload_n hx hb dX4_init_4 rfl (lv_at hl 0 rfl) ?_
  refine lv_bipush (v := 9) hx hb dX4_init_5 (by decide) ?_
  refine c_newI E h 9 1 (N := 9) (by decide +kernel) (by decide) (by decide) (Nat.le_of_ble_eq_true rfl) rfl rfl (Nat.le_of_ble_eq_true rfl) (Nat.le_of_ble_eq_true rfl) dX4_init_7 (fun q1 a1 H h => ?_)
  refine c_putF E h (fs' := [.ref q1, .null, .null, .int 0, .int 0]) (ty := (.array .int)) (q := q1) rfl hwX4 tyX4_ok nmX4 (j := 0) (by decide) (by decide +kernel) (by decide +kernel) rfl rfl (by decide +kernel) rfl rfl (Nat.le_of_ble_eq_true rfl) rfl dX4_init_9 (fun H locs h => ?_)
  refine lv_aload_n hx hb dX4_init_12 rfl (lv_at hl 0 rfl) ?_
  refine lv_bipush (v := 9) hx hb dX4_init_13 (by decide) ?_
  refine c_newI E h 18 2 (N := 9) (by decide +kernel) (by decide) (by decide) (Nat.le_of_ble_eq_true rfl) rfl rfl (Nat.le_of_ble_eq_true rfl) (Nat.le_of_ble_eq_true rfl) dX4_init_15 (fun q2 a2 H h => ?_)
  refine c_putF E h (fs' := [.ref q1, .ref q2, .null, .int 0, .int 0]) (ty := (.array .int)) (q := q2) rfl hwX4 tyX4_ok nmX4 (j := 1) (by decide) (by decide +kernel) (by decide +kernel) rfl rfl (by decide +kernel) rfl rfl (Nat.le_of_ble_eq_true rfl) rfl dX4_init_17 (fun H locs h => ?_)
  refine lv_aload_n hx hb dX4_init_20 rfl (lv_at hl 0 rfl) ?_
  refine lv_bipush (v := 36) hx hb dX4_init_21 (by decide) ?_
  refine c_newI E h 54 3 (N := 36) (by decide +kernel) (by decide) (by decide) (Nat.le_of_ble_eq_true rfl) rfl rfl (Nat.le_of_ble_eq_true rfl) (Nat.le_of_ble_eq_true rfl) dX4_init_23 (fun q3 a3 H h => ?_)
  refine c_putF E h (fs' := [.ref q1, .ref q2, .ref q3, .int 0, .int 0]) (ty := (.array .int)) (q := q3) rfl hwX4 tyX4_ok nmX4 (j := 2) (by decide) (by decide +kernel) (by decide +kernel) rfl rfl (by decide +kernel) rfl rfl (Nat.le_of_ble_eq_true rfl) rfl dX4_init_25 (fun H locs h => ?_)
  exact c_vret (wo := wo_X4 h0) (ty := ty_X4) (fun k => [q1, q2, q3].getD k 0) (fun k => [a1, a2, a3].getD k (a1)) E h (by decide +kernel) dX4_init_28
def wo_X5 (h : Nat) (r : Nat → Nat) (c : Nat → ClassId) : va_W := [(h, .inr (5, [.ref (r 0), .ref (r 1), .ref (r 2), .int 0])), ((r 0), .inl ((c 0), 6, .inl (fun _ => 0))), ((r 1), .inl ((c 1), 24, .inl (fun _ => 0))), ((r 2), .inl ((c 2), 512, .inl (fun _ => 0)))]
def ty_X5 (c : Nat → ClassId) : List (ClassId × FieldType) := [(c 0, .int), (c 1, .int), (c 2, .int)]
set_option maxHeartbeats 4000000 in
set_option maxRecDepth 100000 in
theorem kc_X5 (l : Launch) (D : va_G) (N0 t1 h0 sz : Nat) (hN : N0 ≤ h0 ∧ N0 ≤ sz) : CM l D N0 t1 h0 sz yX5_init wsX5_init { frames := 1, cells := 3, slots := 542, locals := 12 } 5 [.null, .null, .null, .int 0] (wo_X5 h0) ty_X5 3 542 := by
  refine c_met (own := RX5) (cc := cX5_init) (maxL := 1) hN (by decide) rfl rfl rfl (by decide) ?_
  intro p e s m args below meth c ls E h hl
  have hx := E.1
  have hb := E.2.1
  have hts := E.2.2.2.2.1
  have hwX5 : ∀ w ∈ wsX50, w ∈ wsX5_init := by decide +kernel
  refine lv_aload_n hx hb dX5_init_0 rfl (lv_at hl 0 rfl) ?_
  refine c_obj E (by decide +kernel) (by decide +kernel) (by decide +kernel) hl.1 ⟨Nat.le_of_ble_eq_true rfl, Nat.le_of_ble_eq_true rfl⟩ dX5_init_1 ?_
  refine lv_aload_n hx hb dX5_init_4 rfl (lv_at hl 0 rfl) ?_
  refine lv_bipush (v := 6) hx hb dX5_init_5 (by decide) ?_
  refine c_newI E h 6 1 (N := 6) (by decide +kernel) (by decide) (by decide) (Nat.le_of_ble_eq_true rfl) rfl rfl (Nat.le_of_ble_eq_true rfl) (Nat.le_of_ble_eq_true rfl) dX5_init_7 (fun q1 a1 H h => ?_)
  refine c_putF E h (fs' := [.ref q1, .null, .null, .int 0]) (ty := (.array .int)) (q := q1) rfl hwX5 tyX5_ok nmX5 (j := 0) (by decide) (by decide +kernel) (by decide +kernel) rfl rfl (by decide +kernel) rfl rfl (Nat.le_of_ble_eq_true rfl) rfl dX5_init_9 (fun H locs h => ?_)
  refine lv_aload_n hx hb dX5_init_12 rfl (lv_at hl 0 rfl) ?_
  refine lv_bipush (v := 24) hx hb dX5_init_13 (by decide) ?_
  refine c_newI E h 30 2 (N := 24) (by decide +kernel) (by decide) (by decide) (Nat.le_of_ble_eq_true rfl) rfl rfl (Nat.le_of_ble_eq_true rfl) (Nat.le_of_ble_eq_true rfl) dX5_init_15 (fun q2 a2 H h => ?_)
  refine c_putF E h (fs' := [.ref q1, .ref q2, .null, .int 0]) (ty := (.array .int)) (q := q2) rfl hwX5 tyX5_ok nmX5 (j := 1) (by decide) (by decide +kernel) (by decide +kernel) rfl rfl (by decide +kernel) rfl rfl (Nat.le_of_ble_eq_true rfl) rfl dX5_init_17 (fun H locs h => ?_)
  refine lv_aload_n hx hb dX5_init_20 rfl (lv_at hl 0 rfl) ?_
  refine lv_sipush (v := 512) hx hb dX5_init_21 (by decide) ?_
  refine c_newI E h 542 3 (N := 512) (by decide +kernel) (by decide) (by decide) (Nat.le_of_ble_eq_true rfl) rfl rfl (Nat.le_of_ble_eq_true rfl) (Nat.le_of_ble_eq_true rfl) dX5_init_24 (fun q3 a3 H h => ?_)
  refine c_putF E h (fs' := [.ref q1, .ref q2, .ref q3, .int 0]) (ty := (.array .int)) (q := q3) rfl hwX5 tyX5_ok nmX5 (j := 2) (by decide) (by decide +kernel) (by decide +kernel) rfl rfl (by decide +kernel) rfl rfl (Nat.le_of_ble_eq_true rfl) rfl dX5_init_26 (fun H locs h => ?_)
  exact c_vret (wo := wo_X5 h0) (ty := ty_X5) (fun k => [q1, q2, q3].getD k 0) (fun k => [a1, a2, a3].getD k (a1)) E h (by decide +kernel) dX5_init_29
