def wo_X1 (h : Nat) (r : Nat → Nat) (c : Nat → ClassId) : va_W := [(h, .inr (1, [.ref (r 0), .ref (r 10), .ref (r 20), .int 0])), ((r 0), .inl ((c 0), 9, .inr (.inr (.inr (.inr (fun i => ([(r 1), (r 2), (r 3), (r 4), (r 5), (r 6), (r 7), (r 8), (r 9)] : List Nat)[i]?)))))), ((r 1), .inl ((c 1), 9, .inl (fun _ => 0))), ((r 2), .inl ((c 2), 9, .inl (fun _ => 0))), ((r 3), .inl ((c 3), 9, .inl (fun _ => 0))), ((r 4), .inl ((c 4), 9, .inl (fun _ => 0))), ((r 5), .inl ((c 5), 9, .inl (fun _ => 0))), ((r 6), .inl ((c 6), 9, .inl (fun _ => 0))), ((r 7), .inl ((c 7), 9, .inl (fun _ => 0))), ((r 8), .inl ((c 8), 9, .inl (fun _ => 0))), ((r 9), .inl ((c 9), 9, .inl (fun _ => 0))), ((r 10), .inl ((c 10), 9, .inr (.inr (.inr (.inr (fun i => ([(r 11), (r 12), (r 13), (r 14), (r 15), (r 16), (r 17), (r 18), (r 19)] : List Nat)[i]?)))))), ((r 11), .inl ((c 11), 9, .inl (fun _ => 0))), ((r 12), .inl ((c 12), 9, .inl (fun _ => 0))), ((r 13), .inl ((c 13), 9, .inl (fun _ => 0))), ((r 14), .inl ((c 14), 9, .inl (fun _ => 0))), ((r 15), .inl ((c 15), 9, .inl (fun _ => 0))), ((r 16), .inl ((c 16), 9, .inl (fun _ => 0))), ((r 17), .inl ((c 17), 9, .inl (fun _ => 0))), ((r 18), .inl ((c 18), 9, .inl (fun _ => 0))), ((r 19), .inl ((c 19), 9, .inl (fun _ => 0))), ((r 20), .inl ((c 20), 512, .inl (fun _ => 0)))]
def ty_X1 (c : Nat → ClassId) : List (ClassId × FieldType) := [(c 0, (.array .int)), (c 1, .int), (c 2, .int), (c 3, .int), (c 4, .int), (c 5, .int), (c 6, .int), (c 7, .int), (c 8, .int), (c 9, .int), (c 10, (.array .int)), (c 11, .int), (c 12, .int), (c 13, .int), (c 14, .int), (c 15, .int), (c 16, .int), (c 17, .int), (c 18, .int), (c 19, .int), (c 20, .int)]
set_option maxHeartbeats 4000000 in
set_option maxRecDepth 100000 in
theorem kc_X1 (l : Launch) (D : va_G) (N0 t1 h0 sz : Nat) (hN : N0 ≤ h0 ∧ N0 ≤ sz) : CM l D N0 t1 h0 sz yX1_init wsX1_init { frames := 1, cells := 21, slots := 692, locals := 12 } 1 [.null, .null, .null, .int 0] (wo_X1 h0) ty_X1 21 692 := by
  refine c_met (own := RX1) (cc := cX1_init) (maxL := 1) hN (by decide) rfl rfl rfl (by decide) ?_
  intro p e s m args below meth c ls E h hl
  have hx := E.1
  have hb := E.2.1
  have hts := E.2.2.2.2.1
  have hwX1 : ∀ w ∈ wsX10, w ∈ wsX1_init := by decide +kernel
  refine lv_aload_n hx hb dX1_init_0 rfl (lv_at hl 0 rfl) ?_
  refine c_obj E (by decide +kernel) (by decide +kernel) (by decide +kernel) hl.1 ⟨Nat.le_of_ble_eq_true rfl, Nat.le_of_ble_eq_true rfl⟩ dX1_init_1 ?_
  refine lv_aload_n hx hb dX1_init_4 rfl (lv_at hl 0 rfl) ?_
  refine lv_bipush (v := 9) hx hb dX1_init_5 (by decide) ?_
  refine lv_bipush (v := 9) hx hb dX1_init_7 (by decide) ?_
  refine c_grid E h 90 10 (N := 9) (K := 9) (by decide +kernel) (by decide +kernel) (by decide) (by decide) (by decide) (by decide) (Nat.le_of_ble_eq_true rfl) (Nat.le_of_ble_eq_true rfl) rfl rfl (Nat.le_of_ble_eq_true rfl) (Nat.le_of_ble_eq_true rfl) dX1_init_9 (fun q1 r1 o1 i1 H h => ?_)
  refine c_putF E h (fs' := [.ref q1, .null, .null, .int 0]) (ty := (.array (.array .int))) (q := q1) rfl hwX1 tyX1_ok nmX1 (j := 0) (by decide) (by decide +kernel) (by decide +kernel) rfl rfl (by decide +kernel) rfl rfl (Nat.le_of_ble_eq_true rfl) rfl dX1_init_13 (fun H locs h => ?_)
  refine lv_aload_n hx hb dX1_init_16 rfl (lv_at hl 0 rfl) ?_
  refine lv_bipush (v := 9) hx hb dX1_init_17 (by decide) ?_
  refine lv_bipush (v := 9) hx hb dX1_init_19 (by decide) ?_
  refine c_grid E h 180 20 (N := 9) (K := 9) (by decide +kernel) (by decide +kernel) (by decide) (by decide) (by decide) (by decide) (Nat.le_of_ble_eq_true rfl) (Nat.le_of_ble_eq_true rfl) rfl rfl (Nat.le_of_ble_eq_true rfl) (Nat.le_of_ble_eq_true rfl) dX1_init_21 (fun q2 r2 o2 i2 H h => ?_)
  refine c_putF E h (fs' := [.ref q1, .ref q2, .null, .int 0]) (ty := (.array (.array .int))) (q := q2) rfl hwX1 tyX1_ok nmX1 (j := 1) (by decide) (by decide +kernel) (by decide +kernel) rfl rfl (by decide +kernel) rfl rfl (Nat.le_of_ble_eq_true rfl) rfl dX1_init_25 (fun H locs h => ?_)
  refine lv_aload_n hx hb dX1_init_28 rfl (lv_at hl 0 rfl) ?_
  refine lv_sipush (v := 512) hx hb dX1_init_29 (by decide) ?_
  refine c_newI E h 692 21 (N := 512) (by decide +kernel) (by decide) (by decide) (Nat.le_of_ble_eq_true rfl) rfl rfl (Nat.le_of_ble_eq_true rfl) (Nat.le_of_ble_eq_true rfl) dX1_init_32 (fun q3 a3 H h => ?_)
  refine c_putF E h (fs' := [.ref q1, .ref q2, .ref q3, .int 0]) (ty := (.array .int)) (q := q3) rfl hwX1 tyX1_ok nmX1 (j := 2) (by decide) (by decide +kernel) (by decide +kernel) rfl rfl (by decide +kernel) rfl rfl (Nat.le_of_ble_eq_true rfl) rfl dX1_init_34 (fun H locs h => ?_)
  exact c_vret (wo := wo_X1 h0) (ty := ty_X1) (fun k => [q1, r1 0, r1 1, r1 2, r1 3, r1 4, r1 5, r1 6, r1 7, r1 8, q2, r2 0, r2 1, r2 2, r2 3, r2 4, r2 5, r2 6, r2 7, r2 8, q3].getD k 0) (fun k => [o1, i1, i1, i1, i1, i1, i1, i1, i1, i1, o2, i2, i2, i2, i2, i2, i2, i2, i2, i2, a3].getD k (o1)) E h (by decide +kernel) dX1_init_37
