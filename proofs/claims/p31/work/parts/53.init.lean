def wo_X3 (h : Nat) (r : Nat → Nat) (c : Nat → ClassId) : va_W := [(h, .inr (3, [.ref (r 0), .int 0, .int 0])), ((r 0), .inl ((c 0), 4, .inr (.inr (.inr (.inr (fun i => ([(r 1), (r 2), (r 3), (r 4)] : List Nat)[i]?)))))), ((r 1), .inl ((c 1), 48, .inl (fun _ => 0))), ((r 2), .inl ((c 2), 48, .inl (fun _ => 0))), ((r 3), .inl ((c 3), 48, .inl (fun _ => 0))), ((r 4), .inl ((c 4), 48, .inl (fun _ => 0)))]
def ty_X3 (c : Nat → ClassId) : List (ClassId × FieldType) := [(c 0, (.array .int)), (c 1, .int), (c 2, .int), (c 3, .int), (c 4, .int)]
set_option maxHeartbeats 4000000 in
set_option maxRecDepth 100000 in
theorem kc_X3 (l : Launch) (D : va_G) (N0 t1 h0 sz : Nat) (hN : N0 ≤ h0 ∧ N0 ≤ sz) : CM l D N0 t1 h0 sz yX3_init wsX3_init { frames := 1, cells := 5, slots := 196, locals := 12 } 3 [.null, .int 0, .int 0] (wo_X3 h0) ty_X3 5 196 := by
  refine c_met (own := RX3) (cc := cX3_init) (maxL := 1) hN (by decide) rfl rfl rfl (by decide) ?_
  intro p e s m args below meth c ls E h hl
  have hx := E.1
  have hb := E.2.1
  have hts := E.2.2.2.2.1
  have hwX3 : ∀ w ∈ wsX30, w ∈ wsX3_init := by decide +kernel
  refine lv_aload_n hx hb dX3_init_0 rfl (lv_at hl 0 rfl) ?_
  refine c_obj E (by decide +kernel) (by decide +kernel) (by decide +kernel) hl.1 ⟨Nat.le_of_ble_eq_true rfl, Nat.le_of_ble_eq_true rfl⟩ dX3_init_1 ?_
  refine lv_aload_n hx hb dX3_init_4 rfl (lv_at hl 0 rfl) ?_
  refine lv_iconst (v := 4) hx hb dX3_init_5 (by decide) ?_
  refine lv_bipush (v := 48) hx hb dX3_init_6 (by decide) ?_
  refine c_grid E h 196 5 (N := 4) (K := 48) (by decide +kernel) (by decide +kernel) (by decide) (by decide) (by decide) (by decide) (Nat.le_of_ble_eq_true rfl) (Nat.le_of_ble_eq_true rfl) rfl rfl (Nat.le_of_ble_eq_true rfl) (Nat.le_of_ble_eq_true rfl) dX3_init_8 (fun q1 r1 o1 i1 H h => ?_)
  refine c_putF E h (fs' := [.ref q1, .int 0, .int 0]) (ty := (.array (.array .int))) (q := q1) rfl hwX3 tyX3_ok nmX3 (j := 0) (by decide) (by decide +kernel) (by decide +kernel) rfl rfl (by decide +kernel) rfl rfl (Nat.le_of_ble_eq_true rfl) rfl dX3_init_12 (fun H locs h => ?_)
  exact c_vret (wo := wo_X3 h0) (ty := ty_X3) (fun k => [q1, r1 0, r1 1, r1 2, r1 3].getD k 0) (fun k => [o1, i1, i1, i1, i1].getD k (o1)) E h (by decide +kernel) dX3_init_15
def wo_X2 (h : Nat) (r : Nat → Nat) (c : Nat → ClassId) : va_W := [(h, .inr (2, [.ref (r 0), .ref (r 1), .ref (r 2), .ref (r 3), .ref (r 4), .ref (r 5), .ref (r 6), .ref (r 7), .int 0, .int 0, .int 0, .int 0])), ((r 0), .inl ((c 0), 48, .inl (fun _ => 0))), ((r 1), .inl ((c 1), 48, .inl (fun _ => 0))), ((r 2), .inl ((c 2), 48, .inl (fun _ => 0))), ((r 3), .inl ((c 3), 192, .inl (fun _ => 0))), ((r 4), .inl ((c 4), 48, .inl (fun _ => 0))), ((r 5), .inl ((c 5), 48, .inl (fun _ => 0))), ((r 6), .inl ((c 6), 49, .inl (fun _ => 0))), ((r 7), .inl ((c 7), 48, .inl (fun _ => 0)))]
def ty_X2 (c : Nat → ClassId) : List (ClassId × FieldType) := [(c 0, .int), (c 1, .int), (c 2, .int), (c 3, .int), (c 4, .int), (c 5, .int), (c 6, .int), (c 7, .int)]
set_option maxHeartbeats 4000000 in
set_option maxRecDepth 100000 in
theorem kc_X2 (l : Launch) (D : va_G) (N0 t1 h0 sz : Nat) (hN : N0 ≤ h0 ∧ N0 ≤ sz) : CM l D N0 t1 h0 sz yX2_init wsX2_init { frames := 1, cells := 8, slots := 529, locals := 12 } 2 [.null, .null, .null, .null, .null, .null, .null, .null, .int 0, .int 0, .int 0, .int 0] (wo_X2 h0) ty_X2 8 529 := by
  refine c_met (own := RX2) (cc := cX2_init) (maxL := 1) hN (by decide) rfl rfl rfl (by decide) ?_
  intro p e s m args below meth c ls E h hl
  have hx := E.1
  have hb := E.2.1
  have hts := E.2.2.2.2.1
  have hwX2 : ∀ w ∈ wsX20, w ∈ wsX2_init := by decide +kernel
  refine lv_aload_n hx hb dX2_init_0 rfl (lv_at hl 0 rfl) ?_
  refine c_obj E (by decide +kernel) (by decide +kernel) (by decide +kernel) hl.1 ⟨Nat.le_of_ble_eq_true rfl, Nat.le_of_ble_eq_true rfl⟩ dX2_init_1 ?_
  refine lv_aload_n hx hb dX2_init_4 rfl (lv_at hl 0 rfl) ?_
  refine lv_bipush (v := 48) hx hb dX2_init_5 (by decide) ?_
  refine c_newI E h 48 1 (N := 48) (by decide +kernel) (by decide) (by decide) (Nat.le_of_ble_eq_true rfl) rfl rfl (Nat.le_of_ble_eq_true rfl) (Nat.le_of_ble_eq_true rfl) dX2_init_7 (fun q1 a1 H h => ?_)
  refine c_putF E h (fs' := [.ref q1, .null, .null, .null, .null, .null, .null, .null, .int 0, .int 0, .int 0, .int 0]) (ty := (.array .int)) (q := q1) rfl hwX2 tyX2_ok nmX2 (j := 0) (by decide) (by decide +kernel) (by decide +kernel) rfl rfl (by decide +kernel) rfl rfl (Nat.le_of_ble_eq_true rfl) rfl dX2_init_9 (fun H locs h => ?_)
  refine lv_aload_n hx hb dX2_init_12 rfl (lv_at hl 0 rfl) ?_
  refine lv_bipush (v := 48) hx hb dX2_init_13 (by decide) ?_
  refine c_newI E h 96 2 (N := 48) (by decide +kernel) (by decide) (by decide) (Nat.le_of_ble_eq_true rfl) rfl rfl (Nat.le_of_ble_eq_true rfl) (Nat.le_of_ble_eq_true rfl) dX2_init_15 (fun q2 a2 H h => ?_)
  refine c_putF E h (fs' := [.ref q1, .ref q2, .null, .null, .null, .null, .null, .null, .int 0, .int 0, .int 0, .int 0]) (ty := (.array .int)) (q := q2) rfl hwX2 tyX2_ok nmX2 (j := 1) (by decide) (by decide +kernel) (by decide +kernel) rfl rfl (by decide +kernel) rfl rfl (Nat.le_of_ble_eq_true rfl) rfl dX2_init_17 (fun H locs h => ?_)
  refine lv_aload_n hx hb dX2_init_20 rfl (lv_at hl 0 rfl) ?_
  refine lv_bipush (v := 48) hx hb dX2_init_21 (by decide) ?_
  refine c_newI E h 144 3 (N := 48) (by decide +kernel) (by decide) (by decide) (Nat.le_of_ble_eq_true rfl) rfl rfl (Nat.le_of_ble_eq_true rfl) (Nat.le_of_ble_eq_true rfl) dX2_init_23 (fun q3 a3 H h => ?_)
  refine c_putF E h (fs' := [.ref q1, .ref q2, .ref q3, .null, .null, .null, .null, .null, .int 0, .int 0, .int 0, .int 0]) (ty := (.array .int)) (q := q3) rfl hwX2 tyX2_ok nmX2 (j := 2) (by decide) (by decide +kernel) (by decide +kernel) rfl rfl (by decide +kernel) rfl rfl (Nat.le_of_ble_eq_true rfl) rfl dX2_init_25 (fun H locs h => ?_)
  refine lv_aload_n hx hb dX2_init_28 rfl (lv_at hl 0 rfl) ?_
  refine lv_sipush (v := 192) hx hb dX2_init_29 (by decide) ?_
  refine c_newI E h 336 4 (N := 192) (by decide +kernel) (by decide) (by decide) (Nat.le_of_ble_eq_true rfl) rfl rfl (Nat.le_of_ble_eq_true rfl) (Nat.le_of_ble_eq_true rfl) dX2_init_32 (fun q4 a4 H h => ?_)
  refine c_putF E h (fs' := [.ref q1, .ref q2, .ref q3, .ref q4, .null, .null, .null, .null, .int 0, .int 0, .int 0, .int 0]) (ty := (.array .int)) (q := q4) rfl hwX2 tyX2_ok nmX2 (j := 3) (by decide) (by decide +kernel) (by decide +kernel) rfl rfl (by decide +kernel) rfl rfl (Nat.le_of_ble_eq_true rfl) rfl dX2_init_34 (fun H locs h => ?_)
  refine lv_aload_n hx hb dX2_init_37 rfl (lv_at hl 0 rfl) ?_
  refine lv_bipush (v := 48) hx hb dX2_init_38 (by decide) ?_
  refine c_newI E h 384 5 (N := 48) (by decide +kernel) (by decide) (by decide) (Nat.le_of_ble_eq_true rfl) rfl rfl (Nat.le_of_ble_eq_true rfl) (Nat.le_of_ble_eq_true rfl) dX2_init_40 (fun q5 a5 H h => ?_)
  refine c_putF E h (fs' := [.ref q1, .ref q2, .ref q3, .ref q4, .ref q5, .null, .null, .null, .int 0, .int 0, .int 0, .int 0]) (ty := (.array .int)) (q := q5) rfl hwX2 tyX2_ok nmX2 (j := 4) (by decide) (by decide +kernel) (by decide +kernel) rfl rfl (by decide +kernel) rfl rfl (Nat.le_of_ble_eq_true rfl) rfl dX2_init_42 (fun H locs h => ?_)
  refine lv_aload_n hx hb dX2_init_45 rfl (lv_at hl 0 rfl) ?_
  refine lv_bipush (v := 48) hx hb dX2_init_46 (by decide) ?_
  refine c_newI E h 432 6 (N := 48) (by decide +kernel) (by decide) (by decide) (Nat.le_of_ble_eq_true rfl) rfl rfl (Nat.le_of_ble_eq_true rfl) (Nat.le_of_ble_eq_true rfl) dX2_init_48 (fun q6 a6 H h => ?_)
  refine c_putF E h (fs' := [.ref q1, .ref q2, .ref q3, .ref q4, .ref q5, .ref q6, .null, .null, .int 0, .int 0, .int 0, .int 0]) (ty := (.array .int)) (q := q6) rfl hwX2 tyX2_ok nmX2 (j := 5) (by decide) (by decide +kernel) (by decide +kernel) rfl rfl (by decide +kernel) rfl rfl (Nat.le_of_ble_eq_true rfl) rfl dX2_init_50 (fun H locs h => ?_)
  refine lv_aload_n hx hb dX2_init_53 rfl (lv_at hl 0 rfl) ?_
  refine lv_bipush (v := 49) hx hb dX2_init_54 (by decide) ?_
  refine c_newI E h 481 7 (N := 49) (by decide +kernel) (by decide) (by decide) (Nat.le_of_ble_eq_true rfl) rfl rfl (Nat.le_of_ble_eq_true rfl) (Nat.le_of_ble_eq_true rfl) dX2_init_56 (fun q7 a7 H h => ?_)
  refine c_putF E h (fs' := [.ref q1, .ref q2, .ref q3, .ref q4, .ref q5, .ref q6, .ref q7, .null, .int 0, .int 0, .int 0, .int 0]) (ty := (.array .int)) (q := q7) rfl hwX2 tyX2_ok nmX2 (j := 6) (by decide) (by decide +kernel) (by decide +kernel) rfl rfl (by decide +kernel) rfl rfl (Nat.le_of_ble_eq_true rfl) rfl dX2_init_58 (fun H locs h => ?_)
  refine lv_aload_n hx hb dX2_init_61 rfl (lv_at hl 0 rfl) ?_
  refine lv_bipush (v := 48) hx hb dX2_init_62 (by decide) ?_
  refine c_newI E h 529 8 (N := 48) (by decide +kernel) (by decide) (by decide) (Nat.le_of_ble_eq_true rfl) rfl rfl (Nat.le_of_ble_eq_true rfl) (Nat.le_of_ble_eq_true rfl) dX2_init_64 (fun q8 a8 H h => ?_)
  refine c_putF E h (fs' := [.ref q1, .ref q2, .ref q3, .ref q4, .ref q5, .ref q6, .ref q7, .ref q8, .int 0, .int 0, .int 0, .int 0]) (ty := (.array .int)) (q := q8) rfl hwX2 tyX2_ok nmX2 (j := 7) (by decide) (by decide +kernel) (by decide +kernel) rfl rfl (by decide +kernel) rfl rfl (Nat.le_of_ble_eq_true rfl) rfl dX2_init_66 (fun H locs h => ?_)
  exact c_vret (wo := wo_X2 h0) (ty := ty_X2) (fun k => [q1, q2, q3, q4, q5, q6, q7, q8].getD k 0) (fun k => [a1, a2, a3, a4, a5, a6, a7, a8].getD k (a1)) E h (by decide +kernel) dX2_init_69
