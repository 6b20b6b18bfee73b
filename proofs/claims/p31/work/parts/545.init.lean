def wo_X9 (h : Nat) (r : Nat → Nat) (c : Nat → ClassId) : va_W := [(h, .inr (9, [.ref (r 0), .ref (r 10)])), ((r 0), .inl ((c 0), 9, .inr (.inr (.inr (.inr (fun i => ([(r 1), (r 2), (r 3), (r 4), (r 5), (r 6), (r 7), (r 8), (r 9)] : List Nat)[i]?)))))), ((r 1), .inl ((c 1), 5, .inl (fun _ => 0))), ((r 2), .inl ((c 2), 5, .inl (fun _ => 0))), ((r 3), .inl ((c 3), 5, .inl (fun _ => 0))), ((r 4), .inl ((c 4), 5, .inl (fun _ => 0))), ((r 5), .inl ((c 5), 5, .inl (fun _ => 0))), ((r 6), .inl ((c 6), 5, .inl (fun _ => 0))), ((r 7), .inl ((c 7), 5, .inl (fun _ => 0))), ((r 8), .inl ((c 8), 5, .inl (fun _ => 0))), ((r 9), .inl ((c 9), 5, .inl (fun _ => 0))), ((r 10), .inl ((c 10), 32, .inl (fun _ => 0)))]
def ty_X9 (c : Nat → ClassId) : List (ClassId × FieldType) := [(c 0, (.array .int)), (c 1, .int), (c 2, .int), (c 3, .int), (c 4, .int), (c 5, .int), (c 6, .int), (c 7, .int), (c 8, .int), (c 9, .int), (c 10, .int)]
set_option maxHeartbeats 4000000 in
set_option maxRecDepth 100000 in
theorem kc_X9 (l : Launch) (D : va_G) (N0 t1 h0 sz : Nat) (hN : N0 ≤ h0 ∧ N0 ≤ sz) : CM l D N0 t1 h0 sz yX9_init wsX9_init { frames := 1, cells := 11, slots := 86, locals := 12 } 9 [.null, .null] (wo_X9 h0) ty_X9 11 86 := by
  refine c_met (own := RX9) (cc := cX9_init) (maxL := 1) hN (by decide) rfl rfl rfl (by decide) ?_
  intro p e s m args below meth c ls E h hl
  have hx := E.1
  have hb := E.2.1
  have hts := E.2.2.2.2.1
  have hwX9 : ∀ w ∈ wsX90, w ∈ wsX9_init := by decide +kernel
  refine lv_aload_n hx hb dX9_init_0 rfl (lv_at hl 0 rfl) ?_
  refine c_obj E (by decide +kernel) (by decide +kernel) (by decide +kernel) hl.1 ⟨Nat.le_of_ble_eq_true rfl, Nat.le_of_ble_eq_true rfl⟩ dX9_init_1 ?_
  refine lv_aload_n hx hb dX9_init_4 rfl (lv_at hl 0 rfl) ?_
  refine lv_bipush (v := 9) hx hb dX9_init_5 (by decide) ?_
  refine lv_iconst (v := 5) hx hb dX9_init_7 (by decide) ?_
  refine c_grid E h 54 10 (N := 9) (K := 5) (by decide +kernel) (by decide +kernel) (by decide) (by decide) (by decide) (by decide) (Nat.le_of_ble_eq_true rfl) (Nat.le_of_ble_eq_true rfl) rfl rfl (Nat.le_of_ble_eq_true rfl) (Nat.le_of_ble_eq_true rfl) dX9_init_8 (fun q1 r1 o1 i1 H h => ?_)
  refine c_putF E h (fs' := [.ref q1, .null]) (ty := (.array (.array .int))) (q := q1) rfl hwX9 tyX9_ok nmX9 (j := 0) (by decide) (by decide +kernel) (by decide +kernel) rfl rfl (by decide +kernel) rfl rfl (Nat.le_of_ble_eq_true rfl) rfl dX9_init_12 (fun H locs h => ?_)
  refine lv_aload_n hx hb dX9_init_15 rfl (lv_at hl 0 rfl) ?_
  refine lv_bipush (v := 32) hx hb dX9_init_16 (by decide) ?_
  refine c_newI E h 86 11 (N := 32) (by decide +kernel) (by decide) (by decide) (Nat.le_of_ble_eq_true rfl) rfl rfl (Nat.le_of_ble_eq_true rfl) (Nat.le_of_ble_eq_true rfl) dX9_init_18 (fun q2 a2 H h => ?_)
  refine c_putF E h (fs' := [.ref q1, .ref q2]) (ty := (.array .int)) (q := q2) rfl hwX9 tyX9_ok nmX9 (j := 1) (by decide) (by decide +kernel) (by decide +kernel) rfl rfl (by decide +kernel) rfl rfl (Nat.le_of_ble_eq_true rfl) rfl dX9_init_20 (fun H locs h => ?_)
  exact c_vret (wo := wo_X9 h0) (ty := ty_X9) (fun k => [q1, r1 0, r1 1, r1 2, r1 3, r1 4, r1 5, r1 6, r1 7, r1 8, q2].getD k 0) (fun k => [o1, i1, i1, i1, i1, i1, i1, i1, i1, i1, a2].getD k (o1)) E h (by decide +kernel) dX9_init_23
