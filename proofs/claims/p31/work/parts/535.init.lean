def wo_X10 (h : Nat) (r : Nat → Nat) (c : Nat → ClassId) : va_W := [(h, .inr (10, [.ref (r 0), .ref (r 1), .int 0])), ((r 0), .inl ((c 0), 12, .inl (fun _ => 0))), ((r 1), .inl ((c 1), 12, .inl (fun _ => 0)))]
def ty_X10 (c : Nat → ClassId) : List (ClassId × FieldType) := [(c 0, .int), (c 1, .int)]
set_option maxHeartbeats 4000000 in
set_option maxRecDepth 100000 in
theorem kc_X10 (l : Launch) (D : va_G) (N0 t1 h0 sz : Nat) (hN : N0 ≤ h0 ∧ N0 ≤ sz) : CM l D N0 t1 h0 sz yX10_init wsX10_init { frames := 1, cells := 2, slots := 24, locals := 12 } 10 [.null, .null, .int 0] (wo_X10 h0) ty_X10 2 24 := by
  refine c_met (own := RX10) (cc := cX10_init) (maxL := 1) hN (by decide) rfl rfl rfl (by decide) ?_
  intro p e s m args below meth c ls E h hl
  have hx := E.1
  have hb := E.2.1
  have hts := E.2.2.2.2.1
  have hwX10 : ∀ w ∈ wsX100, w ∈ wsX10_init := by decide +kernel
  refine lv_aload_n hx hb dX10_init_0 rfl (lv_at hl 0 rfl) ?_
  refine c_obj E (by decide +kernel) (by decide +kernel) (by decide +kernel) hl.1 ⟨Nat.le_of_ble_eq_true rfl, Nat.le_of_ble_eq_true rfl⟩ dX10_init_1 ?_
  refine lv_aload_n hx hb dX10_init_4 rfl (lv_at hl 0 rfl) ?_
  refine lv_bipush (v := 12) hx hb dX10_init_5 (by decide) ?_
  refine c_newI E h 12 1 (N := 12) (by decide +kernel) (by decide) (by decide) (Nat.le_of_ble_eq_true rfl) rfl rfl (Nat.le_of_ble_eq_true rfl) (Nat.le_of_ble_eq_true rfl) dX10_init_7 (fun q1 a1 H h => ?_)
  refine c_putF E h (fs' := [.ref q1, .null, .int 0]) (ty := (.array .int)) (q := q1) rfl hwX10 tyX10_ok nmX10 (j := 0) (by decide) (by decide +kernel) (by decide +kernel) rfl rfl (by decide +kernel) rfl rfl (Nat.le_of_ble_eq_true rfl) rfl dX10_init_9 (fun H locs h => ?_)
  refine lv_aload_n hx hb dX10_init_12 rfl (lv_at hl 0 rfl) ?_
  refine lv_bipush (v := 12) hx hb dX10_init_13 (by decide) ?_
  refine c_newI E h 24 2 (N := 12) (by decide +kernel) (by decide) (by decide) (Nat.le_of_ble_eq_true rfl) rfl rfl (Nat.le_of_ble_eq_true rfl) (Nat.le_of_ble_eq_true rfl) dX10_init_15 (fun q2 a2 H h => ?_)
  refine c_putF E h (fs' := [.ref q1, .ref q2, .int 0]) (ty := (.array .int)) (q := q2) rfl hwX10 tyX10_ok nmX10 (j := 1) (by decide) (by decide +kernel) (by decide +kernel) rfl rfl (by decide +kernel) rfl rfl (Nat.le_of_ble_eq_true rfl) rfl dX10_init_17 (fun H locs h => ?_)
  exact c_vret (wo := wo_X10 h0) (ty := ty_X10) (fun k => [q1, q2].getD k 0) (fun k => [a1, a2].getD k (a1)) E h (by decide +kernel) dX10_init_20
def wo_X6 (h : Nat) (r : Nat → Nat) (c : Nat → ClassId) : va_W := [(h, .inr (6, [.long 0]))]
def ty_X6 (c : Nat → ClassId) : List (ClassId × FieldType) := []
set_option maxHeartbeats 4000000 in
set_option maxRecDepth 100000 in
theorem kc_X6 (l : Launch) (D : va_G) (N0 t1 h0 sz : Nat) (hN : N0 ≤ h0 ∧ N0 ≤ sz) : CM l D N0 t1 h0 sz yX6_init wsX6_init { frames := 1, cells := 0, slots := 0, locals := 12 } 6 [.long 0] (wo_X6 h0) ty_X6 0 0 := by
  refine c_met (own := RX6) (cc := cX6_init) (maxL := 1) hN (by decide) rfl rfl rfl (by decide) ?_
  intro p e s m args below meth c ls E h hl
  have hx := E.1
  have hb := E.2.1
  have hts := E.2.2.2.2.1
  refine lv_aload_n hx hb dX6_init_0 rfl (lv_at hl 0 rfl) ?_
  refine c_obj E (by decide +kernel) (by decide +kernel) (by decide +kernel) hl.1 ⟨Nat.le_of_ble_eq_true rfl, Nat.le_of_ble_eq_true rfl⟩ dX6_init_1 ?_
  exact c_vret (wo := wo_X6 h0) (ty := ty_X6) (fun k => [].getD k 0) (fun k => [].getD k 0) E h (by decide +kernel) dX6_init_4
