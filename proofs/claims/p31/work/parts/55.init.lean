def wo_X0 (h : Nat) (r : Nat → Nat) (c : Nat → ClassId) : va_W := [(h, .inr (0, [.ref (r 0), .ref (r 4), .ref (r 5), .int 0, .int 0, .int 0, .int 0, .int 0, .long 0, .long 0])), ((r 0), .inr (4, [.ref (r 1), .ref (r 2), .ref (r 3), .int 0, .int 0])), ((r 1), .inl ((c 0), 9, .inl (fun _ => 0))), ((r 2), .inl ((c 1), 9, .inl (fun _ => 0))), ((r 3), .inl ((c 2), 36, .inl (fun _ => 0))), ((r 4), .inl ((c 3), 9, .inl (fun _ => 0))), ((r 5), .inl ((c 4), 9, .inl (fun _ => 0)))]
def ty_X0 (c : Nat → ClassId) : List (ClassId × FieldType) := [(c 0, .int), (c 1, .int), (c 2, .int), (c 3, .int), (c 4, .int)]
set_option maxHeartbeats 4000000 in
set_option maxRecDepth 100000 in
theorem kc_X0 (l : Launch) (D : va_G) (N0 t1 h0 sz : Nat) (hN : N0 ≤ h0 ∧ N0 ≤ sz) : CM l D N0 t1 h0 sz yX0_init wsX0_init { frames := 2, cells := 6, slots := 77, locals := 32 } 0 [.null, .null, .null, .int 0, .int 0, .int 0, .int 0, .int 0, .long 0, .long 0] (wo_X0 h0) ty_X0 6 77 := by
  refine c_met (own := RX0) (cc := cX0_init) (maxL := 1) hN (by decide) rfl rfl rfl (by decide) ?_
  intro p e s m args below meth c ls E h hl
  have hx := E.1
  have hb := E.2.1
  have hts := E.2.2.2.2.1
  have hwX0 : ∀ w ∈ wsX00, w ∈ wsX0_init := by decide +kernel
  have hwX4 : ∀ w ∈ wsX40, w ∈ wsX0_init := by decide +kernel
  refine lv_aload_n hx hb dX0_init_0 rfl (lv_at hl 0 rfl) ?_
  refine c_obj E (by decide +kernel) (by decide +kernel) (by decide +kernel) hl.1 ⟨Nat.le_of_ble_eq_true rfl, Nat.le_of_ble_eq_true rfl⟩ dX0_init_1 ?_
  refine lv_aload_n hx hb dX0_init_4 rfl (lv_at hl 0 rfl) ?_
  refine c_new E h 5 1 (cj := 4) (gs := [.null, .null, .null, .int 0, .int 0]) hwX4 tyX4_ok (by decide +kernel) (by decide +kernel) (by decide +kernel) rfl (fun j hj => by rcases (show j = 0 ∨ j = 1 ∨ j = 2 ∨ j = 3 ∨ j = 4 by omega) with rfl | rfl | rfl | rfl | rfl <;> rfl) rfl rfl (Nat.le_of_ble_eq_true rfl) (Nat.le_of_ble_eq_true rfl) dX0_init_5 (fun q1 H h => ?_)
  refine lv_dup hx hb dX0_init_8 rfl ?_
  refine c_call E 59 4 h (fun a1 a2 => kc_X4 l D N0 t1 q1 H.size ⟨a1, a2⟩) gX0_init_X4_init_n11 rfl ⟨rfl, rfl⟩ (by decide +kernel) (Or.inr ⟨"VoiceHeaps", by decide +kernel⟩) (by decide +kernel) rfl (by decide +kernel) ⟨Nat.le_of_ble_eq_true rfl, Nat.le_of_ble_eq_true rfl⟩ hl.1 (Nat.le_of_ble_eq_true rfl) rfl rfl (Nat.le_of_ble_eq_true rfl) (Nat.le_of_ble_eq_true rfl) dX0_init_9 (fun r2 c2 H locs h => ?_)
  refine c_putF E h (fs' := [.ref q1, .null, .null, .int 0, .int 0, .int 0, .int 0, .int 0, .long 0, .long 0]) (ty := (.object "VoiceHeaps$Heaping")) (q := q1) rfl hwX0 tyX0_ok nmX0 (j := 0) (by decide) (by decide +kernel) (by decide +kernel) rfl rfl (by decide +kernel) rfl rfl (Nat.le_of_ble_eq_true rfl) rfl dX0_init_12 (fun H locs h => ?_)
  refine lv_aload_n hx hb dX0_init_15 rfl (lv_at hl 0 rfl) ?_
  refine lv_bipush (v := 9) hx hb dX0_init_16 (by decide) ?_
  refine c_newI E h 68 5 (N := 9) (by decide +kernel) (by decide) (by decide) (Nat.le_of_ble_eq_true rfl) rfl rfl (Nat.le_of_ble_eq_true rfl) (Nat.le_of_ble_eq_true rfl) dX0_init_18 (fun q3 a3 H h => ?_)
  refine c_putF E h (fs' := [.ref q1, .ref q3, .null, .int 0, .int 0, .int 0, .int 0, .int 0, .long 0, .long 0]) (ty := (.array .int)) (q := q3) rfl hwX0 tyX0_ok nmX0 (j := 1) (by decide) (by decide +kernel) (by decide +kernel) rfl rfl (by decide +kernel) rfl rfl (Nat.le_of_ble_eq_true rfl) rfl dX0_init_20 (fun H locs h => ?_)
  refine lv_aload_n hx hb dX0_init_23 rfl (lv_at hl 0 rfl) ?_
  refine lv_bipush (v := 9) hx hb dX0_init_24 (by decide) ?_
  refine c_newI E h 77 6 (N := 9) (by decide +kernel) (by decide) (by decide) (Nat.le_of_ble_eq_true rfl) rfl rfl (Nat.le_of_ble_eq_true rfl) (Nat.le_of_ble_eq_true rfl) dX0_init_26 (fun q4 a4 H h => ?_)
  refine c_putF E h (fs' := [.ref q1, .ref q3, .ref q4, .int 0, .int 0, .int 0, .int 0, .int 0, .long 0, .long 0]) (ty := (.array .int)) (q := q4) rfl hwX0 tyX0_ok nmX0 (j := 2) (by decide) (by decide +kernel) (by decide +kernel) rfl rfl (by decide +kernel) rfl rfl (Nat.le_of_ble_eq_true rfl) rfl dX0_init_28 (fun H locs h => ?_)
  exact c_vret (wo := wo_X0 h0) (ty := ty_X0) (fun k => [q1, r2 0, r2 1, r2 2, q3, q4].getD k 0) (fun k => [c2 0, c2 1, c2 2, a3, a4].getD k (c2 0)) E h (by decide +kernel) dX0_init_31
