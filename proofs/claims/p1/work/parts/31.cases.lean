set_option maxHeartbeats 4000000 in
set_option maxRecDepth 100000 in
theorem lawc_0 {p : Program} {e : Env} {s : State} {m : MethodId} {below : List Frame} {meth : Method} {c : Code} (l : Launch) {b : Nat} {xs : Nat → Int32} {g : CX} (E : EV p s m #[Value.ref b] meth c cL_law RL wsL_law 4 ret g) (hX : va_X b 5 xs s s.heap) (hbl : b < s.heap.size) (hbA : ¬ Aw g b) (hAw : ∀ q, Aw g q → s.heap.size ≤ q) {H : Heap} {ls : Array Slot} {locs : List Loc} (h : HW g σ0 s H locs) (hl : lv_has ls 4 [(3, .int 0), (2, .ref (g.2.1 79)), (1, .ref (g.2.1 0)), (0, .ref b)]) : W p l e room_1 s m #[Value.ref b] below meth c H locs 108 7415 (lw_Z below #[Value.ref b] s) (F0 m 172 ls []) := by
  have hx := E.1
  have hb := E.2.1
  have hown := E.2.2.2.1
  have hts := E.2.2.2.2.1
  refine lv_aload_n hx hb dL_law_172 rfl (lv_at hl 2 rfl) ?_
  refine lv_aload_n hx hb dL_law_173 rfl (lv_at hl 3 rfl) ?_
  refine lv_iload_n hx hb dL_law_174 rfl (lv_at hl 0 rfl) ?_
  refine lv_iconst (v := 1) hx hb dL_law_175 (by decide) ?_
  refine lv_iadd hx hb dL_law_176 ?_
  refine x_topI (v2 := 1) (by decide) ?_
  refine x_sld E h hX hbl hbA (i := 1) (j := 1) (by unfold vp_in; decide) (by decide) dL_law_177 ?_
  refine lv_i2l hx hb dL_law_178 rfl ?_
  refine lv_bipush (v := 32) hx hb dL_law_179 (by decide) ?_
  refine lv_lshl hx hb dL_law_181 rfl ?_
  refine lv_topl (fun y1 ey1 => ?_)
  refine lv_aload_n hx hb dL_law_182 rfl (lv_at hl 3 rfl) ?_
  refine lv_iload_n hx hb dL_law_183 rfl (lv_at hl 0 rfl) ?_
  refine lv_iconst (v := 2) hx hb dL_law_184 (by decide) ?_
  refine lv_iadd hx hb dL_law_185 ?_
  refine x_topI (v2 := 2) (by decide) ?_
  refine x_sld E h hX hbl hbA (i := 2) (j := 2) (by unfold vp_in; decide) (by decide) dL_law_186 ?_
  refine lv_i2l hx hb dL_law_187 rfl ?_
  refine lv_ldc2 (v := 4294967295) hx hb hown (hts (.constantLong RL 13 (4294967295)) (by decide +kernel)) dL_law_188 ?_
  refine lv_land hx hb dL_law_191 ?_
  refine lv_lor hx hb dL_law_192 ?_
  refine lv_aload_n hx hb dL_law_193 rfl (lv_at hl 3 rfl) ?_
  refine lv_iload_n hx hb dL_law_194 rfl (lv_at hl 0 rfl) ?_
  refine lv_iconst (v := 3) hx hb dL_law_195 (by decide) ?_
  refine lv_iadd hx hb dL_law_196 ?_
  refine x_topI (v2 := 3) (by decide) ?_
  refine x_sld E h hX hbl hbA (i := 3) (j := 3) (by unfold vp_in; decide) (by decide) dL_law_197 ?_
  refine x_vi E h (na := 2) (As := [.long (y1 ||| (((xs 2).toInt64) &&& 4294967295)), .int (xs 3)]) (kX11_type_0 l g _ (y1 ||| (((xs 2).toInt64) &&& 4294967295)) (xs 3) rfl) (oc_vh g) rfl gL_law_X11_type rfl ⟨rfl, rfl⟩ rfl (by decide +kernel) ⟨Nat.le_of_ble_eq_true rfl, Nat.le_of_ble_eq_true rfl⟩ hl.1 rfl (Nat.le_of_ble_eq_true rfl) dL_law_198 ⟨Nat.le_of_ble_eq_true rfl, Nat.le_of_ble_eq_true rfl⟩ (fun r2 s2 H locs q2 h => ?_)
  rcases q2 with ⟨k2_0, rfl, mo2⟩ | ⟨k2_0, rfl, mo2⟩
  · skip
    refine lv_aload_n hx hb dL_law_201 rfl (lv_at hl 1 rfl) ?_
    refine lv_aload_n hx hb dL_law_202 rfl (lv_at hl 3 rfl) ?_
    refine lv_iload_n hx hb dL_law_203 rfl (lv_at hl 0 rfl) ?_
    refine lv_iconst (v := 1) hx hb dL_law_204 (by decide) ?_
    refine lv_iadd hx hb dL_law_205 ?_
    refine x_topI (v2 := 1) (by decide) ?_
    refine x_sld E h hX hbl hbA (i := 1) (j := 1) (by unfold vp_in; decide) (by decide) dL_law_206 ?_
    refine lv_i2l hx hb dL_law_207 rfl ?_
    refine lv_bipush (v := 32) hx hb dL_law_208 (by decide) ?_
    refine lv_lshl hx hb dL_law_210 rfl ?_
    refine lv_topl (fun y3 ey3 => ?_)
    refine lv_aload_n hx hb dL_law_211 rfl (lv_at hl 3 rfl) ?_
    refine lv_iload_n hx hb dL_law_212 rfl (lv_at hl 0 rfl) ?_
    refine lv_iconst (v := 2) hx hb dL_law_213 (by decide) ?_
    refine lv_iadd hx hb dL_law_214 ?_
    refine x_topI (v2 := 2) (by decide) ?_
    refine x_sld E h hX hbl hbA (i := 2) (j := 2) (by unfold vp_in; decide) (by decide) dL_law_215 ?_
    refine lv_i2l hx hb dL_law_216 rfl ?_
    refine lv_ldc2 (v := 4294967295) hx hb hown (hts (.constantLong RL 13 (4294967295)) (by decide +kernel)) dL_law_217 ?_
    refine lv_land hx hb dL_law_220 ?_
    refine lv_lor hx hb dL_law_221 ?_
    refine lv_aload_n hx hb dL_law_222 rfl (lv_at hl 3 rfl) ?_
    refine lv_iload_n hx hb dL_law_223 rfl (lv_at hl 0 rfl) ?_
    refine lv_iconst (v := 3) hx hb dL_law_224 (by decide) ?_
    refine lv_iadd hx hb dL_law_225 ?_
    refine x_topI (v2 := 3) (by decide) ?_
    refine x_sld E h hX hbl hbA (i := 3) (j := 3) (by unfold vp_in; decide) (by decide) dL_law_226 ?_
    refine x_vi E h (na := 2) (As := [.long (y3 ||| (((xs 2).toInt64) &&& 4294967295)), .int (xs 3)]) (kX12_type_0 l g _ (y3 ||| (((xs 2).toInt64) &&& 4294967295)) (xs 3) (mo2.1)) (oc_mo g) rfl gL_law_X12_type rfl ⟨rfl, rfl⟩ rfl (by decide +kernel) ⟨Nat.le_of_ble_eq_true rfl, Nat.le_of_ble_eq_true rfl⟩ hl.1 rfl (Nat.le_of_ble_eq_true rfl) dL_law_227 ⟨Nat.le_of_ble_eq_true rfl, Nat.le_of_ble_eq_true rfl⟩ (fun r4 s4 H locs q4 h => ?_)
    rcases q4 with ⟨k4_0, rfl⟩ | ⟨k4_0, rfl⟩
    · skip
      refine lv_icmp_eq (tgt := 1066) hx hb dL_law_230 (by decide) (fun _ => ?_) (fun c => absurd rfl c)
      exact law_tail l E h hX hbl hbA hAw (lv_sub hl [0, 1, 2, 3] rfl)
    · exact absurd trivial (fun _ => (bB_01 k2_0 k4_0))
  · skip
    refine lv_aload_n hx hb dL_law_201 rfl (lv_at hl 1 rfl) ?_
    refine lv_aload_n hx hb dL_law_202 rfl (lv_at hl 3 rfl) ?_
    refine lv_iload_n hx hb dL_law_203 rfl (lv_at hl 0 rfl) ?_
    refine lv_iconst (v := 1) hx hb dL_law_204 (by decide) ?_
    refine lv_iadd hx hb dL_law_205 ?_
    refine x_topI (v2 := 1) (by decide) ?_
    refine x_sld E h hX hbl hbA (i := 1) (j := 1) (by unfold vp_in; decide) (by decide) dL_law_206 ?_
    refine lv_i2l hx hb dL_law_207 rfl ?_
    refine lv_bipush (v := 32) hx hb dL_law_208 (by decide) ?_
    refine lv_lshl hx hb dL_law_210 rfl ?_
    refine lv_topl (fun y5 ey5 => ?_)
    refine lv_aload_n hx hb dL_law_211 rfl (lv_at hl 3 rfl) ?_
    refine lv_iload_n hx hb dL_law_212 rfl (lv_at hl 0 rfl) ?_
    refine lv_iconst (v := 2) hx hb dL_law_213 (by decide) ?_
    refine lv_iadd hx hb dL_law_214 ?_
    refine x_topI (v2 := 2) (by decide) ?_
    refine x_sld E h hX hbl hbA (i := 2) (j := 2) (by unfold vp_in; decide) (by decide) dL_law_215 ?_
    refine lv_i2l hx hb dL_law_216 rfl ?_
    refine lv_ldc2 (v := 4294967295) hx hb hown (hts (.constantLong RL 13 (4294967295)) (by decide +kernel)) dL_law_217 ?_
    refine lv_land hx hb dL_law_220 ?_
    refine lv_lor hx hb dL_law_221 ?_
    refine lv_aload_n hx hb dL_law_222 rfl (lv_at hl 3 rfl) ?_
    refine lv_iload_n hx hb dL_law_223 rfl (lv_at hl 0 rfl) ?_
    refine lv_iconst (v := 3) hx hb dL_law_224 (by decide) ?_
    refine lv_iadd hx hb dL_law_225 ?_
    refine x_topI (v2 := 3) (by decide) ?_
    refine x_sld E h hX hbl hbA (i := 3) (j := 3) (by unfold vp_in; decide) (by decide) dL_law_226 ?_
    refine x_vi E h (na := 2) (As := [.long (y5 ||| (((xs 2).toInt64) &&& 4294967295)), .int (xs 3)]) (kX12_type_0 l g _ (y5 ||| (((xs 2).toInt64) &&& 4294967295)) (xs 3) (mo2.1)) (oc_mo g) rfl gL_law_X12_type rfl ⟨rfl, rfl⟩ rfl (by decide +kernel) ⟨Nat.le_of_ble_eq_true rfl, Nat.le_of_ble_eq_true rfl⟩ hl.1 rfl (Nat.le_of_ble_eq_true rfl) dL_law_227 ⟨Nat.le_of_ble_eq_true rfl, Nat.le_of_ble_eq_true rfl⟩ (fun r6 s6 H locs q6 h => ?_)
    rcases q6 with ⟨k6_0, rfl⟩ | ⟨k6_0, rfl⟩
    · exact absurd trivial (fun _ => (bB_01 k6_0 k2_0))
    refine lv_icmp_eq (tgt := 1066) hx hb dL_law_230 (by decide) (fun _ => ?_) (fun c => absurd (by decide) c)
    exact law_tail l E h hX hbl hbA hAw (lv_sub hl [0, 1, 2, 3] rfl)
set_option maxHeartbeats 4000000 in
set_option maxRecDepth 100000 in
theorem lawc_1 {p : Program} {e : Env} {s : State} {m : MethodId} {below : List Frame} {meth : Method} {c : Code} (l : Launch) {b : Nat} {xs : Nat → Int32} {g : CX} (E : EV p s m #[Value.ref b] meth c cL_law RL wsL_law 4 ret g) (hX : va_X b 5 xs s s.heap) (hbl : b < s.heap.size) (hbA : ¬ Aw g b) (hAw : ∀ q, Aw g q → s.heap.size ≤ q) {H : Heap} {ls : Array Slot} {locs : List Loc} (h : HW g σ0 s H locs) (hl : lv_has ls 4 [(3, .int 0), (2, .ref (g.2.1 79)), (1, .ref (g.2.1 0)), (0, .ref b)]) : W p l e room_1 s m #[Value.ref b] below meth c H locs 108 7415 (lw_Z below #[Value.ref b] s) (F0 m 235 ls []) := by
  have hx := E.1
  have hb := E.2.1
  have hown := E.2.2.2.1
  have hts := E.2.2.2.2.1
  refine lv_aload_n hx hb dL_law_235 rfl (lv_at hl 2 rfl) ?_
  refine x_vi E h (na := 0) (As := []) (kX11_clear_0 l g _  rfl) (oc_vh g) rfl gL_law_X11_clear rfl ⟨rfl, rfl⟩ rfl (by decide +kernel) ⟨Nat.le_of_ble_eq_true rfl, Nat.le_of_ble_eq_true rfl⟩ hl.1 rfl (Nat.le_of_ble_eq_true rfl) dL_law_236 ⟨Nat.le_of_ble_eq_true rfl, Nat.le_of_ble_eq_true rfl⟩ (fun r1 s1 H locs q1 h => ?_)
  rcases q1 with ⟨rfl, mo1⟩
  refine lv_aload_n hx hb dL_law_239 rfl (lv_at hl 1 rfl) ?_
  refine x_vi E h (na := 0) (As := []) (kX12_clear_0 l g _  (mo1.1)) (oc_mo g) rfl gL_law_X12_clear rfl ⟨rfl, rfl⟩ rfl (by decide +kernel) ⟨Nat.le_of_ble_eq_true rfl, Nat.le_of_ble_eq_true rfl⟩ hl.1 rfl (Nat.le_of_ble_eq_true rfl) dL_law_240 ⟨Nat.le_of_ble_eq_true rfl, Nat.le_of_ble_eq_true rfl⟩ (fun r2 s2 H locs q2 h => ?_)
  rcases q2 with rfl
  refine lv_icmp_eq (tgt := 1066) hx hb dL_law_243 (by decide) (fun _ => ?_) (fun c => absurd (by decide) c)
  exact law_tail l E h hX hbl hbA hAw (lv_sub hl [0, 1, 2, 3] rfl)
set_option maxHeartbeats 4000000 in
set_option maxRecDepth 100000 in
theorem lawc_2 {p : Program} {e : Env} {s : State} {m : MethodId} {below : List Frame} {meth : Method} {c : Code} (l : Launch) {b : Nat} {xs : Nat → Int32} {g : CX} (E : EV p s m #[Value.ref b] meth c cL_law RL wsL_law 4 ret g) (hX : va_X b 5 xs s s.heap) (hbl : b < s.heap.size) (hbA : ¬ Aw g b) (hAw : ∀ q, Aw g q → s.heap.size ≤ q) {H : Heap} {ls : Array Slot} {locs : List Loc} (h : HW g σ0 s H locs) (hl : lv_has ls 4 [(3, .int 0), (2, .ref (g.2.1 79)), (1, .ref (g.2.1 0)), (0, .ref b)]) : W p l e room_1 s m #[Value.ref b] below meth c H locs 108 7415 (lw_Z below #[Value.ref b] s) (F0 m 248 ls []) := by
  have hx := E.1
  have hb := E.2.1
  have hown := E.2.2.2.1
  have hts := E.2.2.2.2.1
  refine lv_aload_n hx hb dL_law_248 rfl (lv_at hl 2 rfl) ?_
  refine x_vi E h (na := 0) (As := []) (kX11_rules_0 l g _  rfl) (oc_vh g) rfl gL_law_X11_rules rfl ⟨rfl, rfl⟩ rfl (by decide +kernel) ⟨Nat.le_of_ble_eq_true rfl, Nat.le_of_ble_eq_true rfl⟩ hl.1 rfl (Nat.le_of_ble_eq_true rfl) dL_law_249 ⟨Nat.le_of_ble_eq_true rfl, Nat.le_of_ble_eq_true rfl⟩ (fun r1 s1 H locs q1 h => ?_)
  rcases q1 with ⟨rfl, mo1⟩
  refine lv_aload_n hx hb dL_law_252 rfl (lv_at hl 1 rfl) ?_
  refine x_vi E h (na := 0) (As := []) (kX12_rules_0 l g _  (mo1.1)) (oc_mo g) rfl gL_law_X12_rules rfl ⟨rfl, rfl⟩ rfl (by decide +kernel) ⟨Nat.le_of_ble_eq_true rfl, Nat.le_of_ble_eq_true rfl⟩ hl.1 rfl (Nat.le_of_ble_eq_true rfl) dL_law_253 ⟨Nat.le_of_ble_eq_true rfl, Nat.le_of_ble_eq_true rfl⟩ (fun r2 s2 H locs q2 h => ?_)
  rcases q2 with rfl
  refine lv_icmp_eq (tgt := 1066) hx hb dL_law_256 (by decide) (fun _ => ?_) (fun c => absurd (by decide) c)
  exact law_tail l E h hX hbl hbA hAw (lv_sub hl [0, 1, 2, 3] rfl)
set_option maxHeartbeats 4000000 in
set_option maxRecDepth 100000 in
theorem lawc_3 {p : Program} {e : Env} {s : State} {m : MethodId} {below : List Frame} {meth : Method} {c : Code} (l : Launch) {b : Nat} {xs : Nat → Int32} {g : CX} (E : EV p s m #[Value.ref b] meth c cL_law RL wsL_law 4 ret g) (hX : va_X b 5 xs s s.heap) (hbl : b < s.heap.size) (hbA : ¬ Aw g b) (hAw : ∀ q, Aw g q → s.heap.size ≤ q) {H : Heap} {ls : Array Slot} {locs : List Loc} (h : HW g σ0 s H locs) (hl : lv_has ls 4 [(3, .int 0), (2, .ref (g.2.1 79)), (1, .ref (g.2.1 0)), (0, .ref b)]) : W p l e room_1 s m #[Value.ref b] below meth c H locs 108 7415 (lw_Z below #[Value.ref b] s) (F0 m 261 ls []) := by
  have hx := E.1
  have hb := E.2.1
  have hown := E.2.2.2.1
  have hts := E.2.2.2.2.1
  refine lv_aload_n hx hb dL_law_261 rfl (lv_at hl 2 rfl) ?_
  refine lv_aload_n hx hb dL_law_262 rfl (lv_at hl 3 rfl) ?_
  refine lv_iload_n hx hb dL_law_263 rfl (lv_at hl 0 rfl) ?_
  refine lv_iconst (v := 1) hx hb dL_law_264 (by decide) ?_
  refine lv_iadd hx hb dL_law_265 ?_
  refine x_topI (v2 := 1) (by decide) ?_
  refine x_sld E h hX hbl hbA (i := 1) (j := 1) (by unfold vp_in; decide) (by decide) dL_law_266 ?_
  refine x_vi E h (na := 1) (As := [.int (xs 1)]) (kX11_rule_0 l g _ (xs 1) rfl rfl rfl rfl rfl rfl) (oc_vh g) rfl gL_law_X11_rule rfl ⟨rfl, rfl⟩ rfl (by decide +kernel) ⟨Nat.le_of_ble_eq_true rfl, Nat.le_of_ble_eq_true rfl⟩ hl.1 rfl (Nat.le_of_ble_eq_true rfl) dL_law_267 ⟨Nat.le_of_ble_eq_true rfl, Nat.le_of_ble_eq_true rfl⟩ (fun r1 s1 H locs q1 h => ?_)
  rcases q1 with ⟨k1_0, k1_1, rfl, mo1⟩ | ⟨k1_0, k1_1, rfl, mo1⟩ | ⟨k1_0, k1_1, rfl, mo1⟩ | ⟨k1_0, k1_1, rfl, mo1⟩ | ⟨k1_0, k1_1, rfl, mo1⟩ | ⟨k1_0, k1_1, rfl, mo1⟩ | ⟨k1_0, rfl, mo1⟩
  · skip
    refine lv_aload_n hx hb dL_law_270 rfl (lv_at hl 1 rfl) ?_
    refine lv_aload_n hx hb dL_law_271 rfl (lv_at hl 3 rfl) ?_
    refine lv_iload_n hx hb dL_law_272 rfl (lv_at hl 0 rfl) ?_
    refine lv_iconst (v := 1) hx hb dL_law_273 (by decide) ?_
    refine lv_iadd hx hb dL_law_274 ?_
    refine x_topI (v2 := 1) (by decide) ?_
    refine x_sld E h hX hbl hbA (i := 1) (j := 1) (by unfold vp_in; decide) (by decide) dL_law_275 ?_
    refine x_vi E h (na := 1) (As := [.int (xs 1)]) (kX12_rule_0 l g _ (xs 1) (congrFun (mo1.2.2.2.2.2.2.2.2.2.2.2.2.2.2.2.2.1) 0) (congrFun (mo1.2.2.2.2.2.2.2.2.2.2.2.2.2.2.2.2.1) 1) (congrFun (mo1.2.2.2.2.2.2.2.2.2.2.2.2.2.2.2.2.1) 2) (congrFun (mo1.2.2.2.2.2.2.2.2.2.2.2.2.2.2.2.2.1) 3) (congrFun (mo1.2.2.2.2.2.2.2.2.2.2.2.2.2.2.2.2.1) 4) (congrFun (mo1.2.2.2.2.2.2.2.2.2.2.2.2.2.2.2.2.1) 5)) (oc_mo g) rfl gL_law_X12_rule rfl ⟨rfl, rfl⟩ rfl (by decide +kernel) ⟨Nat.le_of_ble_eq_true rfl, Nat.le_of_ble_eq_true rfl⟩ hl.1 rfl (Nat.le_of_ble_eq_true rfl) dL_law_276 ⟨Nat.le_of_ble_eq_true rfl, Nat.le_of_ble_eq_true rfl⟩ (fun r2 s2 H locs q2 h => ?_)
    rcases q2 with ⟨k2_0, k2_1, rfl⟩ | ⟨k2_0, k2_1, rfl⟩ | ⟨k2_0, k2_1, rfl⟩ | ⟨k2_0, k2_1, rfl⟩ | ⟨k2_0, k2_1, rfl⟩ | ⟨k2_0, k2_1, rfl⟩ | ⟨k2_0, rfl⟩
    · skip
      refine lv_icmp_eq (tgt := 1066) hx hb dL_law_279 (by decide) (fun _ => ?_) (fun c => absurd (by decide) c)
      exact law_tail l E h hX hbl hbA hAw (lv_sub hl [0, 1, 2, 3] rfl)
    · exact absurd trivial (fun _ => (absurd (k1_1.symm.trans k2_1) (by decide)))
    · exact absurd trivial (fun _ => (absurd (k1_1.symm.trans k2_1) (by decide)))
    · exact absurd trivial (fun _ => (absurd (k1_1.symm.trans k2_1) (by decide)))
    · exact absurd trivial (fun _ => (absurd (k1_1.symm.trans k2_1) (by decide)))
    · exact absurd trivial (fun _ => (absurd (k1_1.symm.trans k2_1) (by decide)))
    · exact absurd trivial (fun _ => (bB_01 k1_0 k2_0))
  · skip
    refine lv_aload_n hx hb dL_law_270 rfl (lv_at hl 1 rfl) ?_
    refine lv_aload_n hx hb dL_law_271 rfl (lv_at hl 3 rfl) ?_
    refine lv_iload_n hx hb dL_law_272 rfl (lv_at hl 0 rfl) ?_
    refine lv_iconst (v := 1) hx hb dL_law_273 (by decide) ?_
    refine lv_iadd hx hb dL_law_274 ?_
    refine x_topI (v2 := 1) (by decide) ?_
    refine x_sld E h hX hbl hbA (i := 1) (j := 1) (by unfold vp_in; decide) (by decide) dL_law_275 ?_
    refine x_vi E h (na := 1) (As := [.int (xs 1)]) (kX12_rule_0 l g _ (xs 1) (congrFun (mo1.2.2.2.2.2.2.2.2.2.2.2.2.2.2.2.2.1) 0) (congrFun (mo1.2.2.2.2.2.2.2.2.2.2.2.2.2.2.2.2.1) 1) (congrFun (mo1.2.2.2.2.2.2.2.2.2.2.2.2.2.2.2.2.1) 2) (congrFun (mo1.2.2.2.2.2.2.2.2.2.2.2.2.2.2.2.2.1) 3) (congrFun (mo1.2.2.2.2.2.2.2.2.2.2.2.2.2.2.2.2.1) 4) (congrFun (mo1.2.2.2.2.2.2.2.2.2.2.2.2.2.2.2.2.1) 5)) (oc_mo g) rfl gL_law_X12_rule rfl ⟨rfl, rfl⟩ rfl (by decide +kernel) ⟨Nat.le_of_ble_eq_true rfl, Nat.le_of_ble_eq_true rfl⟩ hl.1 rfl (Nat.le_of_ble_eq_true rfl) dL_law_276 ⟨Nat.le_of_ble_eq_true rfl, Nat.le_of_ble_eq_true rfl⟩ (fun r3 s3 H locs q3 h => ?_)
    rcases q3 with ⟨k3_0, k3_1, rfl⟩ | ⟨k3_0, k3_1, rfl⟩ | ⟨k3_0, k3_1, rfl⟩ | ⟨k3_0, k3_1, rfl⟩ | ⟨k3_0, k3_1, rfl⟩ | ⟨k3_0, k3_1, rfl⟩ | ⟨k3_0, rfl⟩
    · exact absurd trivial (fun _ => (absurd (k1_1.symm.trans k3_1) (by decide)))
    · skip
      refine lv_icmp_eq (tgt := 1066) hx hb dL_law_279 (by decide) (fun _ => ?_) (fun c => absurd (by decide) c)
      exact law_tail l E h hX hbl hbA hAw (lv_sub hl [0, 1, 2, 3] rfl)
    · exact absurd trivial (fun _ => (absurd (k1_1.symm.trans k3_1) (by decide)))
    · exact absurd trivial (fun _ => (absurd (k1_1.symm.trans k3_1) (by decide)))
    · exact absurd trivial (fun _ => (absurd (k1_1.symm.trans k3_1) (by decide)))
    · exact absurd trivial (fun _ => (absurd (k1_1.symm.trans k3_1) (by decide)))
    · exact absurd trivial (fun _ => (bB_01 k1_0 k3_0))
  · skip
    refine lv_aload_n hx hb dL_law_270 rfl (lv_at hl 1 rfl) ?_
    refine lv_aload_n hx hb dL_law_271 rfl (lv_at hl 3 rfl) ?_
    refine lv_iload_n hx hb dL_law_272 rfl (lv_at hl 0 rfl) ?_
    refine lv_iconst (v := 1) hx hb dL_law_273 (by decide) ?_
    refine lv_iadd hx hb dL_law_274 ?_
    refine x_topI (v2 := 1) (by decide) ?_
    refine x_sld E h hX hbl hbA (i := 1) (j := 1) (by unfold vp_in; decide) (by decide) dL_law_275 ?_
    refine x_vi E h (na := 1) (As := [.int (xs 1)]) (kX12_rule_0 l g _ (xs 1) (congrFun (mo1.2.2.2.2.2.2.2.2.2.2.2.2.2.2.2.2.1) 0) (congrFun (mo1.2.2.2.2.2.2.2.2.2.2.2.2.2.2.2.2.1) 1) (congrFun (mo1.2.2.2.2.2.2.2.2.2.2.2.2.2.2.2.2.1) 2) (congrFun (mo1.2.2.2.2.2.2.2.2.2.2.2.2.2.2.2.2.1) 3) (congrFun (mo1.2.2.2.2.2.2.2.2.2.2.2.2.2.2.2.2.1) 4) (congrFun (mo1.2.2.2.2.2.2.2.2.2.2.2.2.2.2.2.2.1) 5)) (oc_mo g) rfl gL_law_X12_rule rfl ⟨rfl, rfl⟩ rfl (by decide +kernel) ⟨Nat.le_of_ble_eq_true rfl, Nat.le_of_ble_eq_true rfl⟩ hl.1 rfl (Nat.le_of_ble_eq_true rfl) dL_law_276 ⟨Nat.le_of_ble_eq_true rfl, Nat.le_of_ble_eq_true rfl⟩ (fun r4 s4 H locs q4 h => ?_)
    rcases q4 with ⟨k4_0, k4_1, rfl⟩ | ⟨k4_0, k4_1, rfl⟩ | ⟨k4_0, k4_1, rfl⟩ | ⟨k4_0, k4_1, rfl⟩ | ⟨k4_0, k4_1, rfl⟩ | ⟨k4_0, k4_1, rfl⟩ | ⟨k4_0, rfl⟩
    · exact absurd trivial (fun _ => (absurd (k1_1.symm.trans k4_1) (by decide)))
    · exact absurd trivial (fun _ => (absurd (k1_1.symm.trans k4_1) (by decide)))
    · skip
      refine lv_icmp_eq (tgt := 1066) hx hb dL_law_279 (by decide) (fun _ => ?_) (fun c => absurd (by decide) c)
      exact law_tail l E h hX hbl hbA hAw (lv_sub hl [0, 1, 2, 3] rfl)
    · exact absurd trivial (fun _ => (absurd (k1_1.symm.trans k4_1) (by decide)))
    · exact absurd trivial (fun _ => (absurd (k1_1.symm.trans k4_1) (by decide)))
    · exact absurd trivial (fun _ => (absurd (k1_1.symm.trans k4_1) (by decide)))
    · exact absurd trivial (fun _ => (bB_01 k1_0 k4_0))
  · skip
    refine lv_aload_n hx hb dL_law_270 rfl (lv_at hl 1 rfl) ?_
    refine lv_aload_n hx hb dL_law_271 rfl (lv_at hl 3 rfl) ?_
    refine lv_iload_n hx hb dL_law_272 rfl (lv_at hl 0 rfl) ?_
    refine lv_iconst (v := 1) hx hb dL_law_273 (by decide) ?_
    refine lv_iadd hx hb dL_law_274 ?_
    refine x_topI (v2 := 1) (by decide) ?_
    refine x_sld E h hX hbl hbA (i := 1) (j := 1) (by unfold vp_in; decide) (by decide) dL_law_275 ?_
    refine x_vi E h (na := 1) (As := [.int (xs 1)]) (kX12_rule_0 l g _ (xs 1) (congrFun (mo1.2.2.2.2.2.2.2.2.2.2.2.2.2.2.2.2.1) 0) (congrFun (mo1.2.2.2.2.2.2.2.2.2.2.2.2.2.2.2.2.1) 1) (congrFun (mo1.2.2.2.2.2.2.2.2.2.2.2.2.2.2.2.2.1) 2) (congrFun (mo1.2.2.2.2.2.2.2.2.2.2.2.2.2.2.2.2.1) 3) (congrFun (mo1.2.2.2.2.2.2.2.2.2.2.2.2.2.2.2.2.1) 4) (congrFun (mo1.2.2.2.2.2.2.2.2.2.2.2.2.2.2.2.2.1) 5)) (oc_mo g) rfl gL_law_X12_rule rfl ⟨rfl, rfl⟩ rfl (by decide +kernel) ⟨Nat.le_of_ble_eq_true rfl, Nat.le_of_ble_eq_true rfl⟩ hl.1 rfl (Nat.le_of_ble_eq_true rfl) dL_law_276 ⟨Nat.le_of_ble_eq_true rfl, Nat.le_of_ble_eq_true rfl⟩ (fun r5 s5 H locs q5 h => ?_)
    rcases q5 with ⟨k5_0, k5_1, rfl⟩ | ⟨k5_0, k5_1, rfl⟩ | ⟨k5_0, k5_1, rfl⟩ | ⟨k5_0, k5_1, rfl⟩ | ⟨k5_0, k5_1, rfl⟩ | ⟨k5_0, k5_1, rfl⟩ | ⟨k5_0, rfl⟩
    · exact absurd trivial (fun _ => (absurd (k1_1.symm.trans k5_1) (by decide)))
    · exact absurd trivial (fun _ => (absurd (k1_1.symm.trans k5_1) (by decide)))
    · exact absurd trivial (fun _ => (absurd (k1_1.symm.trans k5_1) (by decide)))
    · skip
      refine lv_icmp_eq (tgt := 1066) hx hb dL_law_279 (by decide) (fun _ => ?_) (fun c => absurd (by decide) c)
      exact law_tail l E h hX hbl hbA hAw (lv_sub hl [0, 1, 2, 3] rfl)
    · exact absurd trivial (fun _ => (absurd (k1_1.symm.trans k5_1) (by decide)))
    · exact absurd trivial (fun _ => (absurd (k1_1.symm.trans k5_1) (by decide)))
    · exact absurd trivial (fun _ => (bB_01 k1_0 k5_0))
  · skip
    refine lv_aload_n hx hb dL_law_270 rfl (lv_at hl 1 rfl) ?_
    refine lv_aload_n hx hb dL_law_271 rfl (lv_at hl 3 rfl) ?_
    refine lv_iload_n hx hb dL_law_272 rfl (lv_at hl 0 rfl) ?_
    refine lv_iconst (v := 1) hx hb dL_law_273 (by decide) ?_
    refine lv_iadd hx hb dL_law_274 ?_
    refine x_topI (v2 := 1) (by decide) ?_
    refine x_sld E h hX hbl hbA (i := 1) (j := 1) (by unfold vp_in; decide) (by decide) dL_law_275 ?_
    refine x_vi E h (na := 1) (As := [.int (xs 1)]) (kX12_rule_0 l g _ (xs 1) (congrFun (mo1.2.2.2.2.2.2.2.2.2.2.2.2.2.2.2.2.1) 0) (congrFun (mo1.2.2.2.2.2.2.2.2.2.2.2.2.2.2.2.2.1) 1) (congrFun (mo1.2.2.2.2.2.2.2.2.2.2.2.2.2.2.2.2.1) 2) (congrFun (mo1.2.2.2.2.2.2.2.2.2.2.2.2.2.2.2.2.1) 3) (congrFun (mo1.2.2.2.2.2.2.2.2.2.2.2.2.2.2.2.2.1) 4) (congrFun (mo1.2.2.2.2.2.2.2.2.2.2.2.2.2.2.2.2.1) 5)) (oc_mo g) rfl gL_law_X12_rule rfl ⟨rfl, rfl⟩ rfl (by decide +kernel) ⟨Nat.le_of_ble_eq_true rfl, Nat.le_of_ble_eq_true rfl⟩ hl.1 rfl (Nat.le_of_ble_eq_true rfl) dL_law_276 ⟨Nat.le_of_ble_eq_true rfl, Nat.le_of_ble_eq_true rfl⟩ (fun r6 s6 H locs q6 h => ?_)
    rcases q6 with ⟨k6_0, k6_1, rfl⟩ | ⟨k6_0, k6_1, rfl⟩ | ⟨k6_0, k6_1, rfl⟩ | ⟨k6_0, k6_1, rfl⟩ | ⟨k6_0, k6_1, rfl⟩ | ⟨k6_0, k6_1, rfl⟩ | ⟨k6_0, rfl⟩
    · exact absurd trivial (fun _ => (absurd (k1_1.symm.trans k6_1) (by decide)))
    · exact absurd trivial (fun _ => (absurd (k1_1.symm.trans k6_1) (by decide)))
    · exact absurd trivial (fun _ => (absurd (k1_1.symm.trans k6_1) (by decide)))
    · exact absurd trivial (fun _ => (absurd (k1_1.symm.trans k6_1) (by decide)))
    · skip
      refine lv_icmp_eq (tgt := 1066) hx hb dL_law_279 (by decide) (fun _ => ?_) (fun c => absurd (by decide) c)
      exact law_tail l E h hX hbl hbA hAw (lv_sub hl [0, 1, 2, 3] rfl)
    · exact absurd trivial (fun _ => (absurd (k1_1.symm.trans k6_1) (by decide)))
    · exact absurd trivial (fun _ => (bB_01 k1_0 k6_0))
  · skip
    refine lv_aload_n hx hb dL_law_270 rfl (lv_at hl 1 rfl) ?_
    refine lv_aload_n hx hb dL_law_271 rfl (lv_at hl 3 rfl) ?_
    refine lv_iload_n hx hb dL_law_272 rfl (lv_at hl 0 rfl) ?_
    refine lv_iconst (v := 1) hx hb dL_law_273 (by decide) ?_
    refine lv_iadd hx hb dL_law_274 ?_
    refine x_topI (v2 := 1) (by decide) ?_
    refine x_sld E h hX hbl hbA (i := 1) (j := 1) (by unfold vp_in; decide) (by decide) dL_law_275 ?_
    refine x_vi E h (na := 1) (As := [.int (xs 1)]) (kX12_rule_0 l g _ (xs 1) (congrFun (mo1.2.2.2.2.2.2.2.2.2.2.2.2.2.2.2.2.1) 0) (congrFun (mo1.2.2.2.2.2.2.2.2.2.2.2.2.2.2.2.2.1) 1) (congrFun (mo1.2.2.2.2.2.2.2.2.2.2.2.2.2.2.2.2.1) 2) (congrFun (mo1.2.2.2.2.2.2.2.2.2.2.2.2.2.2.2.2.1) 3) (congrFun (mo1.2.2.2.2.2.2.2.2.2.2.2.2.2.2.2.2.1) 4) (congrFun (mo1.2.2.2.2.2.2.2.2.2.2.2.2.2.2.2.2.1) 5)) (oc_mo g) rfl gL_law_X12_rule rfl ⟨rfl, rfl⟩ rfl (by decide +kernel) ⟨Nat.le_of_ble_eq_true rfl, Nat.le_of_ble_eq_true rfl⟩ hl.1 rfl (Nat.le_of_ble_eq_true rfl) dL_law_276 ⟨Nat.le_of_ble_eq_true rfl, Nat.le_of_ble_eq_true rfl⟩ (fun r7 s7 H locs q7 h => ?_)
    rcases q7 with ⟨k7_0, k7_1, rfl⟩ | ⟨k7_0, k7_1, rfl⟩ | ⟨k7_0, k7_1, rfl⟩ | ⟨k7_0, k7_1, rfl⟩ | ⟨k7_0, k7_1, rfl⟩ | ⟨k7_0, k7_1, rfl⟩ | ⟨k7_0, rfl⟩
    · exact absurd trivial (fun _ => (absurd (k1_1.symm.trans k7_1) (by decide)))
    · exact absurd trivial (fun _ => (absurd (k1_1.symm.trans k7_1) (by decide)))
    · exact absurd trivial (fun _ => (absurd (k1_1.symm.trans k7_1) (by decide)))
    · exact absurd trivial (fun _ => (absurd (k1_1.symm.trans k7_1) (by decide)))
    · exact absurd trivial (fun _ => (absurd (k1_1.symm.trans k7_1) (by decide)))
    · skip
      refine lv_icmp_eq (tgt := 1066) hx hb dL_law_279 (by decide) (fun _ => ?_) (fun c => absurd (by decide) c)
      exact law_tail l E h hX hbl hbA hAw (lv_sub hl [0, 1, 2, 3] rfl)
    · exact absurd trivial (fun _ => (bB_01 k1_0 k7_0))
  · skip
    refine lv_aload_n hx hb dL_law_270 rfl (lv_at hl 1 rfl) ?_
    refine lv_aload_n hx hb dL_law_271 rfl (lv_at hl 3 rfl) ?_
    refine lv_iload_n hx hb dL_law_272 rfl (lv_at hl 0 rfl) ?_
    refine lv_iconst (v := 1) hx hb dL_law_273 (by decide) ?_
    refine lv_iadd hx hb dL_law_274 ?_
    refine x_topI (v2 := 1) (by decide) ?_
    refine x_sld E h hX hbl hbA (i := 1) (j := 1) (by unfold vp_in; decide) (by decide) dL_law_275 ?_
    refine x_vi E h (na := 1) (As := [.int (xs 1)]) (kX12_rule_0 l g _ (xs 1) (congrFun (mo1.2.2.2.2.2.2.2.2.2.2.2.2.2.2.2.2.1) 0) (congrFun (mo1.2.2.2.2.2.2.2.2.2.2.2.2.2.2.2.2.1) 1) (congrFun (mo1.2.2.2.2.2.2.2.2.2.2.2.2.2.2.2.2.1) 2) (congrFun (mo1.2.2.2.2.2.2.2.2.2.2.2.2.2.2.2.2.1) 3) (congrFun (mo1.2.2.2.2.2.2.2.2.2.2.2.2.2.2.2.2.1) 4) (congrFun (mo1.2.2.2.2.2.2.2.2.2.2.2.2.2.2.2.2.1) 5)) (oc_mo g) rfl gL_law_X12_rule rfl ⟨rfl, rfl⟩ rfl (by decide +kernel) ⟨Nat.le_of_ble_eq_true rfl, Nat.le_of_ble_eq_true rfl⟩ hl.1 rfl (Nat.le_of_ble_eq_true rfl) dL_law_276 ⟨Nat.le_of_ble_eq_true rfl, Nat.le_of_ble_eq_true rfl⟩ (fun r8 s8 H locs q8 h => ?_)
    rcases q8 with ⟨k8_0, k8_1, rfl⟩ | ⟨k8_0, k8_1, rfl⟩ | ⟨k8_0, k8_1, rfl⟩ | ⟨k8_0, k8_1, rfl⟩ | ⟨k8_0, k8_1, rfl⟩ | ⟨k8_0, k8_1, rfl⟩ | ⟨k8_0, rfl⟩
    · exact absurd trivial (fun _ => (bB_eq0 k8_1 k1_0 (by decide)))
    · exact absurd trivial (fun _ => (bB_eq0 k8_1 k1_0 (by decide)))
    · exact absurd trivial (fun _ => (bB_eq0 k8_1 k1_0 (by decide)))
    · exact absurd trivial (fun _ => (bB_eq0 k8_1 k1_0 (by decide)))
    · exact absurd trivial (fun _ => (bB_eq0 k8_1 k1_0 (by decide)))
    · exact absurd trivial (fun _ => (bB_eq0 k8_1 k1_0 (by decide)))
    refine lv_icmp_eq (tgt := 1066) hx hb dL_law_279 (by decide) (fun _ => ?_) (fun c => absurd (by decide) c)
    exact law_tail l E h hX hbl hbA hAw (lv_sub hl [0, 1, 2, 3] rfl)
set_option maxHeartbeats 4000000 in
set_option maxRecDepth 100000 in
theorem lawc_4 {p : Program} {e : Env} {s : State} {m : MethodId} {below : List Frame} {meth : Method} {c : Code} (l : Launch) {b : Nat} {xs : Nat → Int32} {g : CX} (E : EV p s m #[Value.ref b] meth c cL_law RL wsL_law 4 ret g) (hX : va_X b 5 xs s s.heap) (hbl : b < s.heap.size) (hbA : ¬ Aw g b) (hAw : ∀ q, Aw g q → s.heap.size ≤ q) {H : Heap} {ls : Array Slot} {locs : List Loc} (h : HW g σ0 s H locs) (hl : lv_has ls 4 [(3, .int 0), (2, .ref (g.2.1 79)), (1, .ref (g.2.1 0)), (0, .ref b)]) : W p l e room_1 s m #[Value.ref b] below meth c H locs 108 7415 (lw_Z below #[Value.ref b] s) (F0 m 284 ls []) := by
  have hx := E.1
  have hb := E.2.1
  have hown := E.2.2.2.1
  have hts := E.2.2.2.2.1
  refine lv_aload_n hx hb dL_law_284 rfl (lv_at hl 2 rfl) ?_
  refine lv_aload_n hx hb dL_law_285 rfl (lv_at hl 3 rfl) ?_
  refine lv_iload_n hx hb dL_law_286 rfl (lv_at hl 0 rfl) ?_
  refine lv_iconst (v := 1) hx hb dL_law_287 (by decide) ?_
  refine lv_iadd hx hb dL_law_288 ?_
  refine x_topI (v2 := 1) (by decide) ?_
  refine x_sld E h hX hbl hbA (i := 1) (j := 1) (by unfold vp_in; decide) (by decide) dL_law_289 ?_
  refine lv_aload_n hx hb dL_law_290 rfl (lv_at hl 3 rfl) ?_
  refine lv_iload_n hx hb dL_law_291 rfl (lv_at hl 0 rfl) ?_
  refine lv_iconst (v := 2) hx hb dL_law_292 (by decide) ?_
  refine lv_iadd hx hb dL_law_293 ?_
  refine x_topI (v2 := 2) (by decide) ?_
  refine x_sld E h hX hbl hbA (i := 2) (j := 2) (by unfold vp_in; decide) (by decide) dL_law_294 ?_
  refine lv_aload_n hx hb dL_law_295 rfl (lv_at hl 3 rfl) ?_
  refine lv_iload_n hx hb dL_law_296 rfl (lv_at hl 0 rfl) ?_
  refine lv_iconst (v := 3) hx hb dL_law_297 (by decide) ?_
  refine lv_iadd hx hb dL_law_298 ?_
  refine x_topI (v2 := 3) (by decide) ?_
  refine x_sld E h hX hbl hbA (i := 3) (j := 3) (by unfold vp_in; decide) (by decide) dL_law_299 ?_
  refine lv_aload_n hx hb dL_law_300 rfl (lv_at hl 3 rfl) ?_
  refine lv_iload_n hx hb dL_law_301 rfl (lv_at hl 0 rfl) ?_
  refine lv_iconst (v := 4) hx hb dL_law_302 (by decide) ?_
  refine lv_iadd hx hb dL_law_303 ?_
  refine x_topI (v2 := 4) (by decide) ?_
  refine x_sld E h hX hbl hbA (i := 4) (j := 4) (by unfold vp_in; decide) (by decide) dL_law_304 ?_
  refine x_vi E h (na := 4) (As := [.int (xs 1), .int (xs 2), .int (xs 3), .int (xs 4)]) (kX11_row_0 l g _ (xs 1) (xs 2) (xs 3) (xs 4) rfl) (oc_vh g) rfl gL_law_X11_row rfl ⟨rfl, rfl⟩ rfl (by decide +kernel) ⟨Nat.le_of_ble_eq_true rfl, Nat.le_of_ble_eq_true rfl⟩ hl.1 rfl (Nat.le_of_ble_eq_true rfl) dL_law_305 ⟨Nat.le_of_ble_eq_true rfl, Nat.le_of_ble_eq_true rfl⟩ (fun r1 s1 H locs q1 h => ?_)
  rcases q1 with ⟨k1_0, k1_1, k1_2, k1_3, rfl, mo1⟩ | ⟨k1_0, k1_1, k1_2, k1_3, rfl, mo1⟩ | ⟨k1_0, k1_1, k1_2, rfl, mo1⟩ | ⟨k1_0, k1_1, rfl, mo1⟩ | ⟨k1_0, rfl, mo1⟩
  · skip
    refine lv_aload_n hx hb dL_law_308 rfl (lv_at hl 1 rfl) ?_
    refine lv_aload_n hx hb dL_law_309 rfl (lv_at hl 3 rfl) ?_
    refine lv_iload_n hx hb dL_law_310 rfl (lv_at hl 0 rfl) ?_
    refine lv_iconst (v := 1) hx hb dL_law_311 (by decide) ?_
    refine lv_iadd hx hb dL_law_312 ?_
    refine x_topI (v2 := 1) (by decide) ?_
    refine x_sld E h hX hbl hbA (i := 1) (j := 1) (by unfold vp_in; decide) (by decide) dL_law_313 ?_
    refine lv_aload_n hx hb dL_law_314 rfl (lv_at hl 3 rfl) ?_
    refine lv_iload_n hx hb dL_law_315 rfl (lv_at hl 0 rfl) ?_
    refine lv_iconst (v := 2) hx hb dL_law_316 (by decide) ?_
    refine lv_iadd hx hb dL_law_317 ?_
    refine x_topI (v2 := 2) (by decide) ?_
    refine x_sld E h hX hbl hbA (i := 2) (j := 2) (by unfold vp_in; decide) (by decide) dL_law_318 ?_
    refine lv_aload_n hx hb dL_law_319 rfl (lv_at hl 3 rfl) ?_
    refine lv_iload_n hx hb dL_law_320 rfl (lv_at hl 0 rfl) ?_
    refine lv_iconst (v := 3) hx hb dL_law_321 (by decide) ?_
    refine lv_iadd hx hb dL_law_322 ?_
    refine x_topI (v2 := 3) (by decide) ?_
    refine x_sld E h hX hbl hbA (i := 3) (j := 3) (by unfold vp_in; decide) (by decide) dL_law_323 ?_
    refine lv_aload_n hx hb dL_law_324 rfl (lv_at hl 3 rfl) ?_
    refine lv_iload_n hx hb dL_law_325 rfl (lv_at hl 0 rfl) ?_
    refine lv_iconst (v := 4) hx hb dL_law_326 (by decide) ?_
    refine lv_iadd hx hb dL_law_327 ?_
    refine x_topI (v2 := 4) (by decide) ?_
    refine x_sld E h hX hbl hbA (i := 4) (j := 4) (by unfold vp_in; decide) (by decide) dL_law_328 ?_
    refine x_vi E h (na := 4) (As := [.int (xs 1), .int (xs 2), .int (xs 3), .int (xs 4)]) (kX12_row_0 l g _ (xs 1) (xs 2) (xs 3) (xs 4) (mo1.2.2.2.2.2.2.1)) (oc_mo g) rfl gL_law_X12_row rfl ⟨rfl, rfl⟩ rfl (by decide +kernel) ⟨Nat.le_of_ble_eq_true rfl, Nat.le_of_ble_eq_true rfl⟩ hl.1 rfl (Nat.le_of_ble_eq_true rfl) dL_law_329 ⟨Nat.le_of_ble_eq_true rfl, Nat.le_of_ble_eq_true rfl⟩ (fun r2 s2 H locs q2 h => ?_)
    rcases q2 with ⟨k2_0, k2_1, k2_2, k2_3, rfl⟩ | ⟨k2_0, k2_1, k2_2, k2_3, rfl⟩ | ⟨k2_0, k2_1, k2_2, rfl⟩ | ⟨k2_0, k2_1, rfl⟩ | ⟨k2_0, rfl⟩
    · skip
      refine lv_icmp_eq (tgt := 1066) hx hb dL_law_332 (by decide) (fun _ => ?_) (fun c => absurd (by decide) c)
      exact law_tail l E h hX hbl hbA hAw (lv_sub hl [0, 1, 2, 3] rfl)
    · exact absurd trivial (fun _ => (bB_01 k1_3 k2_3))
    · exact absurd trivial (fun _ => (bB_01 k1_2 k2_2))
    · exact absurd trivial (fun _ => (bB_01 k1_1 k2_1))
    · exact absurd trivial (fun _ => (bB_01 k1_0 k2_0))
  · skip
    refine lv_aload_n hx hb dL_law_308 rfl (lv_at hl 1 rfl) ?_
    refine lv_aload_n hx hb dL_law_309 rfl (lv_at hl 3 rfl) ?_
    refine lv_iload_n hx hb dL_law_310 rfl (lv_at hl 0 rfl) ?_
    refine lv_iconst (v := 1) hx hb dL_law_311 (by decide) ?_
    refine lv_iadd hx hb dL_law_312 ?_
    refine x_topI (v2 := 1) (by decide) ?_
    refine x_sld E h hX hbl hbA (i := 1) (j := 1) (by unfold vp_in; decide) (by decide) dL_law_313 ?_
    refine lv_aload_n hx hb dL_law_314 rfl (lv_at hl 3 rfl) ?_
    refine lv_iload_n hx hb dL_law_315 rfl (lv_at hl 0 rfl) ?_
    refine lv_iconst (v := 2) hx hb dL_law_316 (by decide) ?_
    refine lv_iadd hx hb dL_law_317 ?_
    refine x_topI (v2 := 2) (by decide) ?_
    refine x_sld E h hX hbl hbA (i := 2) (j := 2) (by unfold vp_in; decide) (by decide) dL_law_318 ?_
    refine lv_aload_n hx hb dL_law_319 rfl (lv_at hl 3 rfl) ?_
    refine lv_iload_n hx hb dL_law_320 rfl (lv_at hl 0 rfl) ?_
    refine lv_iconst (v := 3) hx hb dL_law_321 (by decide) ?_
    refine lv_iadd hx hb dL_law_322 ?_
    refine x_topI (v2 := 3) (by decide) ?_
    refine x_sld E h hX hbl hbA (i := 3) (j := 3) (by unfold vp_in; decide) (by decide) dL_law_323 ?_
    refine lv_aload_n hx hb dL_law_324 rfl (lv_at hl 3 rfl) ?_
    refine lv_iload_n hx hb dL_law_325 rfl (lv_at hl 0 rfl) ?_
    refine lv_iconst (v := 4) hx hb dL_law_326 (by decide) ?_
    refine lv_iadd hx hb dL_law_327 ?_
    refine x_topI (v2 := 4) (by decide) ?_
    refine x_sld E h hX hbl hbA (i := 4) (j := 4) (by unfold vp_in; decide) (by decide) dL_law_328 ?_
    refine x_vi E h (na := 4) (As := [.int (xs 1), .int (xs 2), .int (xs 3), .int (xs 4)]) (kX12_row_0 l g _ (xs 1) (xs 2) (xs 3) (xs 4) (mo1.2.2.2.2.2.2.1)) (oc_mo g) rfl gL_law_X12_row rfl ⟨rfl, rfl⟩ rfl (by decide +kernel) ⟨Nat.le_of_ble_eq_true rfl, Nat.le_of_ble_eq_true rfl⟩ hl.1 rfl (Nat.le_of_ble_eq_true rfl) dL_law_329 ⟨Nat.le_of_ble_eq_true rfl, Nat.le_of_ble_eq_true rfl⟩ (fun r3 s3 H locs q3 h => ?_)
    rcases q3 with ⟨k3_0, k3_1, k3_2, k3_3, rfl⟩ | ⟨k3_0, k3_1, k3_2, k3_3, rfl⟩ | ⟨k3_0, k3_1, k3_2, rfl⟩ | ⟨k3_0, k3_1, rfl⟩ | ⟨k3_0, rfl⟩
    · exact absurd trivial (fun _ => (bB_01 k3_3 k1_3))
    · skip
      refine lv_icmp_eq (tgt := 1066) hx hb dL_law_332 (by decide) (fun _ => ?_) (fun c => absurd (by decide) c)
      exact law_tail l E h hX hbl hbA hAw (lv_sub hl [0, 1, 2, 3] rfl)
    · exact absurd trivial (fun _ => (bB_01 k1_2 k3_2))
    · exact absurd trivial (fun _ => (bB_01 k1_1 k3_1))
    · exact absurd trivial (fun _ => (bB_01 k1_0 k3_0))
  · skip
    refine lv_aload_n hx hb dL_law_308 rfl (lv_at hl 1 rfl) ?_
    refine lv_aload_n hx hb dL_law_309 rfl (lv_at hl 3 rfl) ?_
    refine lv_iload_n hx hb dL_law_310 rfl (lv_at hl 0 rfl) ?_
    refine lv_iconst (v := 1) hx hb dL_law_311 (by decide) ?_
    refine lv_iadd hx hb dL_law_312 ?_
    refine x_topI (v2 := 1) (by decide) ?_
    refine x_sld E h hX hbl hbA (i := 1) (j := 1) (by unfold vp_in; decide) (by decide) dL_law_313 ?_
    refine lv_aload_n hx hb dL_law_314 rfl (lv_at hl 3 rfl) ?_
    refine lv_iload_n hx hb dL_law_315 rfl (lv_at hl 0 rfl) ?_
    refine lv_iconst (v := 2) hx hb dL_law_316 (by decide) ?_
    refine lv_iadd hx hb dL_law_317 ?_
    refine x_topI (v2 := 2) (by decide) ?_
    refine x_sld E h hX hbl hbA (i := 2) (j := 2) (by unfold vp_in; decide) (by decide) dL_law_318 ?_
    refine lv_aload_n hx hb dL_law_319 rfl (lv_at hl 3 rfl) ?_
    refine lv_iload_n hx hb dL_law_320 rfl (lv_at hl 0 rfl) ?_
    refine lv_iconst (v := 3) hx hb dL_law_321 (by decide) ?_
    refine lv_iadd hx hb dL_law_322 ?_
    refine x_topI (v2 := 3) (by decide) ?_
    refine x_sld E h hX hbl hbA (i := 3) (j := 3) (by unfold vp_in; decide) (by decide) dL_law_323 ?_
    refine lv_aload_n hx hb dL_law_324 rfl (lv_at hl 3 rfl) ?_
    refine lv_iload_n hx hb dL_law_325 rfl (lv_at hl 0 rfl) ?_
    refine lv_iconst (v := 4) hx hb dL_law_326 (by decide) ?_
    refine lv_iadd hx hb dL_law_327 ?_
    refine x_topI (v2 := 4) (by decide) ?_
    refine x_sld E h hX hbl hbA (i := 4) (j := 4) (by unfold vp_in; decide) (by decide) dL_law_328 ?_
    refine x_vi E h (na := 4) (As := [.int (xs 1), .int (xs 2), .int (xs 3), .int (xs 4)]) (kX12_row_0 l g _ (xs 1) (xs 2) (xs 3) (xs 4) (mo1.2.2.2.2.2.2.1)) (oc_mo g) rfl gL_law_X12_row rfl ⟨rfl, rfl⟩ rfl (by decide +kernel) ⟨Nat.le_of_ble_eq_true rfl, Nat.le_of_ble_eq_true rfl⟩ hl.1 rfl (Nat.le_of_ble_eq_true rfl) dL_law_329 ⟨Nat.le_of_ble_eq_true rfl, Nat.le_of_ble_eq_true rfl⟩ (fun r4 s4 H locs q4 h => ?_)
    rcases q4 with ⟨k4_0, k4_1, k4_2, k4_3, rfl⟩ | ⟨k4_0, k4_1, k4_2, k4_3, rfl⟩ | ⟨k4_0, k4_1, k4_2, rfl⟩ | ⟨k4_0, k4_1, rfl⟩ | ⟨k4_0, rfl⟩
    · exact absurd trivial (fun _ => (bB_01 k4_2 k1_2))
    · exact absurd trivial (fun _ => (bB_01 k4_2 k1_2))
    · skip
      refine lv_icmp_eq (tgt := 1066) hx hb dL_law_332 (by decide) (fun _ => ?_) (fun c => absurd (by decide) c)
      exact law_tail l E h hX hbl hbA hAw (lv_sub hl [0, 1, 2, 3] rfl)
    · exact absurd trivial (fun _ => (bB_01 k1_1 k4_1))
    · exact absurd trivial (fun _ => (bB_01 k1_0 k4_0))
  · skip
    refine lv_aload_n hx hb dL_law_308 rfl (lv_at hl 1 rfl) ?_
    refine lv_aload_n hx hb dL_law_309 rfl (lv_at hl 3 rfl) ?_
    refine lv_iload_n hx hb dL_law_310 rfl (lv_at hl 0 rfl) ?_
    refine lv_iconst (v := 1) hx hb dL_law_311 (by decide) ?_
    refine lv_iadd hx hb dL_law_312 ?_
    refine x_topI (v2 := 1) (by decide) ?_
    refine x_sld E h hX hbl hbA (i := 1) (j := 1) (by unfold vp_in; decide) (by decide) dL_law_313 ?_
    refine lv_aload_n hx hb dL_law_314 rfl (lv_at hl 3 rfl) ?_
    refine lv_iload_n hx hb dL_law_315 rfl (lv_at hl 0 rfl) ?_
    refine lv_iconst (v := 2) hx hb dL_law_316 (by decide) ?_
    refine lv_iadd hx hb dL_law_317 ?_
    refine x_topI (v2 := 2) (by decide) ?_
    refine x_sld E h hX hbl hbA (i := 2) (j := 2) (by unfold vp_in; decide) (by decide) dL_law_318 ?_
    refine lv_aload_n hx hb dL_law_319 rfl (lv_at hl 3 rfl) ?_
    refine lv_iload_n hx hb dL_law_320 rfl (lv_at hl 0 rfl) ?_
    refine lv_iconst (v := 3) hx hb dL_law_321 (by decide) ?_
    refine lv_iadd hx hb dL_law_322 ?_
    refine x_topI (v2 := 3) (by decide) ?_
    refine x_sld E h hX hbl hbA (i := 3) (j := 3) (by unfold vp_in; decide) (by decide) dL_law_323 ?_
    refine lv_aload_n hx hb dL_law_324 rfl (lv_at hl 3 rfl) ?_
    refine lv_iload_n hx hb dL_law_325 rfl (lv_at hl 0 rfl) ?_
    refine lv_iconst (v := 4) hx hb dL_law_326 (by decide) ?_
    refine lv_iadd hx hb dL_law_327 ?_
    refine x_topI (v2 := 4) (by decide) ?_
    refine x_sld E h hX hbl hbA (i := 4) (j := 4) (by unfold vp_in; decide) (by decide) dL_law_328 ?_
    refine x_vi E h (na := 4) (As := [.int (xs 1), .int (xs 2), .int (xs 3), .int (xs 4)]) (kX12_row_0 l g _ (xs 1) (xs 2) (xs 3) (xs 4) (mo1.2.2.2.2.2.2.1)) (oc_mo g) rfl gL_law_X12_row rfl ⟨rfl, rfl⟩ rfl (by decide +kernel) ⟨Nat.le_of_ble_eq_true rfl, Nat.le_of_ble_eq_true rfl⟩ hl.1 rfl (Nat.le_of_ble_eq_true rfl) dL_law_329 ⟨Nat.le_of_ble_eq_true rfl, Nat.le_of_ble_eq_true rfl⟩ (fun r5 s5 H locs q5 h => ?_)
    rcases q5 with ⟨k5_0, k5_1, k5_2, k5_3, rfl⟩ | ⟨k5_0, k5_1, k5_2, k5_3, rfl⟩ | ⟨k5_0, k5_1, k5_2, rfl⟩ | ⟨k5_0, k5_1, rfl⟩ | ⟨k5_0, rfl⟩
    · exact absurd trivial (fun _ => (bB_01 k5_1 k1_1))
    · exact absurd trivial (fun _ => (bB_01 k5_1 k1_1))
    · exact absurd trivial (fun _ => (bB_01 k5_1 k1_1))
    · skip
      refine lv_icmp_eq (tgt := 1066) hx hb dL_law_332 (by decide) (fun _ => ?_) (fun c => absurd (by decide) c)
      exact law_tail l E h hX hbl hbA hAw (lv_sub hl [0, 1, 2, 3] rfl)
    · exact absurd trivial (fun _ => (bB_01 k1_0 k5_0))
  · skip
    refine lv_aload_n hx hb dL_law_308 rfl (lv_at hl 1 rfl) ?_
    refine lv_aload_n hx hb dL_law_309 rfl (lv_at hl 3 rfl) ?_
    refine lv_iload_n hx hb dL_law_310 rfl (lv_at hl 0 rfl) ?_
    refine lv_iconst (v := 1) hx hb dL_law_311 (by decide) ?_
    refine lv_iadd hx hb dL_law_312 ?_
    refine x_topI (v2 := 1) (by decide) ?_
    refine x_sld E h hX hbl hbA (i := 1) (j := 1) (by unfold vp_in; decide) (by decide) dL_law_313 ?_
    refine lv_aload_n hx hb dL_law_314 rfl (lv_at hl 3 rfl) ?_
    refine lv_iload_n hx hb dL_law_315 rfl (lv_at hl 0 rfl) ?_
    refine lv_iconst (v := 2) hx hb dL_law_316 (by decide) ?_
    refine lv_iadd hx hb dL_law_317 ?_
    refine x_topI (v2 := 2) (by decide) ?_
    refine x_sld E h hX hbl hbA (i := 2) (j := 2) (by unfold vp_in; decide) (by decide) dL_law_318 ?_
    refine lv_aload_n hx hb dL_law_319 rfl (lv_at hl 3 rfl) ?_
    refine lv_iload_n hx hb dL_law_320 rfl (lv_at hl 0 rfl) ?_
    refine lv_iconst (v := 3) hx hb dL_law_321 (by decide) ?_
    refine lv_iadd hx hb dL_law_322 ?_
    refine x_topI (v2 := 3) (by decide) ?_
    refine x_sld E h hX hbl hbA (i := 3) (j := 3) (by unfold vp_in; decide) (by decide) dL_law_323 ?_
    refine lv_aload_n hx hb dL_law_324 rfl (lv_at hl 3 rfl) ?_
    refine lv_iload_n hx hb dL_law_325 rfl (lv_at hl 0 rfl) ?_
    refine lv_iconst (v := 4) hx hb dL_law_326 (by decide) ?_
    refine lv_iadd hx hb dL_law_327 ?_
    refine x_topI (v2 := 4) (by decide) ?_
    refine x_sld E h hX hbl hbA (i := 4) (j := 4) (by unfold vp_in; decide) (by decide) dL_law_328 ?_
    refine x_vi E h (na := 4) (As := [.int (xs 1), .int (xs 2), .int (xs 3), .int (xs 4)]) (kX12_row_0 l g _ (xs 1) (xs 2) (xs 3) (xs 4) (mo1.2.2.2.2.2.2.1)) (oc_mo g) rfl gL_law_X12_row rfl ⟨rfl, rfl⟩ rfl (by decide +kernel) ⟨Nat.le_of_ble_eq_true rfl, Nat.le_of_ble_eq_true rfl⟩ hl.1 rfl (Nat.le_of_ble_eq_true rfl) dL_law_329 ⟨Nat.le_of_ble_eq_true rfl, Nat.le_of_ble_eq_true rfl⟩ (fun r6 s6 H locs q6 h => ?_)
    rcases q6 with ⟨k6_0, k6_1, k6_2, k6_3, rfl⟩ | ⟨k6_0, k6_1, k6_2, k6_3, rfl⟩ | ⟨k6_0, k6_1, k6_2, rfl⟩ | ⟨k6_0, k6_1, rfl⟩ | ⟨k6_0, rfl⟩
    · exact absurd trivial (fun _ => (bB_01 k6_0 k1_0))
    · exact absurd trivial (fun _ => (bB_01 k6_0 k1_0))
    · exact absurd trivial (fun _ => (bB_01 k6_0 k1_0))
    · exact absurd trivial (fun _ => (bB_01 k6_0 k1_0))
    refine lv_icmp_eq (tgt := 1066) hx hb dL_law_332 (by decide) (fun _ => ?_) (fun c => absurd (by decide) c)
    exact law_tail l E h hX hbl hbA hAw (lv_sub hl [0, 1, 2, 3] rfl)
set_option maxHeartbeats 4000000 in
set_option maxRecDepth 100000 in
theorem lawc_5 {p : Program} {e : Env} {s : State} {m : MethodId} {below : List Frame} {meth : Method} {c : Code} (l : Launch) {b : Nat} {xs : Nat → Int32} {g : CX} (E : EV p s m #[Value.ref b] meth c cL_law RL wsL_law 4 ret g) (hX : va_X b 5 xs s s.heap) (hbl : b < s.heap.size) (hbA : ¬ Aw g b) (hAw : ∀ q, Aw g q → s.heap.size ≤ q) {H : Heap} {ls : Array Slot} {locs : List Loc} (h : HW g σ0 s H locs) (hl : lv_has ls 4 [(3, .int 0), (2, .ref (g.2.1 79)), (1, .ref (g.2.1 0)), (0, .ref b)]) : W p l e room_1 s m #[Value.ref b] below meth c H locs 108 7415 (lw_Z below #[Value.ref b] s) (F0 m 337 ls []) := by
  have hx := E.1
  have hb := E.2.1
  have hown := E.2.2.2.1
  have hts := E.2.2.2.2.1
  refine lv_aload_n hx hb dL_law_337 rfl (lv_at hl 2 rfl) ?_
  refine lv_aload_n hx hb dL_law_338 rfl (lv_at hl 3 rfl) ?_
  refine lv_iload_n hx hb dL_law_339 rfl (lv_at hl 0 rfl) ?_
  refine lv_iconst (v := 1) hx hb dL_law_340 (by decide) ?_
  refine lv_iadd hx hb dL_law_341 ?_
  refine x_topI (v2 := 1) (by decide) ?_
  refine x_sld E h hX hbl hbA (i := 1) (j := 1) (by unfold vp_in; decide) (by decide) dL_law_342 ?_
  refine x_vi E h (na := 1) (As := [.int (xs 1)]) (kX11_deaf_0 l g _ (xs 1) rfl) (oc_vh g) rfl gL_law_X11_deaf rfl ⟨rfl, rfl⟩ rfl (by decide +kernel) ⟨Nat.le_of_ble_eq_true rfl, Nat.le_of_ble_eq_true rfl⟩ hl.1 rfl (Nat.le_of_ble_eq_true rfl) dL_law_343 ⟨Nat.le_of_ble_eq_true rfl, Nat.le_of_ble_eq_true rfl⟩ (fun r1 s1 H locs q1 h => ?_)
  rcases q1 with ⟨k1_0, rfl, mo1⟩ | ⟨k1_0, rfl, mo1⟩
  · skip
    refine lv_aload_n hx hb dL_law_346 rfl (lv_at hl 1 rfl) ?_
    refine lv_aload_n hx hb dL_law_347 rfl (lv_at hl 3 rfl) ?_
    refine lv_iload_n hx hb dL_law_348 rfl (lv_at hl 0 rfl) ?_
    refine lv_iconst (v := 1) hx hb dL_law_349 (by decide) ?_
    refine lv_iadd hx hb dL_law_350 ?_
    refine x_topI (v2 := 1) (by decide) ?_
    refine x_sld E h hX hbl hbA (i := 1) (j := 1) (by unfold vp_in; decide) (by decide) dL_law_351 ?_
    refine x_vi E h (na := 1) (As := [.int (xs 1)]) (kX12_deaf_0 l g _ (xs 1) (mo1.2.2.2.2.2.2.1)) (oc_mo g) rfl gL_law_X12_deaf rfl ⟨rfl, rfl⟩ rfl (by decide +kernel) ⟨Nat.le_of_ble_eq_true rfl, Nat.le_of_ble_eq_true rfl⟩ hl.1 rfl (Nat.le_of_ble_eq_true rfl) dL_law_352 ⟨Nat.le_of_ble_eq_true rfl, Nat.le_of_ble_eq_true rfl⟩ (fun r2 s2 H locs q2 h => ?_)
    rcases q2 with ⟨k2_0, rfl⟩ | ⟨k2_0, rfl⟩
    · skip
      refine lv_icmp_eq (tgt := 1066) hx hb dL_law_355 (by decide) (fun _ => ?_) (fun c => absurd rfl c)
      exact law_tail l E h hX hbl hbA hAw (lv_sub hl [0, 1, 2, 3] rfl)
    · exact absurd trivial (fun _ => (bB_01 k1_0 k2_0))
  · skip
    refine lv_aload_n hx hb dL_law_346 rfl (lv_at hl 1 rfl) ?_
    refine lv_aload_n hx hb dL_law_347 rfl (lv_at hl 3 rfl) ?_
    refine lv_iload_n hx hb dL_law_348 rfl (lv_at hl 0 rfl) ?_
    refine lv_iconst (v := 1) hx hb dL_law_349 (by decide) ?_
    refine lv_iadd hx hb dL_law_350 ?_
    refine x_topI (v2 := 1) (by decide) ?_
    refine x_sld E h hX hbl hbA (i := 1) (j := 1) (by unfold vp_in; decide) (by decide) dL_law_351 ?_
    refine x_vi E h (na := 1) (As := [.int (xs 1)]) (kX12_deaf_0 l g _ (xs 1) (mo1.2.2.2.2.2.2.1)) (oc_mo g) rfl gL_law_X12_deaf rfl ⟨rfl, rfl⟩ rfl (by decide +kernel) ⟨Nat.le_of_ble_eq_true rfl, Nat.le_of_ble_eq_true rfl⟩ hl.1 rfl (Nat.le_of_ble_eq_true rfl) dL_law_352 ⟨Nat.le_of_ble_eq_true rfl, Nat.le_of_ble_eq_true rfl⟩ (fun r3 s3 H locs q3 h => ?_)
    rcases q3 with ⟨k3_0, rfl⟩ | ⟨k3_0, rfl⟩
    · exact absurd trivial (fun _ => (bB_01 k3_0 k1_0))
    refine lv_icmp_eq (tgt := 1066) hx hb dL_law_355 (by decide) (fun _ => ?_) (fun c => absurd (by decide) c)
    exact law_tail l E h hX hbl hbA hAw (lv_sub hl [0, 1, 2, 3] rfl)
set_option maxHeartbeats 4000000 in
set_option maxRecDepth 100000 in
theorem lawc_6 {p : Program} {e : Env} {s : State} {m : MethodId} {below : List Frame} {meth : Method} {c : Code} (l : Launch) {b : Nat} {xs : Nat → Int32} {g : CX} (E : EV p s m #[Value.ref b] meth c cL_law RL wsL_law 4 ret g) (hX : va_X b 5 xs s s.heap) (hbl : b < s.heap.size) (hbA : ¬ Aw g b) (hAw : ∀ q, Aw g q → s.heap.size ≤ q) {H : Heap} {ls : Array Slot} {locs : List Loc} (h : HW g σ0 s H locs) (hl : lv_has ls 4 [(3, .int 0), (2, .ref (g.2.1 79)), (1, .ref (g.2.1 0)), (0, .ref b)]) : W p l e room_1 s m #[Value.ref b] below meth c H locs 108 7415 (lw_Z below #[Value.ref b] s) (F0 m 360 ls []) := by
  have hx := E.1
  have hb := E.2.1
  have hown := E.2.2.2.1
  have hts := E.2.2.2.2.1
  refine lv_aload_n hx hb dL_law_360 rfl (lv_at hl 2 rfl) ?_
  refine lv_aload_n hx hb dL_law_361 rfl (lv_at hl 3 rfl) ?_
  refine lv_iload_n hx hb dL_law_362 rfl (lv_at hl 0 rfl) ?_
  refine lv_iconst (v := 1) hx hb dL_law_363 (by decide) ?_
  refine lv_iadd hx hb dL_law_364 ?_
  refine x_topI (v2 := 1) (by decide) ?_
  refine x_sld E h hX hbl hbA (i := 1) (j := 1) (by unfold vp_in; decide) (by decide) dL_law_365 ?_
  refine lv_aload_n hx hb dL_law_366 rfl (lv_at hl 3 rfl) ?_
  refine lv_iload_n hx hb dL_law_367 rfl (lv_at hl 0 rfl) ?_
  refine lv_iconst (v := 2) hx hb dL_law_368 (by decide) ?_
  refine lv_iadd hx hb dL_law_369 ?_
  refine x_topI (v2 := 2) (by decide) ?_
  refine x_sld E h hX hbl hbA (i := 2) (j := 2) (by unfold vp_in; decide) (by decide) dL_law_370 ?_
  refine lv_aload_n hx hb dL_law_371 rfl (lv_at hl 3 rfl) ?_
  refine lv_iload_n hx hb dL_law_372 rfl (lv_at hl 0 rfl) ?_
  refine lv_iconst (v := 3) hx hb dL_law_373 (by decide) ?_
  refine lv_iadd hx hb dL_law_374 ?_
  refine x_topI (v2 := 3) (by decide) ?_
  refine x_sld E h hX hbl hbA (i := 3) (j := 3) (by unfold vp_in; decide) (by decide) dL_law_375 ?_
  refine x_vi E h (na := 3) (As := [.int (xs 1), .int (xs 2), .int (xs 3)]) (kX11_out_0 l g _ (xs 1) (xs 2) (xs 3) rfl) (oc_vh g) rfl gL_law_X11_out rfl ⟨rfl, rfl⟩ rfl (by decide +kernel) ⟨Nat.le_of_ble_eq_true rfl, Nat.le_of_ble_eq_true rfl⟩ hl.1 rfl (Nat.le_of_ble_eq_true rfl) dL_law_376 ⟨Nat.le_of_ble_eq_true rfl, Nat.le_of_ble_eq_true rfl⟩ (fun r1 s1 H locs q1 h => ?_)
  rcases q1 with ⟨rfl, mo1⟩
  refine lv_aload_n hx hb dL_law_379 rfl (lv_at hl 1 rfl) ?_
  refine lv_aload_n hx hb dL_law_380 rfl (lv_at hl 3 rfl) ?_
  refine lv_iload_n hx hb dL_law_381 rfl (lv_at hl 0 rfl) ?_
  refine lv_iconst (v := 1) hx hb dL_law_382 (by decide) ?_
  refine lv_iadd hx hb dL_law_383 ?_
  refine x_topI (v2 := 1) (by decide) ?_
  refine x_sld E h hX hbl hbA (i := 1) (j := 1) (by unfold vp_in; decide) (by decide) dL_law_384 ?_
  refine lv_aload_n hx hb dL_law_385 rfl (lv_at hl 3 rfl) ?_
  refine lv_iload_n hx hb dL_law_386 rfl (lv_at hl 0 rfl) ?_
  refine lv_iconst (v := 2) hx hb dL_law_387 (by decide) ?_
  refine lv_iadd hx hb dL_law_388 ?_
  refine x_topI (v2 := 2) (by decide) ?_
  refine x_sld E h hX hbl hbA (i := 2) (j := 2) (by unfold vp_in; decide) (by decide) dL_law_389 ?_
  refine lv_aload_n hx hb dL_law_390 rfl (lv_at hl 3 rfl) ?_
  refine lv_iload_n hx hb dL_law_391 rfl (lv_at hl 0 rfl) ?_
  refine lv_iconst (v := 3) hx hb dL_law_392 (by decide) ?_
  refine lv_iadd hx hb dL_law_393 ?_
  refine x_topI (v2 := 3) (by decide) ?_
  refine x_sld E h hX hbl hbA (i := 3) (j := 3) (by unfold vp_in; decide) (by decide) dL_law_394 ?_
  refine x_vi E h (na := 3) (As := [.int (xs 1), .int (xs 2), .int (xs 3)]) (kX12_out_0 l g _ (xs 1) (xs 2) (xs 3) (mo1.2.2.2.2.2.2.1)) (oc_mo g) rfl gL_law_X12_out rfl ⟨rfl, rfl⟩ rfl (by decide +kernel) ⟨Nat.le_of_ble_eq_true rfl, Nat.le_of_ble_eq_true rfl⟩ hl.1 rfl (Nat.le_of_ble_eq_true rfl) dL_law_395 ⟨Nat.le_of_ble_eq_true rfl, Nat.le_of_ble_eq_true rfl⟩ (fun r2 s2 H locs q2 h => ?_)
  rcases q2 with ⟨k2_0, rfl⟩
  refine lv_icmp_eq (tgt := 1066) hx hb dL_law_398 (by decide) (fun _ => ?_) (fun c => absurd (by decide) c)
  exact law_tail l E h hX hbl hbA hAw (lv_sub hl [0, 1, 2, 3] rfl)
set_option maxHeartbeats 4000000 in
set_option maxRecDepth 100000 in
theorem lawc_7 {p : Program} {e : Env} {s : State} {m : MethodId} {below : List Frame} {meth : Method} {c : Code} (l : Launch) {b : Nat} {xs : Nat → Int32} {g : CX} (E : EV p s m #[Value.ref b] meth c cL_law RL wsL_law 4 ret g) (hX : va_X b 5 xs s s.heap) (hbl : b < s.heap.size) (hbA : ¬ Aw g b) (hAw : ∀ q, Aw g q → s.heap.size ≤ q) {H : Heap} {ls : Array Slot} {locs : List Loc} (h : HW g σ0 s H locs) (hl : lv_has ls 4 [(3, .int 0), (2, .ref (g.2.1 79)), (1, .ref (g.2.1 0)), (0, .ref b)]) : W p l e room_1 s m #[Value.ref b] below meth c H locs 108 7415 (lw_Z below #[Value.ref b] s) (F0 m 403 ls []) := by
  have hx := E.1
  have hb := E.2.1
  have hown := E.2.2.2.1
  have hts := E.2.2.2.2.1
  refine lv_aload_n hx hb dL_law_403 rfl (lv_at hl 2 rfl) ?_
  refine x_vi E h (na := 0) (As := []) (kX11_hush_0 l g _  rfl) (oc_vh g) rfl gL_law_X11_hush rfl ⟨rfl, rfl⟩ rfl (by decide +kernel) ⟨Nat.le_of_ble_eq_true rfl, Nat.le_of_ble_eq_true rfl⟩ hl.1 rfl (Nat.le_of_ble_eq_true rfl) dL_law_404 ⟨Nat.le_of_ble_eq_true rfl, Nat.le_of_ble_eq_true rfl⟩ (fun r1 s1 H locs q1 h => ?_)
  rcases q1 with ⟨rfl, mo1⟩
  refine lv_aload_n hx hb dL_law_407 rfl (lv_at hl 1 rfl) ?_
  refine x_vi E h (na := 0) (As := []) (kX12_hush_0 l g _  (mo1.2.2.2.2.2.2.1)) (oc_mo g) rfl gL_law_X12_hush rfl ⟨rfl, rfl⟩ rfl (by decide +kernel) ⟨Nat.le_of_ble_eq_true rfl, Nat.le_of_ble_eq_true rfl⟩ hl.1 rfl (Nat.le_of_ble_eq_true rfl) dL_law_408 ⟨Nat.le_of_ble_eq_true rfl, Nat.le_of_ble_eq_true rfl⟩ (fun r2 s2 H locs q2 h => ?_)
  rcases q2 with rfl
  refine lv_icmp_eq (tgt := 1066) hx hb dL_law_411 (by decide) (fun _ => ?_) (fun c => absurd (by decide) c)
  exact law_tail l E h hX hbl hbA hAw (lv_sub hl [0, 1, 2, 3] rfl)
set_option maxHeartbeats 4000000 in
set_option maxRecDepth 100000 in
theorem lawc_8 {p : Program} {e : Env} {s : State} {m : MethodId} {below : List Frame} {meth : Method} {c : Code} (l : Launch) {b : Nat} {xs : Nat → Int32} {g : CX} (E : EV p s m #[Value.ref b] meth c cL_law RL wsL_law 4 ret g) (hX : va_X b 5 xs s s.heap) (hbl : b < s.heap.size) (hbA : ¬ Aw g b) (hAw : ∀ q, Aw g q → s.heap.size ≤ q) {H : Heap} {ls : Array Slot} {locs : List Loc} (h : HW g σ0 s H locs) (hl : lv_has ls 4 [(3, .int 0), (2, .ref (g.2.1 79)), (1, .ref (g.2.1 0)), (0, .ref b)]) : W p l e room_1 s m #[Value.ref b] below meth c H locs 108 7415 (lw_Z below #[Value.ref b] s) (F0 m 416 ls []) := by
  have hx := E.1
  have hb := E.2.1
  have hown := E.2.2.2.1
  have hts := E.2.2.2.2.1
  refine lv_aload_n hx hb dL_law_416 rfl (lv_at hl 2 rfl) ?_
  refine lv_aload_n hx hb dL_law_417 rfl (lv_at hl 3 rfl) ?_
  refine lv_iload_n hx hb dL_law_418 rfl (lv_at hl 0 rfl) ?_
  refine lv_iconst (v := 1) hx hb dL_law_419 (by decide) ?_
  refine lv_iadd hx hb dL_law_420 ?_
  refine x_topI (v2 := 1) (by decide) ?_
  refine x_sld E h hX hbl hbA (i := 1) (j := 1) (by unfold vp_in; decide) (by decide) dL_law_421 ?_
  refine x_vi E h (na := 1) (As := [.int (xs 1)]) (kX11_pieces_0 l g _ (xs 1) rfl rfl rfl rfl) (oc_vh g) rfl gL_law_X11_pieces rfl ⟨rfl, rfl⟩ rfl (by decide +kernel) ⟨Nat.le_of_ble_eq_true rfl, Nat.le_of_ble_eq_true rfl⟩ hl.1 rfl (Nat.le_of_ble_eq_true rfl) dL_law_422 ⟨Nat.le_of_ble_eq_true rfl, Nat.le_of_ble_eq_true rfl⟩ (fun r1 s1 H locs q1 h => ?_)
  rcases q1 with ⟨k1_0, rfl, mo1⟩ | ⟨k1_0, k1_1, rfl, mo1⟩ | ⟨k1_0, k1_1, k1_2, rfl, mo1⟩ | ⟨k1_0, k1_1, k1_2, k1_3, rfl, mo1⟩ | ⟨k1_0, k1_1, k1_2, k1_3, rfl, mo1⟩
  · skip
    refine lv_aload_n hx hb dL_law_425 rfl (lv_at hl 1 rfl) ?_
    refine lv_aload_n hx hb dL_law_426 rfl (lv_at hl 3 rfl) ?_
    refine lv_iload_n hx hb dL_law_427 rfl (lv_at hl 0 rfl) ?_
    refine lv_iconst (v := 1) hx hb dL_law_428 (by decide) ?_
    refine lv_iadd hx hb dL_law_429 ?_
    refine x_topI (v2 := 1) (by decide) ?_
    refine x_sld E h hX hbl hbA (i := 1) (j := 1) (by unfold vp_in; decide) (by decide) dL_law_430 ?_
    refine x_vi E h (na := 1) (As := [.int (xs 1)]) (kX12_pieces_0 l g _ (xs 1) (mo1.2.2.2.2.2.2.1)) (oc_mo g) rfl gL_law_X12_pieces rfl ⟨rfl, rfl⟩ rfl (by decide +kernel) ⟨Nat.le_of_ble_eq_true rfl, Nat.le_of_ble_eq_true rfl⟩ hl.1 rfl (Nat.le_of_ble_eq_true rfl) dL_law_431 ⟨Nat.le_of_ble_eq_true rfl, Nat.le_of_ble_eq_true rfl⟩ (fun r2 s2 H locs q2 h => ?_)
    rcases q2 with ⟨k2_0, k2_1, k2_2, k2_3, rfl⟩ | ⟨k2_0, k2_1, k2_2, k2_3, rfl⟩ | ⟨k2_0, k2_1, k2_2, rfl⟩ | ⟨k2_0, k2_1, rfl⟩ | ⟨k2_0, rfl⟩
    · exact absurd trivial (fun _ => (k2_1 k1_0))
    · exact absurd trivial (fun _ => (absurd (k1_0.symm.trans k2_3) (by decide)))
    · exact absurd trivial (fun _ => (absurd (k1_0.symm.trans k2_2) (by decide)))
    · skip
      refine lv_icmp_eq (tgt := 1066) hx hb dL_law_434 (by decide) (fun _ => ?_) (fun c => absurd (by decide) c)
      exact law_tail l E h hX hbl hbA hAw (lv_sub hl [0, 1, 2, 3] rfl)
    · exact absurd trivial (fun _ => (bB_eq0 k1_0 k2_0 (by decide)))
  · skip
    refine lv_aload_n hx hb dL_law_425 rfl (lv_at hl 1 rfl) ?_
    refine lv_aload_n hx hb dL_law_426 rfl (lv_at hl 3 rfl) ?_
    refine lv_iload_n hx hb dL_law_427 rfl (lv_at hl 0 rfl) ?_
    refine lv_iconst (v := 1) hx hb dL_law_428 (by decide) ?_
    refine lv_iadd hx hb dL_law_429 ?_
    refine x_topI (v2 := 1) (by decide) ?_
    refine x_sld E h hX hbl hbA (i := 1) (j := 1) (by unfold vp_in; decide) (by decide) dL_law_430 ?_
    refine x_vi E h (na := 1) (As := [.int (xs 1)]) (kX12_pieces_0 l g _ (xs 1) (mo1.2.2.2.2.2.2.1)) (oc_mo g) rfl gL_law_X12_pieces rfl ⟨rfl, rfl⟩ rfl (by decide +kernel) ⟨Nat.le_of_ble_eq_true rfl, Nat.le_of_ble_eq_true rfl⟩ hl.1 rfl (Nat.le_of_ble_eq_true rfl) dL_law_431 ⟨Nat.le_of_ble_eq_true rfl, Nat.le_of_ble_eq_true rfl⟩ (fun r3 s3 H locs q3 h => ?_)
    rcases q3 with ⟨k3_0, k3_1, k3_2, k3_3, rfl⟩ | ⟨k3_0, k3_1, k3_2, k3_3, rfl⟩ | ⟨k3_0, k3_1, k3_2, rfl⟩ | ⟨k3_0, k3_1, rfl⟩ | ⟨k3_0, rfl⟩
    · exact absurd trivial (fun _ => (k3_2 k1_1))
    · exact absurd trivial (fun _ => (absurd (k1_1.symm.trans k3_3) (by decide)))
    · skip
      refine lv_icmp_eq (tgt := 1066) hx hb dL_law_434 (by decide) (fun _ => ?_) (fun c => absurd (by decide) c)
      exact law_tail l E h hX hbl hbA hAw (lv_sub hl [0, 1, 2, 3] rfl)
    · exact absurd trivial (fun _ => (k1_0 k3_1))
    · exact absurd trivial (fun _ => (bB_eq0 k1_1 k3_0 (by decide)))
  · skip
    refine lv_aload_n hx hb dL_law_425 rfl (lv_at hl 1 rfl) ?_
    refine lv_aload_n hx hb dL_law_426 rfl (lv_at hl 3 rfl) ?_
    refine lv_iload_n hx hb dL_law_427 rfl (lv_at hl 0 rfl) ?_
    refine lv_iconst (v := 1) hx hb dL_law_428 (by decide) ?_
    refine lv_iadd hx hb dL_law_429 ?_
    refine x_topI (v2 := 1) (by decide) ?_
    refine x_sld E h hX hbl hbA (i := 1) (j := 1) (by unfold vp_in; decide) (by decide) dL_law_430 ?_
    refine x_vi E h (na := 1) (As := [.int (xs 1)]) (kX12_pieces_0 l g _ (xs 1) (mo1.2.2.2.2.2.2.1)) (oc_mo g) rfl gL_law_X12_pieces rfl ⟨rfl, rfl⟩ rfl (by decide +kernel) ⟨Nat.le_of_ble_eq_true rfl, Nat.le_of_ble_eq_true rfl⟩ hl.1 rfl (Nat.le_of_ble_eq_true rfl) dL_law_431 ⟨Nat.le_of_ble_eq_true rfl, Nat.le_of_ble_eq_true rfl⟩ (fun r4 s4 H locs q4 h => ?_)
    rcases q4 with ⟨k4_0, k4_1, k4_2, k4_3, rfl⟩ | ⟨k4_0, k4_1, k4_2, k4_3, rfl⟩ | ⟨k4_0, k4_1, k4_2, rfl⟩ | ⟨k4_0, k4_1, rfl⟩ | ⟨k4_0, rfl⟩
    · exact absurd trivial (fun _ => (k4_3 k1_2))
    · skip
      refine lv_icmp_eq (tgt := 1066) hx hb dL_law_434 (by decide) (fun _ => ?_) (fun c => absurd (by decide) c)
      exact law_tail l E h hX hbl hbA hAw (lv_sub hl [0, 1, 2, 3] rfl)
    · exact absurd trivial (fun _ => (k1_1 k4_2))
    · exact absurd trivial (fun _ => (k1_0 k4_1))
    · exact absurd trivial (fun _ => (bB_eq0 k1_2 k4_0 (by decide)))
  · skip
    refine lv_aload_n hx hb dL_law_425 rfl (lv_at hl 1 rfl) ?_
    refine lv_aload_n hx hb dL_law_426 rfl (lv_at hl 3 rfl) ?_
    refine lv_iload_n hx hb dL_law_427 rfl (lv_at hl 0 rfl) ?_
    refine lv_iconst (v := 1) hx hb dL_law_428 (by decide) ?_
    refine lv_iadd hx hb dL_law_429 ?_
    refine x_topI (v2 := 1) (by decide) ?_
    refine x_sld E h hX hbl hbA (i := 1) (j := 1) (by unfold vp_in; decide) (by decide) dL_law_430 ?_
    refine x_vi E h (na := 1) (As := [.int (xs 1)]) (kX12_pieces_0 l g _ (xs 1) (mo1.2.2.2.2.2.2.1)) (oc_mo g) rfl gL_law_X12_pieces rfl ⟨rfl, rfl⟩ rfl (by decide +kernel) ⟨Nat.le_of_ble_eq_true rfl, Nat.le_of_ble_eq_true rfl⟩ hl.1 rfl (Nat.le_of_ble_eq_true rfl) dL_law_431 ⟨Nat.le_of_ble_eq_true rfl, Nat.le_of_ble_eq_true rfl⟩ (fun r5 s5 H locs q5 h => ?_)
    rcases q5 with ⟨k5_0, k5_1, k5_2, k5_3, rfl⟩ | ⟨k5_0, k5_1, k5_2, k5_3, rfl⟩ | ⟨k5_0, k5_1, k5_2, rfl⟩ | ⟨k5_0, k5_1, rfl⟩ | ⟨k5_0, rfl⟩
    · skip
      refine lv_icmp_eq (tgt := 1066) hx hb dL_law_434 (by decide) (fun _ => ?_) (fun c => absurd (by decide) c)
      exact law_tail l E h hX hbl hbA hAw (lv_sub hl [0, 1, 2, 3] rfl)
    · exact absurd trivial (fun _ => (k1_2 k5_3))
    · exact absurd trivial (fun _ => (k1_1 k5_2))
    · exact absurd trivial (fun _ => (k1_0 k5_1))
    · exact absurd trivial (fun _ => (bB_eq0 k1_3 k5_0 (by decide)))
  · skip
    refine lv_aload_n hx hb dL_law_425 rfl (lv_at hl 1 rfl) ?_
    refine lv_aload_n hx hb dL_law_426 rfl (lv_at hl 3 rfl) ?_
    refine lv_iload_n hx hb dL_law_427 rfl (lv_at hl 0 rfl) ?_
    refine lv_iconst (v := 1) hx hb dL_law_428 (by decide) ?_
    refine lv_iadd hx hb dL_law_429 ?_
    refine x_topI (v2 := 1) (by decide) ?_
    refine x_sld E h hX hbl hbA (i := 1) (j := 1) (by unfold vp_in; decide) (by decide) dL_law_430 ?_
    refine x_vi E h (na := 1) (As := [.int (xs 1)]) (kX12_pieces_0 l g _ (xs 1) (mo1.2.2.2.2.2.2.1)) (oc_mo g) rfl gL_law_X12_pieces rfl ⟨rfl, rfl⟩ rfl (by decide +kernel) ⟨Nat.le_of_ble_eq_true rfl, Nat.le_of_ble_eq_true rfl⟩ hl.1 rfl (Nat.le_of_ble_eq_true rfl) dL_law_431 ⟨Nat.le_of_ble_eq_true rfl, Nat.le_of_ble_eq_true rfl⟩ (fun r6 s6 H locs q6 h => ?_)
    rcases q6 with ⟨k6_0, k6_1, k6_2, k6_3, rfl⟩ | ⟨k6_0, k6_1, k6_2, k6_3, rfl⟩ | ⟨k6_0, k6_1, k6_2, rfl⟩ | ⟨k6_0, k6_1, rfl⟩ | ⟨k6_0, rfl⟩
    · exact absurd trivial (fun _ => (bB_ne3 k6_0 k6_1 k6_2 k6_3 k1_3))
    · exact absurd trivial (fun _ => (k1_2 k6_3))
    · exact absurd trivial (fun _ => (k1_1 k6_2))
    · exact absurd trivial (fun _ => (k1_0 k6_1))
    refine lv_icmp_eq (tgt := 1066) hx hb dL_law_434 (by decide) (fun _ => ?_) (fun c => absurd (by decide) c)
    exact law_tail l E h hX hbl hbA hAw (lv_sub hl [0, 1, 2, 3] rfl)
set_option maxHeartbeats 4000000 in
set_option maxRecDepth 100000 in
theorem lawc_9 {p : Program} {e : Env} {s : State} {m : MethodId} {below : List Frame} {meth : Method} {c : Code} (l : Launch) {b : Nat} {xs : Nat → Int32} {g : CX} (E : EV p s m #[Value.ref b] meth c cL_law RL wsL_law 4 ret g) (hX : va_X b 5 xs s s.heap) (hbl : b < s.heap.size) (hbA : ¬ Aw g b) (hAw : ∀ q, Aw g q → s.heap.size ≤ q) {H : Heap} {ls : Array Slot} {locs : List Loc} (h : HW g σ0 s H locs) (hl : lv_has ls 4 [(3, .int 0), (2, .ref (g.2.1 79)), (1, .ref (g.2.1 0)), (0, .ref b)]) : W p l e room_1 s m #[Value.ref b] below meth c H locs 108 7415 (lw_Z below #[Value.ref b] s) (F0 m 439 ls []) := by
  have hx := E.1
  have hb := E.2.1
  have hown := E.2.2.2.1
  have hts := E.2.2.2.2.1
  refine lv_aload_n hx hb dL_law_439 rfl (lv_at hl 2 rfl) ?_
  refine lv_aload_n hx hb dL_law_440 rfl (lv_at hl 3 rfl) ?_
  refine lv_iload_n hx hb dL_law_441 rfl (lv_at hl 0 rfl) ?_
  refine lv_iconst (v := 1) hx hb dL_law_442 (by decide) ?_
  refine lv_iadd hx hb dL_law_443 ?_
  refine x_topI (v2 := 1) (by decide) ?_
  refine x_sld E h hX hbl hbA (i := 1) (j := 1) (by unfold vp_in; decide) (by decide) dL_law_444 ?_
  refine lv_aload_n hx hb dL_law_445 rfl (lv_at hl 3 rfl) ?_
  refine lv_iload_n hx hb dL_law_446 rfl (lv_at hl 0 rfl) ?_
  refine lv_iconst (v := 2) hx hb dL_law_447 (by decide) ?_
  refine lv_iadd hx hb dL_law_448 ?_
  refine x_topI (v2 := 2) (by decide) ?_
  refine x_sld E h hX hbl hbA (i := 2) (j := 2) (by unfold vp_in; decide) (by decide) dL_law_449 ?_
  refine x_vi E h (na := 2) (As := [.int (xs 1), .int (xs 2)]) (kX11_piece_0 l g _ (xs 1) (xs 2) rfl rfl rfl rfl) (oc_vh g) rfl gL_law_X11_piece rfl ⟨rfl, rfl⟩ rfl (by decide +kernel) ⟨Nat.le_of_ble_eq_true rfl, Nat.le_of_ble_eq_true rfl⟩ hl.1 rfl (Nat.le_of_ble_eq_true rfl) dL_law_450 ⟨Nat.le_of_ble_eq_true rfl, Nat.le_of_ble_eq_true rfl⟩ (fun r1 s1 H locs q1 h => ?_)
  rcases q1 with ⟨k1_0, rfl, mo1⟩
  refine lv_aload_n hx hb dL_law_453 rfl (lv_at hl 1 rfl) ?_
  refine lv_aload_n hx hb dL_law_454 rfl (lv_at hl 3 rfl) ?_
  refine lv_iload_n hx hb dL_law_455 rfl (lv_at hl 0 rfl) ?_
  refine lv_iconst (v := 1) hx hb dL_law_456 (by decide) ?_
  refine lv_iadd hx hb dL_law_457 ?_
  refine x_topI (v2 := 1) (by decide) ?_
  refine x_sld E h hX hbl hbA (i := 1) (j := 1) (by unfold vp_in; decide) (by decide) dL_law_458 ?_
  refine lv_aload_n hx hb dL_law_459 rfl (lv_at hl 3 rfl) ?_
  refine lv_iload_n hx hb dL_law_460 rfl (lv_at hl 0 rfl) ?_
  refine lv_iconst (v := 2) hx hb dL_law_461 (by decide) ?_
  refine lv_iadd hx hb dL_law_462 ?_
  refine x_topI (v2 := 2) (by decide) ?_
  refine x_sld E h hX hbl hbA (i := 2) (j := 2) (by unfold vp_in; decide) (by decide) dL_law_463 ?_
  refine x_vi E h (na := 2) (As := [.int (xs 1), .int (xs 2)]) (kX12_piece_0 l g _ (xs 1) (xs 2) (mo1.2.2.2.2.2.2.1)) (oc_mo g) rfl gL_law_X12_piece rfl ⟨rfl, rfl⟩ rfl (by decide +kernel) ⟨Nat.le_of_ble_eq_true rfl, Nat.le_of_ble_eq_true rfl⟩ hl.1 rfl (Nat.le_of_ble_eq_true rfl) dL_law_464 ⟨Nat.le_of_ble_eq_true rfl, Nat.le_of_ble_eq_true rfl⟩ (fun r2 s2 H locs q2 h => ?_)
  rcases q2 with ⟨k2_0, rfl⟩
  refine lv_icmp_eq (tgt := 1066) hx hb dL_law_467 (by decide) (fun _ => ?_) (fun c => absurd (by decide) c)
  exact law_tail l E h hX hbl hbA hAw (lv_sub hl [0, 1, 2, 3] rfl)
set_option maxHeartbeats 4000000 in
set_option maxRecDepth 100000 in
theorem lawc_10 {p : Program} {e : Env} {s : State} {m : MethodId} {below : List Frame} {meth : Method} {c : Code} (l : Launch) {b : Nat} {xs : Nat → Int32} {g : CX} (E : EV p s m #[Value.ref b] meth c cL_law RL wsL_law 4 ret g) (hX : va_X b 5 xs s s.heap) (hbl : b < s.heap.size) (hbA : ¬ Aw g b) (hAw : ∀ q, Aw g q → s.heap.size ≤ q) {H : Heap} {ls : Array Slot} {locs : List Loc} (h : HW g σ0 s H locs) (hl : lv_has ls 4 [(3, .int 0), (2, .ref (g.2.1 79)), (1, .ref (g.2.1 0)), (0, .ref b)]) : W p l e room_1 s m #[Value.ref b] below meth c H locs 108 7415 (lw_Z below #[Value.ref b] s) (F0 m 472 ls []) := by
  have hx := E.1
  have hb := E.2.1
  have hown := E.2.2.2.1
  have hts := E.2.2.2.2.1
  refine lv_aload_n hx hb dL_law_472 rfl (lv_at hl 2 rfl) ?_
  refine lv_aload_n hx hb dL_law_473 rfl (lv_at hl 3 rfl) ?_
  refine lv_iload_n hx hb dL_law_474 rfl (lv_at hl 0 rfl) ?_
  refine lv_iconst (v := 1) hx hb dL_law_475 (by decide) ?_
  refine lv_iadd hx hb dL_law_476 ?_
  refine x_topI (v2 := 1) (by decide) ?_
  refine x_sld E h hX hbl hbA (i := 1) (j := 1) (by unfold vp_in; decide) (by decide) dL_law_477 ?_
  refine x_vi E h (na := 1) (As := [.int (xs 1)]) (kX11_of_0 l g _ (xs 1) rfl) (oc_vh g) rfl gL_law_X11_of rfl ⟨rfl, rfl⟩ rfl (by decide +kernel) ⟨Nat.le_of_ble_eq_true rfl, Nat.le_of_ble_eq_true rfl⟩ hl.1 rfl (Nat.le_of_ble_eq_true rfl) dL_law_478 ⟨Nat.le_of_ble_eq_true rfl, Nat.le_of_ble_eq_true rfl⟩ (fun r1 s1 H locs q1 h => ?_)
  rcases q1 with ⟨k1_0, rfl, mo1⟩
  refine lv_aload_n hx hb dL_law_481 rfl (lv_at hl 1 rfl) ?_
  refine lv_aload_n hx hb dL_law_482 rfl (lv_at hl 3 rfl) ?_
  refine lv_iload_n hx hb dL_law_483 rfl (lv_at hl 0 rfl) ?_
  refine lv_iconst (v := 1) hx hb dL_law_484 (by decide) ?_
  refine lv_iadd hx hb dL_law_485 ?_
  refine x_topI (v2 := 1) (by decide) ?_
  refine x_sld E h hX hbl hbA (i := 1) (j := 1) (by unfold vp_in; decide) (by decide) dL_law_486 ?_
  refine x_vi E h (na := 1) (As := [.int (xs 1)]) (kX12_of_0 l g _ (xs 1) (mo1.2.2.2.2.2.2.1)) (oc_mo g) rfl gL_law_X12_of rfl ⟨rfl, rfl⟩ rfl (by decide +kernel) ⟨Nat.le_of_ble_eq_true rfl, Nat.le_of_ble_eq_true rfl⟩ hl.1 rfl (Nat.le_of_ble_eq_true rfl) dL_law_487 ⟨Nat.le_of_ble_eq_true rfl, Nat.le_of_ble_eq_true rfl⟩ (fun r2 s2 H locs q2 h => ?_)
  rcases q2 with ⟨k2_0, rfl⟩
  refine lv_icmp_eq (tgt := 1066) hx hb dL_law_490 (by decide) (fun _ => ?_) (fun c => absurd (by decide) c)
  exact law_tail l E h hX hbl hbA hAw (lv_sub hl [0, 1, 2, 3] rfl)
set_option maxHeartbeats 4000000 in
set_option maxRecDepth 100000 in
theorem lawc_11 {p : Program} {e : Env} {s : State} {m : MethodId} {below : List Frame} {meth : Method} {c : Code} (l : Launch) {b : Nat} {xs : Nat → Int32} {g : CX} (E : EV p s m #[Value.ref b] meth c cL_law RL wsL_law 4 ret g) (hX : va_X b 5 xs s s.heap) (hbl : b < s.heap.size) (hbA : ¬ Aw g b) (hAw : ∀ q, Aw g q → s.heap.size ≤ q) {H : Heap} {ls : Array Slot} {locs : List Loc} (h : HW g σ0 s H locs) (hl : lv_has ls 4 [(3, .int 0), (2, .ref (g.2.1 79)), (1, .ref (g.2.1 0)), (0, .ref b)]) : W p l e room_1 s m #[Value.ref b] below meth c H locs 108 7415 (lw_Z below #[Value.ref b] s) (F0 m 495 ls []) := by
  have hx := E.1
  have hb := E.2.1
  have hown := E.2.2.2.1
  have hts := E.2.2.2.2.1
  refine lv_aload_n hx hb dL_law_495 rfl (lv_at hl 2 rfl) ?_
  refine lv_aload_n hx hb dL_law_496 rfl (lv_at hl 3 rfl) ?_
  refine lv_iload_n hx hb dL_law_497 rfl (lv_at hl 0 rfl) ?_
  refine lv_iconst (v := 1) hx hb dL_law_498 (by decide) ?_
  refine lv_iadd hx hb dL_law_499 ?_
  refine x_topI (v2 := 1) (by decide) ?_
  refine x_sld E h hX hbl hbA (i := 1) (j := 1) (by unfold vp_in; decide) (by decide) dL_law_500 ?_
  refine lv_aload_n hx hb dL_law_501 rfl (lv_at hl 3 rfl) ?_
  refine lv_iload_n hx hb dL_law_502 rfl (lv_at hl 0 rfl) ?_
  refine lv_iconst (v := 2) hx hb dL_law_503 (by decide) ?_
  refine lv_iadd hx hb dL_law_504 ?_
  refine x_topI (v2 := 2) (by decide) ?_
  refine x_sld E h hX hbl hbA (i := 2) (j := 2) (by unfold vp_in; decide) (by decide) dL_law_505 ?_
  refine x_vi E h (na := 2) (As := [.int (xs 1), .int (xs 2)]) (kX11_like_0 l g _ (xs 1) (xs 2) rfl rfl rfl rfl) (oc_vh g) rfl gL_law_X11_like rfl ⟨rfl, rfl⟩ rfl (by decide +kernel) ⟨Nat.le_of_ble_eq_true rfl, Nat.le_of_ble_eq_true rfl⟩ hl.1 rfl (Nat.le_of_ble_eq_true rfl) dL_law_506 ⟨Nat.le_of_ble_eq_true rfl, Nat.le_of_ble_eq_true rfl⟩ (fun r1 s1 H locs q1 h => ?_)
  rcases q1 with ⟨k1_0, rfl, mo1⟩
  refine lv_aload_n hx hb dL_law_509 rfl (lv_at hl 1 rfl) ?_
  refine lv_aload_n hx hb dL_law_510 rfl (lv_at hl 3 rfl) ?_
  refine lv_iload_n hx hb dL_law_511 rfl (lv_at hl 0 rfl) ?_
  refine lv_iconst (v := 1) hx hb dL_law_512 (by decide) ?_
  refine lv_iadd hx hb dL_law_513 ?_
  refine x_topI (v2 := 1) (by decide) ?_
  refine x_sld E h hX hbl hbA (i := 1) (j := 1) (by unfold vp_in; decide) (by decide) dL_law_514 ?_
  refine lv_aload_n hx hb dL_law_515 rfl (lv_at hl 3 rfl) ?_
  refine lv_iload_n hx hb dL_law_516 rfl (lv_at hl 0 rfl) ?_
  refine lv_iconst (v := 2) hx hb dL_law_517 (by decide) ?_
  refine lv_iadd hx hb dL_law_518 ?_
  refine x_topI (v2 := 2) (by decide) ?_
  refine x_sld E h hX hbl hbA (i := 2) (j := 2) (by unfold vp_in; decide) (by decide) dL_law_519 ?_
  refine x_vi E h (na := 2) (As := [.int (xs 1), .int (xs 2)]) (kX12_like_0 l g _ (xs 1) (xs 2) (mo1.2.2.2.2.2.2.1)) (oc_mo g) rfl gL_law_X12_like rfl ⟨rfl, rfl⟩ rfl (by decide +kernel) ⟨Nat.le_of_ble_eq_true rfl, Nat.le_of_ble_eq_true rfl⟩ hl.1 rfl (Nat.le_of_ble_eq_true rfl) dL_law_520 ⟨Nat.le_of_ble_eq_true rfl, Nat.le_of_ble_eq_true rfl⟩ (fun r2 s2 H locs q2 h => ?_)
  rcases q2 with ⟨k2_0, rfl⟩
  refine lv_icmp_eq (tgt := 1066) hx hb dL_law_523 (by decide) (fun _ => ?_) (fun c => absurd (by decide) c)
  exact law_tail l E h hX hbl hbA hAw (lv_sub hl [0, 1, 2, 3] rfl)
set_option maxHeartbeats 4000000 in
set_option maxRecDepth 100000 in
theorem lawc_12 {p : Program} {e : Env} {s : State} {m : MethodId} {below : List Frame} {meth : Method} {c : Code} (l : Launch) {b : Nat} {xs : Nat → Int32} {g : CX} (E : EV p s m #[Value.ref b] meth c cL_law RL wsL_law 4 ret g) (hX : va_X b 5 xs s s.heap) (hbl : b < s.heap.size) (hbA : ¬ Aw g b) (hAw : ∀ q, Aw g q → s.heap.size ≤ q) {H : Heap} {ls : Array Slot} {locs : List Loc} (h : HW g σ0 s H locs) (hl : lv_has ls 4 [(3, .int 0), (2, .ref (g.2.1 79)), (1, .ref (g.2.1 0)), (0, .ref b)]) : W p l e room_1 s m #[Value.ref b] below meth c H locs 108 7415 (lw_Z below #[Value.ref b] s) (F0 m 528 ls []) := by
  have hx := E.1
  have hb := E.2.1
  have hown := E.2.2.2.1
  have hts := E.2.2.2.2.1
  refine lv_aload_n hx hb dL_law_528 rfl (lv_at hl 2 rfl) ?_
  refine lv_aload_n hx hb dL_law_529 rfl (lv_at hl 3 rfl) ?_
  refine lv_iload_n hx hb dL_law_530 rfl (lv_at hl 0 rfl) ?_
  refine lv_iconst (v := 1) hx hb dL_law_531 (by decide) ?_
  refine lv_iadd hx hb dL_law_532 ?_
  refine x_topI (v2 := 1) (by decide) ?_
  refine x_sld E h hX hbl hbA (i := 1) (j := 1) (by unfold vp_in; decide) (by decide) dL_law_533 ?_
  refine lv_aload_n hx hb dL_law_534 rfl (lv_at hl 3 rfl) ?_
  refine lv_iload_n hx hb dL_law_535 rfl (lv_at hl 0 rfl) ?_
  refine lv_iconst (v := 2) hx hb dL_law_536 (by decide) ?_
  refine lv_iadd hx hb dL_law_537 ?_
  refine x_topI (v2 := 2) (by decide) ?_
  refine x_sld E h hX hbl hbA (i := 2) (j := 2) (by unfold vp_in; decide) (by decide) dL_law_538 ?_
  refine x_vi E h (na := 2) (As := [.int (xs 1), .int (xs 2)]) (kX11_heap_0 l g _ (xs 1) (xs 2) rfl rfl rfl rfl) (oc_vh g) rfl gL_law_X11_heap rfl ⟨rfl, rfl⟩ rfl (by decide +kernel) ⟨Nat.le_of_ble_eq_true rfl, Nat.le_of_ble_eq_true rfl⟩ hl.1 rfl (Nat.le_of_ble_eq_true rfl) dL_law_539 ⟨Nat.le_of_ble_eq_true rfl, Nat.le_of_ble_eq_true rfl⟩ (fun r1 s1 H locs q1 h => ?_)
  rcases q1 with ⟨k1_0, rfl, mo1⟩
  refine lv_aload_n hx hb dL_law_542 rfl (lv_at hl 1 rfl) ?_
  refine lv_aload_n hx hb dL_law_543 rfl (lv_at hl 3 rfl) ?_
  refine lv_iload_n hx hb dL_law_544 rfl (lv_at hl 0 rfl) ?_
  refine lv_iconst (v := 1) hx hb dL_law_545 (by decide) ?_
  refine lv_iadd hx hb dL_law_546 ?_
  refine x_topI (v2 := 1) (by decide) ?_
  refine x_sld E h hX hbl hbA (i := 1) (j := 1) (by unfold vp_in; decide) (by decide) dL_law_547 ?_
  refine lv_aload_n hx hb dL_law_548 rfl (lv_at hl 3 rfl) ?_
  refine lv_iload_n hx hb dL_law_549 rfl (lv_at hl 0 rfl) ?_
  refine lv_iconst (v := 2) hx hb dL_law_550 (by decide) ?_
  refine lv_iadd hx hb dL_law_551 ?_
  refine x_topI (v2 := 2) (by decide) ?_
  refine x_sld E h hX hbl hbA (i := 2) (j := 2) (by unfold vp_in; decide) (by decide) dL_law_552 ?_
  refine x_vi E h (na := 2) (As := [.int (xs 1), .int (xs 2)]) (kX12_heap_0 l g _ (xs 1) (xs 2) (mo1.2.2.2.2.2.2.1)) (oc_mo g) rfl gL_law_X12_heap rfl ⟨rfl, rfl⟩ rfl (by decide +kernel) ⟨Nat.le_of_ble_eq_true rfl, Nat.le_of_ble_eq_true rfl⟩ hl.1 rfl (Nat.le_of_ble_eq_true rfl) dL_law_553 ⟨Nat.le_of_ble_eq_true rfl, Nat.le_of_ble_eq_true rfl⟩ (fun r2 s2 H locs q2 h => ?_)
  rcases q2 with ⟨k2_0, rfl⟩
  refine lv_icmp_eq (tgt := 1066) hx hb dL_law_556 (by decide) (fun _ => ?_) (fun c => absurd (by decide) c)
  exact law_tail l E h hX hbl hbA hAw (lv_sub hl [0, 1, 2, 3] rfl)
set_option maxHeartbeats 4000000 in
set_option maxRecDepth 100000 in
theorem lawc_13 {p : Program} {e : Env} {s : State} {m : MethodId} {below : List Frame} {meth : Method} {c : Code} (l : Launch) {b : Nat} {xs : Nat → Int32} {g : CX} (E : EV p s m #[Value.ref b] meth c cL_law RL wsL_law 4 ret g) (hX : va_X b 5 xs s s.heap) (hbl : b < s.heap.size) (hbA : ¬ Aw g b) (hAw : ∀ q, Aw g q → s.heap.size ≤ q) {H : Heap} {ls : Array Slot} {locs : List Loc} (h : HW g σ0 s H locs) (hl : lv_has ls 4 [(3, .int 0), (2, .ref (g.2.1 79)), (1, .ref (g.2.1 0)), (0, .ref b)]) : W p l e room_1 s m #[Value.ref b] below meth c H locs 108 7415 (lw_Z below #[Value.ref b] s) (F0 m 561 ls []) := by
  have hx := E.1
  have hb := E.2.1
  have hown := E.2.2.2.1
  have hts := E.2.2.2.2.1
  refine lv_aload_n hx hb dL_law_561 rfl (lv_at hl 2 rfl) ?_
  refine lv_aload_n hx hb dL_law_562 rfl (lv_at hl 3 rfl) ?_
  refine lv_iload_n hx hb dL_law_563 rfl (lv_at hl 0 rfl) ?_
  refine lv_iconst (v := 1) hx hb dL_law_564 (by decide) ?_
  refine lv_iadd hx hb dL_law_565 ?_
  refine x_topI (v2 := 1) (by decide) ?_
  refine x_sld E h hX hbl hbA (i := 1) (j := 1) (by unfold vp_in; decide) (by decide) dL_law_566 ?_
  refine x_vi E h (na := 1) (As := [.int (xs 1)]) (kX11_worth_0 l g _ (xs 1) rfl rfl rfl rfl rfl rfl rfl) (oc_vh g) rfl gL_law_X11_worth rfl ⟨rfl, rfl⟩ rfl (by decide +kernel) ⟨Nat.le_of_ble_eq_true rfl, Nat.le_of_ble_eq_true rfl⟩ hl.1 rfl (Nat.le_of_ble_eq_true rfl) dL_law_567 ⟨Nat.le_of_ble_eq_true rfl, Nat.le_of_ble_eq_true rfl⟩ (fun r1 s1 H locs q1 h => ?_)
  rcases q1 with ⟨k1_0, k1_1, rfl, mo1⟩ | ⟨k1_0, k1_1, rfl, mo1⟩ | ⟨k1_0, rfl, mo1⟩
  · skip
    refine lv_aload_n hx hb dL_law_570 rfl (lv_at hl 1 rfl) ?_
    refine lv_aload_n hx hb dL_law_571 rfl (lv_at hl 3 rfl) ?_
    refine lv_iload_n hx hb dL_law_572 rfl (lv_at hl 0 rfl) ?_
    refine lv_iconst (v := 1) hx hb dL_law_573 (by decide) ?_
    refine lv_iadd hx hb dL_law_574 ?_
    refine x_topI (v2 := 1) (by decide) ?_
    refine x_sld E h hX hbl hbA (i := 1) (j := 1) (by unfold vp_in; decide) (by decide) dL_law_575 ?_
    refine x_vi E h (na := 1) (As := [.int (xs 1)]) (kX12_worth_0 l g _ (xs 1) (mo1.2.2.2.2.2.2.1)) (oc_mo g) rfl gL_law_X12_worth rfl ⟨rfl, rfl⟩ rfl (by decide +kernel) ⟨Nat.le_of_ble_eq_true rfl, Nat.le_of_ble_eq_true rfl⟩ hl.1 rfl (Nat.le_of_ble_eq_true rfl) dL_law_576 ⟨Nat.le_of_ble_eq_true rfl, Nat.le_of_ble_eq_true rfl⟩ (fun r2 s2 H locs q2 h => ?_)
    rcases q2 with ⟨k2_0, k2_1, rfl⟩ | ⟨k2_0, k2_1, rfl⟩ | ⟨k2_0, rfl⟩
    · skip
      refine lv_icmp_eq (tgt := 1066) hx hb dL_law_579 (by decide) (fun _ => ?_) (fun c => absurd (by decide) c)
      exact law_tail l E h hX hbl hbA hAw (lv_sub hl [0, 1, 2, 3] rfl)
    · exact absurd trivial (fun _ => (k1_1 k2_1))
    · exact absurd trivial (fun _ => (bB_01 k1_0 k2_0))
  · skip
    refine lv_aload_n hx hb dL_law_570 rfl (lv_at hl 1 rfl) ?_
    refine lv_aload_n hx hb dL_law_571 rfl (lv_at hl 3 rfl) ?_
    refine lv_iload_n hx hb dL_law_572 rfl (lv_at hl 0 rfl) ?_
    refine lv_iconst (v := 1) hx hb dL_law_573 (by decide) ?_
    refine lv_iadd hx hb dL_law_574 ?_
    refine x_topI (v2 := 1) (by decide) ?_
    refine x_sld E h hX hbl hbA (i := 1) (j := 1) (by unfold vp_in; decide) (by decide) dL_law_575 ?_
    refine x_vi E h (na := 1) (As := [.int (xs 1)]) (kX12_worth_0 l g _ (xs 1) (mo1.2.2.2.2.2.2.1)) (oc_mo g) rfl gL_law_X12_worth rfl ⟨rfl, rfl⟩ rfl (by decide +kernel) ⟨Nat.le_of_ble_eq_true rfl, Nat.le_of_ble_eq_true rfl⟩ hl.1 rfl (Nat.le_of_ble_eq_true rfl) dL_law_576 ⟨Nat.le_of_ble_eq_true rfl, Nat.le_of_ble_eq_true rfl⟩ (fun r3 s3 H locs q3 h => ?_)
    rcases q3 with ⟨k3_0, k3_1, rfl⟩ | ⟨k3_0, k3_1, rfl⟩ | ⟨k3_0, rfl⟩
    · exact absurd trivial (fun _ => (k3_1 k1_1))
    · skip
      refine lv_icmp_eq (tgt := 1066) hx hb dL_law_579 (by decide) (fun _ => ?_) (fun c => absurd (by decide) c)
      exact law_tail l E h hX hbl hbA hAw (lv_sub hl [0, 1, 2, 3] rfl)
    · exact absurd trivial (fun _ => (bB_01 k1_0 k3_0))
  · skip
    refine lv_aload_n hx hb dL_law_570 rfl (lv_at hl 1 rfl) ?_
    refine lv_aload_n hx hb dL_law_571 rfl (lv_at hl 3 rfl) ?_
    refine lv_iload_n hx hb dL_law_572 rfl (lv_at hl 0 rfl) ?_
    refine lv_iconst (v := 1) hx hb dL_law_573 (by decide) ?_
    refine lv_iadd hx hb dL_law_574 ?_
    refine x_topI (v2 := 1) (by decide) ?_
    refine x_sld E h hX hbl hbA (i := 1) (j := 1) (by unfold vp_in; decide) (by decide) dL_law_575 ?_
    refine x_vi E h (na := 1) (As := [.int (xs 1)]) (kX12_worth_0 l g _ (xs 1) (mo1.2.2.2.2.2.2.1)) (oc_mo g) rfl gL_law_X12_worth rfl ⟨rfl, rfl⟩ rfl (by decide +kernel) ⟨Nat.le_of_ble_eq_true rfl, Nat.le_of_ble_eq_true rfl⟩ hl.1 rfl (Nat.le_of_ble_eq_true rfl) dL_law_576 ⟨Nat.le_of_ble_eq_true rfl, Nat.le_of_ble_eq_true rfl⟩ (fun r4 s4 H locs q4 h => ?_)
    rcases q4 with ⟨k4_0, k4_1, rfl⟩ | ⟨k4_0, k4_1, rfl⟩ | ⟨k4_0, rfl⟩
    · exact absurd trivial (fun _ => (bB_01 k4_0 k1_0))
    · exact absurd trivial (fun _ => (bB_eq0 k4_1 k1_0 (by decide)))
    refine lv_icmp_eq (tgt := 1066) hx hb dL_law_579 (by decide) (fun _ => ?_) (fun c => absurd (by decide) c)
    exact law_tail l E h hX hbl hbA hAw (lv_sub hl [0, 1, 2, 3] rfl)
set_option maxHeartbeats 4000000 in
set_option maxRecDepth 100000 in
theorem lawc_14 {p : Program} {e : Env} {s : State} {m : MethodId} {below : List Frame} {meth : Method} {c : Code} (l : Launch) {b : Nat} {xs : Nat → Int32} {g : CX} (E : EV p s m #[Value.ref b] meth c cL_law RL wsL_law 4 ret g) (hX : va_X b 5 xs s s.heap) (hbl : b < s.heap.size) (hbA : ¬ Aw g b) (hAw : ∀ q, Aw g q → s.heap.size ≤ q) {H : Heap} {ls : Array Slot} {locs : List Loc} (h : HW g σ0 s H locs) (hl : lv_has ls 4 [(3, .int 0), (2, .ref (g.2.1 79)), (1, .ref (g.2.1 0)), (0, .ref b)]) : W p l e room_1 s m #[Value.ref b] below meth c H locs 108 7415 (lw_Z below #[Value.ref b] s) (F0 m 584 ls []) := by
  have hx := E.1
  have hb := E.2.1
  have hown := E.2.2.2.1
  have hts := E.2.2.2.2.1
  refine lv_aload_n hx hb dL_law_584 rfl (lv_at hl 2 rfl) ?_
  refine lv_aload_n hx hb dL_law_585 rfl (lv_at hl 3 rfl) ?_
  refine lv_iload_n hx hb dL_law_586 rfl (lv_at hl 0 rfl) ?_
  refine lv_iconst (v := 1) hx hb dL_law_587 (by decide) ?_
  refine lv_iadd hx hb dL_law_588 ?_
  refine x_topI (v2 := 1) (by decide) ?_
  refine x_sld E h hX hbl hbA (i := 1) (j := 1) (by unfold vp_in; decide) (by decide) dL_law_589 ?_
  refine x_vi E h (na := 1) (As := [.int (xs 1)]) (kX11_near_0 l g _ (xs 1) rfl rfl rfl rfl rfl rfl rfl rfl rfl) (oc_vh g) rfl gL_law_X11_near rfl ⟨rfl, rfl⟩ rfl (by decide +kernel) ⟨Nat.le_of_ble_eq_true rfl, Nat.le_of_ble_eq_true rfl⟩ hl.1 rfl (Nat.le_of_ble_eq_true rfl) dL_law_590 ⟨Nat.le_of_ble_eq_true rfl, Nat.le_of_ble_eq_true rfl⟩ (fun r1 s1 H locs q1 h => ?_)
  rcases q1 with ⟨k1_0, k1_1, k1_2, k1_3, rfl, mo1⟩ | ⟨k1_0, k1_1, k1_2, k1_3, rfl, mo1⟩ | ⟨k1_0, k1_1, k1_2, rfl, mo1⟩ | ⟨k1_0, k1_1, k1_2, rfl, mo1⟩ | ⟨k1_0, k1_1, k1_2, rfl, mo1⟩ | ⟨k1_0, rfl, mo1⟩
  · skip
    refine lv_aload_n hx hb dL_law_593 rfl (lv_at hl 1 rfl) ?_
    refine lv_aload_n hx hb dL_law_594 rfl (lv_at hl 3 rfl) ?_
    refine lv_iload_n hx hb dL_law_595 rfl (lv_at hl 0 rfl) ?_
    refine lv_iconst (v := 1) hx hb dL_law_596 (by decide) ?_
    refine lv_iadd hx hb dL_law_597 ?_
    refine x_topI (v2 := 1) (by decide) ?_
    refine x_sld E h hX hbl hbA (i := 1) (j := 1) (by unfold vp_in; decide) (by decide) dL_law_598 ?_
    refine x_vi E h (na := 1) (As := [.int (xs 1)]) (kX12_near_0 l g _ (xs 1) (congrFun (mo1.2.2.2.2.2.2.2.2.2.2.2.2.2.2.2.2.1) 3) (mo1.2.2.2.2.2.2.1)) (oc_mo g) rfl gL_law_X12_near rfl ⟨rfl, rfl⟩ rfl (by decide +kernel) ⟨Nat.le_of_ble_eq_true rfl, Nat.le_of_ble_eq_true rfl⟩ hl.1 rfl (Nat.le_of_ble_eq_true rfl) dL_law_599 ⟨Nat.le_of_ble_eq_true rfl, Nat.le_of_ble_eq_true rfl⟩ (fun r2 s2 H locs q2 h => ?_)
    rcases q2 with ⟨k2_0, k2_1, k2_2, k2_3, rfl⟩ | ⟨k2_0, k2_1, k2_2, k2_3, rfl⟩ | ⟨k2_0, k2_1, k2_2, rfl⟩ | ⟨k2_0, k2_1, k2_2, rfl⟩ | ⟨k2_0, k2_1, k2_2, rfl⟩ | ⟨k2_0, rfl⟩
    · skip
      refine lv_icmp_eq (tgt := 1066) hx hb dL_law_602 (by decide) (fun _ => ?_) (fun c => absurd (by decide) c)
      exact law_tail l E h hX hbl hbA hAw (lv_sub hl [0, 1, 2, 3] rfl)
    · exact absurd trivial (fun _ => (k1_3 k2_3))
    · exact absurd trivial (fun _ => (k1_2 k2_2))
    · exact absurd trivial (fun _ => (k2_1 k1_1))
    · exact absurd trivial (fun _ => (k2_1 k1_1))
    · exact absurd trivial (fun _ => (bB_01 k1_0 k2_0))
  · skip
    refine lv_aload_n hx hb dL_law_593 rfl (lv_at hl 1 rfl) ?_
    refine lv_aload_n hx hb dL_law_594 rfl (lv_at hl 3 rfl) ?_
    refine lv_iload_n hx hb dL_law_595 rfl (lv_at hl 0 rfl) ?_
    refine lv_iconst (v := 1) hx hb dL_law_596 (by decide) ?_
    refine lv_iadd hx hb dL_law_597 ?_
    refine x_topI (v2 := 1) (by decide) ?_
    refine x_sld E h hX hbl hbA (i := 1) (j := 1) (by unfold vp_in; decide) (by decide) dL_law_598 ?_
    refine x_vi E h (na := 1) (As := [.int (xs 1)]) (kX12_near_0 l g _ (xs 1) (congrFun (mo1.2.2.2.2.2.2.2.2.2.2.2.2.2.2.2.2.1) 3) (mo1.2.2.2.2.2.2.1)) (oc_mo g) rfl gL_law_X12_near rfl ⟨rfl, rfl⟩ rfl (by decide +kernel) ⟨Nat.le_of_ble_eq_true rfl, Nat.le_of_ble_eq_true rfl⟩ hl.1 rfl (Nat.le_of_ble_eq_true rfl) dL_law_599 ⟨Nat.le_of_ble_eq_true rfl, Nat.le_of_ble_eq_true rfl⟩ (fun r3 s3 H locs q3 h => ?_)
    rcases q3 with ⟨k3_0, k3_1, k3_2, k3_3, rfl⟩ | ⟨k3_0, k3_1, k3_2, k3_3, rfl⟩ | ⟨k3_0, k3_1, k3_2, rfl⟩ | ⟨k3_0, k3_1, k3_2, rfl⟩ | ⟨k3_0, k3_1, k3_2, rfl⟩ | ⟨k3_0, rfl⟩
    · exact absurd trivial (fun _ => (k3_3 k1_3))
    · skip
      refine lv_icmp_eq (tgt := 1066) hx hb dL_law_602 (by decide) (fun _ => ?_) (fun c => absurd (by decide) c)
      exact law_tail l E h hX hbl hbA hAw (lv_sub hl [0, 1, 2, 3] rfl)
    · exact absurd trivial (fun _ => (k1_2 k3_2))
    · exact absurd trivial (fun _ => (k3_1 k1_1))
    · exact absurd trivial (fun _ => (absurd (k1_3.symm.trans k3_2) (by decide)))
    · exact absurd trivial (fun _ => (bB_01 k1_0 k3_0))
  · skip
    refine lv_aload_n hx hb dL_law_593 rfl (lv_at hl 1 rfl) ?_
    refine lv_aload_n hx hb dL_law_594 rfl (lv_at hl 3 rfl) ?_
    refine lv_iload_n hx hb dL_law_595 rfl (lv_at hl 0 rfl) ?_
    refine lv_iconst (v := 1) hx hb dL_law_596 (by decide) ?_
    refine lv_iadd hx hb dL_law_597 ?_
    refine x_topI (v2 := 1) (by decide) ?_
    refine x_sld E h hX hbl hbA (i := 1) (j := 1) (by unfold vp_in; decide) (by decide) dL_law_598 ?_
    refine x_vi E h (na := 1) (As := [.int (xs 1)]) (kX12_near_0 l g _ (xs 1) (congrFun (mo1.2.2.2.2.2.2.2.2.2.2.2.2.2.2.2.2.1) 3) (mo1.2.2.2.2.2.2.1)) (oc_mo g) rfl gL_law_X12_near rfl ⟨rfl, rfl⟩ rfl (by decide +kernel) ⟨Nat.le_of_ble_eq_true rfl, Nat.le_of_ble_eq_true rfl⟩ hl.1 rfl (Nat.le_of_ble_eq_true rfl) dL_law_599 ⟨Nat.le_of_ble_eq_true rfl, Nat.le_of_ble_eq_true rfl⟩ (fun r4 s4 H locs q4 h => ?_)
    rcases q4 with ⟨k4_0, k4_1, k4_2, k4_3, rfl⟩ | ⟨k4_0, k4_1, k4_2, k4_3, rfl⟩ | ⟨k4_0, k4_1, k4_2, rfl⟩ | ⟨k4_0, k4_1, k4_2, rfl⟩ | ⟨k4_0, k4_1, k4_2, rfl⟩ | ⟨k4_0, rfl⟩
    · exact absurd trivial (fun _ => (k4_2 k1_2))
    · exact absurd trivial (fun _ => (absurd (k1_2.symm.trans k4_3) (by decide)))
    · skip
      refine lv_icmp_eq (tgt := 1066) hx hb dL_law_602 (by decide) (fun _ => ?_) (fun c => absurd (by decide) c)
      exact law_tail l E h hX hbl hbA hAw (lv_sub hl [0, 1, 2, 3] rfl)
    · exact absurd trivial (fun _ => (k4_1 k1_1))
    · exact absurd trivial (fun _ => (absurd (k1_2.symm.trans k4_2) (by decide)))
    · exact absurd trivial (fun _ => (bB_01 k1_0 k4_0))
  · skip
    refine lv_aload_n hx hb dL_law_593 rfl (lv_at hl 1 rfl) ?_
    refine lv_aload_n hx hb dL_law_594 rfl (lv_at hl 3 rfl) ?_
    refine lv_iload_n hx hb dL_law_595 rfl (lv_at hl 0 rfl) ?_
    refine lv_iconst (v := 1) hx hb dL_law_596 (by decide) ?_
    refine lv_iadd hx hb dL_law_597 ?_
    refine x_topI (v2 := 1) (by decide) ?_
    refine x_sld E h hX hbl hbA (i := 1) (j := 1) (by unfold vp_in; decide) (by decide) dL_law_598 ?_
    refine x_vi E h (na := 1) (As := [.int (xs 1)]) (kX12_near_0 l g _ (xs 1) (congrFun (mo1.2.2.2.2.2.2.2.2.2.2.2.2.2.2.2.2.1) 3) (mo1.2.2.2.2.2.2.1)) (oc_mo g) rfl gL_law_X12_near rfl ⟨rfl, rfl⟩ rfl (by decide +kernel) ⟨Nat.le_of_ble_eq_true rfl, Nat.le_of_ble_eq_true rfl⟩ hl.1 rfl (Nat.le_of_ble_eq_true rfl) dL_law_599 ⟨Nat.le_of_ble_eq_true rfl, Nat.le_of_ble_eq_true rfl⟩ (fun r5 s5 H locs q5 h => ?_)
    rcases q5 with ⟨k5_0, k5_1, k5_2, k5_3, rfl⟩ | ⟨k5_0, k5_1, k5_2, k5_3, rfl⟩ | ⟨k5_0, k5_1, k5_2, rfl⟩ | ⟨k5_0, k5_1, k5_2, rfl⟩ | ⟨k5_0, k5_1, k5_2, rfl⟩ | ⟨k5_0, rfl⟩
    · exact absurd trivial (fun _ => (k1_1 k5_1))
    · exact absurd trivial (fun _ => (k1_1 k5_1))
    · exact absurd trivial (fun _ => (k1_1 k5_1))
    · skip
      refine lv_icmp_eq (tgt := 1066) hx hb dL_law_602 (by decide) (fun _ => ?_) (fun c => absurd (by decide) c)
      exact law_tail l E h hX hbl hbA hAw (lv_sub hl [0, 1, 2, 3] rfl)
    · skip
      refine lv_icmp_eq (tgt := 1066) hx hb dL_law_602 (by decide) (fun _ => ?_) (fun c => absurd (by decide) c)
      exact law_tail l E h hX hbl hbA hAw (lv_sub hl [0, 1, 2, 3] rfl)
    · exact absurd trivial (fun _ => (bB_01 k1_0 k5_0))
  · skip
    refine lv_aload_n hx hb dL_law_593 rfl (lv_at hl 1 rfl) ?_
    refine lv_aload_n hx hb dL_law_594 rfl (lv_at hl 3 rfl) ?_
    refine lv_iload_n hx hb dL_law_595 rfl (lv_at hl 0 rfl) ?_
    refine lv_iconst (v := 1) hx hb dL_law_596 (by decide) ?_
    refine lv_iadd hx hb dL_law_597 ?_
    refine x_topI (v2 := 1) (by decide) ?_
    refine x_sld E h hX hbl hbA (i := 1) (j := 1) (by unfold vp_in; decide) (by decide) dL_law_598 ?_
    refine x_vi E h (na := 1) (As := [.int (xs 1)]) (kX12_near_0 l g _ (xs 1) (congrFun (mo1.2.2.2.2.2.2.2.2.2.2.2.2.2.2.2.2.1) 3) (mo1.2.2.2.2.2.2.1)) (oc_mo g) rfl gL_law_X12_near rfl ⟨rfl, rfl⟩ rfl (by decide +kernel) ⟨Nat.le_of_ble_eq_true rfl, Nat.le_of_ble_eq_true rfl⟩ hl.1 rfl (Nat.le_of_ble_eq_true rfl) dL_law_599 ⟨Nat.le_of_ble_eq_true rfl, Nat.le_of_ble_eq_true rfl⟩ (fun r6 s6 H locs q6 h => ?_)
    rcases q6 with ⟨k6_0, k6_1, k6_2, k6_3, rfl⟩ | ⟨k6_0, k6_1, k6_2, k6_3, rfl⟩ | ⟨k6_0, k6_1, k6_2, rfl⟩ | ⟨k6_0, k6_1, k6_2, rfl⟩ | ⟨k6_0, k6_1, k6_2, rfl⟩ | ⟨k6_0, rfl⟩
    · exact absurd trivial (fun _ => (k1_1 k6_1))
    · exact absurd trivial (fun _ => (k1_1 k6_1))
    · exact absurd trivial (fun _ => (k1_1 k6_1))
    · skip
      refine lv_icmp_eq (tgt := 1066) hx hb dL_law_602 (by decide) (fun _ => ?_) (fun c => absurd (by decide) c)
      exact law_tail l E h hX hbl hbA hAw (lv_sub hl [0, 1, 2, 3] rfl)
    · skip
      refine lv_icmp_eq (tgt := 1066) hx hb dL_law_602 (by decide) (fun _ => ?_) (fun c => absurd (by decide) c)
      exact law_tail l E h hX hbl hbA hAw (lv_sub hl [0, 1, 2, 3] rfl)
    · exact absurd trivial (fun _ => (bB_01 k1_0 k6_0))
  · skip
    refine lv_aload_n hx hb dL_law_593 rfl (lv_at hl 1 rfl) ?_
    refine lv_aload_n hx hb dL_law_594 rfl (lv_at hl 3 rfl) ?_
    refine lv_iload_n hx hb dL_law_595 rfl (lv_at hl 0 rfl) ?_
    refine lv_iconst (v := 1) hx hb dL_law_596 (by decide) ?_
    refine lv_iadd hx hb dL_law_597 ?_
    refine x_topI (v2 := 1) (by decide) ?_
    refine x_sld E h hX hbl hbA (i := 1) (j := 1) (by unfold vp_in; decide) (by decide) dL_law_598 ?_
    refine x_vi E h (na := 1) (As := [.int (xs 1)]) (kX12_near_0 l g _ (xs 1) (congrFun (mo1.2.2.2.2.2.2.2.2.2.2.2.2.2.2.2.2.1) 3) (mo1.2.2.2.2.2.2.1)) (oc_mo g) rfl gL_law_X12_near rfl ⟨rfl, rfl⟩ rfl (by decide +kernel) ⟨Nat.le_of_ble_eq_true rfl, Nat.le_of_ble_eq_true rfl⟩ hl.1 rfl (Nat.le_of_ble_eq_true rfl) dL_law_599 ⟨Nat.le_of_ble_eq_true rfl, Nat.le_of_ble_eq_true rfl⟩ (fun r7 s7 H locs q7 h => ?_)
    rcases q7 with ⟨k7_0, k7_1, k7_2, k7_3, rfl⟩ | ⟨k7_0, k7_1, k7_2, k7_3, rfl⟩ | ⟨k7_0, k7_1, k7_2, rfl⟩ | ⟨k7_0, k7_1, k7_2, rfl⟩ | ⟨k7_0, k7_1, k7_2, rfl⟩ | ⟨k7_0, rfl⟩
    · exact absurd trivial (fun _ => (bB_01 k7_0 k1_0))
    · exact absurd trivial (fun _ => (bB_eq0 k7_3 k1_0 (by decide)))
    · exact absurd trivial (fun _ => (bB_eq0 k7_2 k1_0 (by decide)))
    · exact absurd trivial (fun _ => (bB_01 k7_0 k1_0))
    · exact absurd trivial (fun _ => (bB_eq0 k7_2 k1_0 (by decide)))
    refine lv_icmp_eq (tgt := 1066) hx hb dL_law_602 (by decide) (fun _ => ?_) (fun c => absurd (by decide) c)
    exact law_tail l E h hX hbl hbA hAw (lv_sub hl [0, 1, 2, 3] rfl)
set_option maxHeartbeats 4000000 in
set_option maxRecDepth 100000 in
theorem lawc_15 {p : Program} {e : Env} {s : State} {m : MethodId} {below : List Frame} {meth : Method} {c : Code} (l : Launch) {b : Nat} {xs : Nat → Int32} {g : CX} (E : EV p s m #[Value.ref b] meth c cL_law RL wsL_law 4 ret g) (hX : va_X b 5 xs s s.heap) (hbl : b < s.heap.size) (hbA : ¬ Aw g b) (hAw : ∀ q, Aw g q → s.heap.size ≤ q) {H : Heap} {ls : Array Slot} {locs : List Loc} (h : HW g σ0 s H locs) (hl : lv_has ls 4 [(3, .int 0), (2, .ref (g.2.1 79)), (1, .ref (g.2.1 0)), (0, .ref b)]) : W p l e room_1 s m #[Value.ref b] below meth c H locs 108 7415 (lw_Z below #[Value.ref b] s) (F0 m 607 ls []) := by
  have hx := E.1
  have hb := E.2.1
  have hown := E.2.2.2.1
  have hts := E.2.2.2.2.1
  refine lv_aload_n hx hb dL_law_607 rfl (lv_at hl 2 rfl) ?_
  refine lv_aload_n hx hb dL_law_608 rfl (lv_at hl 3 rfl) ?_
  refine lv_iload_n hx hb dL_law_609 rfl (lv_at hl 0 rfl) ?_
  refine lv_iconst (v := 1) hx hb dL_law_610 (by decide) ?_
  refine lv_iadd hx hb dL_law_611 ?_
  refine x_topI (v2 := 1) (by decide) ?_
  refine x_sld E h hX hbl hbA (i := 1) (j := 1) (by unfold vp_in; decide) (by decide) dL_law_612 ?_
  refine lv_aload_n hx hb dL_law_613 rfl (lv_at hl 3 rfl) ?_
  refine lv_iload_n hx hb dL_law_614 rfl (lv_at hl 0 rfl) ?_
  refine lv_iconst (v := 2) hx hb dL_law_615 (by decide) ?_
  refine lv_iadd hx hb dL_law_616 ?_
  refine x_topI (v2 := 2) (by decide) ?_
  refine x_sld E h hX hbl hbA (i := 2) (j := 2) (by unfold vp_in; decide) (by decide) dL_law_617 ?_
  refine x_vi E h (na := 2) (As := [.int (xs 1), .int (xs 2)]) (kX11_sure_0 l g _ (xs 1) (xs 2) rfl rfl rfl rfl) (oc_vh g) rfl gL_law_X11_sure rfl ⟨rfl, rfl⟩ rfl (by decide +kernel) ⟨Nat.le_of_ble_eq_true rfl, Nat.le_of_ble_eq_true rfl⟩ hl.1 rfl (Nat.le_of_ble_eq_true rfl) dL_law_618 ⟨Nat.le_of_ble_eq_true rfl, Nat.le_of_ble_eq_true rfl⟩ (fun r1 s1 H locs q1 h => ?_)
  rcases q1 with ⟨k1_0, rfl, mo1⟩
  refine lv_aload_n hx hb dL_law_621 rfl (lv_at hl 1 rfl) ?_
  refine lv_aload_n hx hb dL_law_622 rfl (lv_at hl 3 rfl) ?_
  refine lv_iload_n hx hb dL_law_623 rfl (lv_at hl 0 rfl) ?_
  refine lv_iconst (v := 1) hx hb dL_law_624 (by decide) ?_
  refine lv_iadd hx hb dL_law_625 ?_
  refine x_topI (v2 := 1) (by decide) ?_
  refine x_sld E h hX hbl hbA (i := 1) (j := 1) (by unfold vp_in; decide) (by decide) dL_law_626 ?_
  refine lv_aload_n hx hb dL_law_627 rfl (lv_at hl 3 rfl) ?_
  refine lv_iload_n hx hb dL_law_628 rfl (lv_at hl 0 rfl) ?_
  refine lv_iconst (v := 2) hx hb dL_law_629 (by decide) ?_
  refine lv_iadd hx hb dL_law_630 ?_
  refine x_topI (v2 := 2) (by decide) ?_
  refine x_sld E h hX hbl hbA (i := 2) (j := 2) (by unfold vp_in; decide) (by decide) dL_law_631 ?_
  refine x_vi E h (na := 2) (As := [.int (xs 1), .int (xs 2)]) (kX12_sure_0 l g _ (xs 1) (xs 2) (mo1.2.2.2.2.2.2.1)) (oc_mo g) rfl gL_law_X12_sure rfl ⟨rfl, rfl⟩ rfl (by decide +kernel) ⟨Nat.le_of_ble_eq_true rfl, Nat.le_of_ble_eq_true rfl⟩ hl.1 rfl (Nat.le_of_ble_eq_true rfl) dL_law_632 ⟨Nat.le_of_ble_eq_true rfl, Nat.le_of_ble_eq_true rfl⟩ (fun r2 s2 H locs q2 h => ?_)
  rcases q2 with ⟨k2_0, rfl⟩
  refine lv_icmp_eq (tgt := 1066) hx hb dL_law_635 (by decide) (fun _ => ?_) (fun c => absurd (by decide) c)
  exact law_tail l E h hX hbl hbA hAw (lv_sub hl [0, 1, 2, 3] rfl)
set_option maxHeartbeats 4000000 in
set_option maxRecDepth 100000 in
theorem lawc_16 {p : Program} {e : Env} {s : State} {m : MethodId} {below : List Frame} {meth : Method} {c : Code} (l : Launch) {b : Nat} {xs : Nat → Int32} {g : CX} (E : EV p s m #[Value.ref b] meth c cL_law RL wsL_law 4 ret g) (hX : va_X b 5 xs s s.heap) (hbl : b < s.heap.size) (hbA : ¬ Aw g b) (hAw : ∀ q, Aw g q → s.heap.size ≤ q) {H : Heap} {ls : Array Slot} {locs : List Loc} (h : HW g σ0 s H locs) (hl : lv_has ls 4 [(3, .int 0), (2, .ref (g.2.1 79)), (1, .ref (g.2.1 0)), (0, .ref b)]) : W p l e room_1 s m #[Value.ref b] below meth c H locs 108 7415 (lw_Z below #[Value.ref b] s) (F0 m 640 ls []) := by
  have hx := E.1
  have hb := E.2.1
  have hown := E.2.2.2.1
  have hts := E.2.2.2.2.1
  refine lv_aload_n hx hb dL_law_640 rfl (lv_at hl 2 rfl) ?_
  refine lv_aload_n hx hb dL_law_641 rfl (lv_at hl 3 rfl) ?_
  refine lv_iload_n hx hb dL_law_642 rfl (lv_at hl 0 rfl) ?_
  refine lv_iconst (v := 1) hx hb dL_law_643 (by decide) ?_
  refine lv_iadd hx hb dL_law_644 ?_
  refine x_topI (v2 := 1) (by decide) ?_
  refine x_sld E h hX hbl hbA (i := 1) (j := 1) (by unfold vp_in; decide) (by decide) dL_law_645 ?_
  refine lv_aload_n hx hb dL_law_646 rfl (lv_at hl 3 rfl) ?_
  refine lv_iload_n hx hb dL_law_647 rfl (lv_at hl 0 rfl) ?_
  refine lv_iconst (v := 2) hx hb dL_law_648 (by decide) ?_
  refine lv_iadd hx hb dL_law_649 ?_
  refine x_topI (v2 := 2) (by decide) ?_
  refine x_sld E h hX hbl hbA (i := 2) (j := 2) (by unfold vp_in; decide) (by decide) dL_law_650 ?_
  refine x_vi E h (na := 2) (As := [.int (xs 1), .int (xs 2)]) (kX11_middle_0 l g _ (xs 1) (xs 2) rfl rfl rfl rfl rfl rfl rfl) (oc_vh g) rfl gL_law_X11_middle rfl ⟨rfl, rfl⟩ rfl (by decide +kernel) ⟨Nat.le_of_ble_eq_true rfl, Nat.le_of_ble_eq_true rfl⟩ hl.1 rfl (Nat.le_of_ble_eq_true rfl) dL_law_651 ⟨Nat.le_of_ble_eq_true rfl, Nat.le_of_ble_eq_true rfl⟩ (fun r1 s1 H locs q1 h => ?_)
  rcases q1 with ⟨k1_0, k1_1, k1_2, rfl, mo1⟩ | ⟨k1_0, k1_1, rfl, mo1⟩ | ⟨k1_0, rfl, mo1⟩
  · skip
    refine lv_aload_n hx hb dL_law_654 rfl (lv_at hl 1 rfl) ?_
    refine lv_aload_n hx hb dL_law_655 rfl (lv_at hl 3 rfl) ?_
    refine lv_iload_n hx hb dL_law_656 rfl (lv_at hl 0 rfl) ?_
    refine lv_iconst (v := 1) hx hb dL_law_657 (by decide) ?_
    refine lv_iadd hx hb dL_law_658 ?_
    refine x_topI (v2 := 1) (by decide) ?_
    refine x_sld E h hX hbl hbA (i := 1) (j := 1) (by unfold vp_in; decide) (by decide) dL_law_659 ?_
    refine lv_aload_n hx hb dL_law_660 rfl (lv_at hl 3 rfl) ?_
    refine lv_iload_n hx hb dL_law_661 rfl (lv_at hl 0 rfl) ?_
    refine lv_iconst (v := 2) hx hb dL_law_662 (by decide) ?_
    refine lv_iadd hx hb dL_law_663 ?_
    refine x_topI (v2 := 2) (by decide) ?_
    refine x_sld E h hX hbl hbA (i := 2) (j := 2) (by unfold vp_in; decide) (by decide) dL_law_664 ?_
    refine x_vi E h (na := 2) (As := [.int (xs 1), .int (xs 2)]) (kX12_middle_0 l g _ (xs 1) (xs 2) (mo1.2.2.2.2.2.2.1)) (oc_mo g) rfl gL_law_X12_middle rfl ⟨rfl, rfl⟩ rfl (by decide +kernel) ⟨Nat.le_of_ble_eq_true rfl, Nat.le_of_ble_eq_true rfl⟩ hl.1 rfl (Nat.le_of_ble_eq_true rfl) dL_law_665 ⟨Nat.le_of_ble_eq_true rfl, Nat.le_of_ble_eq_true rfl⟩ (fun r2 s2 H locs q2 h => ?_)
    rcases q2 with ⟨k2_0, k2_1, rfl⟩ | ⟨k2_0, k2_1, rfl⟩ | ⟨k2_0, rfl⟩
    · skip
      refine lv_icmp_eq (tgt := 1066) hx hb dL_law_668 (by decide) (fun _ => ?_) (fun c => absurd (by decide) c)
      exact law_tail l E h hX hbl hbA hAw (lv_sub hl [0, 1, 2, 3] rfl)
    · exact absurd trivial (fun _ => (bB_01 k1_0 k2_1))
    · exact absurd trivial (fun _ => (bB_01 k1_1 k2_0))
  · skip
    refine lv_aload_n hx hb dL_law_654 rfl (lv_at hl 1 rfl) ?_
    refine lv_aload_n hx hb dL_law_655 rfl (lv_at hl 3 rfl) ?_
    refine lv_iload_n hx hb dL_law_656 rfl (lv_at hl 0 rfl) ?_
    refine lv_iconst (v := 1) hx hb dL_law_657 (by decide) ?_
    refine lv_iadd hx hb dL_law_658 ?_
    refine x_topI (v2 := 1) (by decide) ?_
    refine x_sld E h hX hbl hbA (i := 1) (j := 1) (by unfold vp_in; decide) (by decide) dL_law_659 ?_
    refine lv_aload_n hx hb dL_law_660 rfl (lv_at hl 3 rfl) ?_
    refine lv_iload_n hx hb dL_law_661 rfl (lv_at hl 0 rfl) ?_
    refine lv_iconst (v := 2) hx hb dL_law_662 (by decide) ?_
    refine lv_iadd hx hb dL_law_663 ?_
    refine x_topI (v2 := 2) (by decide) ?_
    refine x_sld E h hX hbl hbA (i := 2) (j := 2) (by unfold vp_in; decide) (by decide) dL_law_664 ?_
    refine x_vi E h (na := 2) (As := [.int (xs 1), .int (xs 2)]) (kX12_middle_0 l g _ (xs 1) (xs 2) (mo1.2.2.2.2.2.2.1)) (oc_mo g) rfl gL_law_X12_middle rfl ⟨rfl, rfl⟩ rfl (by decide +kernel) ⟨Nat.le_of_ble_eq_true rfl, Nat.le_of_ble_eq_true rfl⟩ hl.1 rfl (Nat.le_of_ble_eq_true rfl) dL_law_665 ⟨Nat.le_of_ble_eq_true rfl, Nat.le_of_ble_eq_true rfl⟩ (fun r3 s3 H locs q3 h => ?_)
    rcases q3 with ⟨k3_0, k3_1, rfl⟩ | ⟨k3_0, k3_1, rfl⟩ | ⟨k3_0, rfl⟩
    · exact absurd trivial (fun _ => (bB_01 k3_0 k1_1))
    · exact absurd trivial (fun _ => (bB_01 k1_0 k3_1))
    refine lv_icmp_eq (tgt := 1066) hx hb dL_law_668 (by decide) (fun _ => ?_) (fun c => absurd (by decide) c)
    exact law_tail l E h hX hbl hbA hAw (lv_sub hl [0, 1, 2, 3] rfl)
  · skip
    refine lv_aload_n hx hb dL_law_654 rfl (lv_at hl 1 rfl) ?_
    refine lv_aload_n hx hb dL_law_655 rfl (lv_at hl 3 rfl) ?_
    refine lv_iload_n hx hb dL_law_656 rfl (lv_at hl 0 rfl) ?_
    refine lv_iconst (v := 1) hx hb dL_law_657 (by decide) ?_
    refine lv_iadd hx hb dL_law_658 ?_
    refine x_topI (v2 := 1) (by decide) ?_
    refine x_sld E h hX hbl hbA (i := 1) (j := 1) (by unfold vp_in; decide) (by decide) dL_law_659 ?_
    refine lv_aload_n hx hb dL_law_660 rfl (lv_at hl 3 rfl) ?_
    refine lv_iload_n hx hb dL_law_661 rfl (lv_at hl 0 rfl) ?_
    refine lv_iconst (v := 2) hx hb dL_law_662 (by decide) ?_
    refine lv_iadd hx hb dL_law_663 ?_
    refine x_topI (v2 := 2) (by decide) ?_
    refine x_sld E h hX hbl hbA (i := 2) (j := 2) (by unfold vp_in; decide) (by decide) dL_law_664 ?_
    refine x_vi E h (na := 2) (As := [.int (xs 1), .int (xs 2)]) (kX12_middle_0 l g _ (xs 1) (xs 2) (mo1.2.2.2.2.2.2.1)) (oc_mo g) rfl gL_law_X12_middle rfl ⟨rfl, rfl⟩ rfl (by decide +kernel) ⟨Nat.le_of_ble_eq_true rfl, Nat.le_of_ble_eq_true rfl⟩ hl.1 rfl (Nat.le_of_ble_eq_true rfl) dL_law_665 ⟨Nat.le_of_ble_eq_true rfl, Nat.le_of_ble_eq_true rfl⟩ (fun r4 s4 H locs q4 h => ?_)
    rcases q4 with ⟨k4_0, k4_1, rfl⟩ | ⟨k4_0, k4_1, rfl⟩ | ⟨k4_0, rfl⟩
    · exact absurd trivial (fun _ => (bB_01 k4_1 k1_0))
    · skip
      refine lv_icmp_eq (tgt := 1066) hx hb dL_law_668 (by decide) (fun _ => ?_) (fun c => absurd (by decide) c)
      exact law_tail l E h hX hbl hbA hAw (lv_sub hl [0, 1, 2, 3] rfl)
    · skip
      refine lv_icmp_eq (tgt := 1066) hx hb dL_law_668 (by decide) (fun _ => ?_) (fun c => absurd (by decide) c)
      exact law_tail l E h hX hbl hbA hAw (lv_sub hl [0, 1, 2, 3] rfl)
set_option maxHeartbeats 4000000 in
set_option maxRecDepth 100000 in
theorem lawc_17 {p : Program} {e : Env} {s : State} {m : MethodId} {below : List Frame} {meth : Method} {c : Code} (l : Launch) {b : Nat} {xs : Nat → Int32} {g : CX} (E : EV p s m #[Value.ref b] meth c cL_law RL wsL_law 4 ret g) (hX : va_X b 5 xs s s.heap) (hbl : b < s.heap.size) (hbA : ¬ Aw g b) (hAw : ∀ q, Aw g q → s.heap.size ≤ q) {H : Heap} {ls : Array Slot} {locs : List Loc} (h : HW g σ0 s H locs) (hl : lv_has ls 4 [(3, .int 0), (2, .ref (g.2.1 79)), (1, .ref (g.2.1 0)), (0, .ref b)]) : W p l e room_1 s m #[Value.ref b] below meth c H locs 108 7415 (lw_Z below #[Value.ref b] s) (F0 m 673 ls []) := by
  have hx := E.1
  have hb := E.2.1
  have hown := E.2.2.2.1
  have hts := E.2.2.2.2.1
  refine lv_aload_n hx hb dL_law_673 rfl (lv_at hl 2 rfl) ?_
  refine lv_aload_n hx hb dL_law_674 rfl (lv_at hl 3 rfl) ?_
  refine lv_iload_n hx hb dL_law_675 rfl (lv_at hl 0 rfl) ?_
  refine lv_iconst (v := 1) hx hb dL_law_676 (by decide) ?_
  refine lv_iadd hx hb dL_law_677 ?_
  refine x_topI (v2 := 1) (by decide) ?_
  refine x_sld E h hX hbl hbA (i := 1) (j := 1) (by unfold vp_in; decide) (by decide) dL_law_678 ?_
  refine lv_aload_n hx hb dL_law_679 rfl (lv_at hl 3 rfl) ?_
  refine lv_iload_n hx hb dL_law_680 rfl (lv_at hl 0 rfl) ?_
  refine lv_iconst (v := 2) hx hb dL_law_681 (by decide) ?_
  refine lv_iadd hx hb dL_law_682 ?_
  refine x_topI (v2 := 2) (by decide) ?_
  refine x_sld E h hX hbl hbA (i := 2) (j := 2) (by unfold vp_in; decide) (by decide) dL_law_683 ?_
  refine x_vi E h (na := 2) (As := [.int (xs 1), .int (xs 2)]) (kX11_twice_0 l g _ (xs 1) (xs 2) rfl rfl rfl rfl) (oc_vh g) rfl gL_law_X11_twice rfl ⟨rfl, rfl⟩ rfl (by decide +kernel) ⟨Nat.le_of_ble_eq_true rfl, Nat.le_of_ble_eq_true rfl⟩ hl.1 rfl (Nat.le_of_ble_eq_true rfl) dL_law_684 ⟨Nat.le_of_ble_eq_true rfl, Nat.le_of_ble_eq_true rfl⟩ (fun r1 s1 H locs q1 h => ?_)
  rcases q1 with ⟨k1_0, rfl, mo1⟩
  refine lv_aload_n hx hb dL_law_687 rfl (lv_at hl 1 rfl) ?_
  refine lv_aload_n hx hb dL_law_688 rfl (lv_at hl 3 rfl) ?_
  refine lv_iload_n hx hb dL_law_689 rfl (lv_at hl 0 rfl) ?_
  refine lv_iconst (v := 1) hx hb dL_law_690 (by decide) ?_
  refine lv_iadd hx hb dL_law_691 ?_
  refine x_topI (v2 := 1) (by decide) ?_
  refine x_sld E h hX hbl hbA (i := 1) (j := 1) (by unfold vp_in; decide) (by decide) dL_law_692 ?_
  refine lv_aload_n hx hb dL_law_693 rfl (lv_at hl 3 rfl) ?_
  refine lv_iload_n hx hb dL_law_694 rfl (lv_at hl 0 rfl) ?_
  refine lv_iconst (v := 2) hx hb dL_law_695 (by decide) ?_
  refine lv_iadd hx hb dL_law_696 ?_
  refine x_topI (v2 := 2) (by decide) ?_
  refine x_sld E h hX hbl hbA (i := 2) (j := 2) (by unfold vp_in; decide) (by decide) dL_law_697 ?_
  refine x_vi E h (na := 2) (As := [.int (xs 1), .int (xs 2)]) (kX12_twice_0 l g _ (xs 1) (xs 2) (mo1.2.2.2.2.2.2.1)) (oc_mo g) rfl gL_law_X12_twice rfl ⟨rfl, rfl⟩ rfl (by decide +kernel) ⟨Nat.le_of_ble_eq_true rfl, Nat.le_of_ble_eq_true rfl⟩ hl.1 rfl (Nat.le_of_ble_eq_true rfl) dL_law_698 ⟨Nat.le_of_ble_eq_true rfl, Nat.le_of_ble_eq_true rfl⟩ (fun r2 s2 H locs q2 h => ?_)
  rcases q2 with ⟨k2_0, rfl⟩
  refine lv_icmp_eq (tgt := 1066) hx hb dL_law_701 (by decide) (fun _ => ?_) (fun c => absurd (by decide) c)
  exact law_tail l E h hX hbl hbA hAw (lv_sub hl [0, 1, 2, 3] rfl)
set_option maxHeartbeats 4000000 in
set_option maxRecDepth 100000 in
theorem lawc_18 {p : Program} {e : Env} {s : State} {m : MethodId} {below : List Frame} {meth : Method} {c : Code} (l : Launch) {b : Nat} {xs : Nat → Int32} {g : CX} (E : EV p s m #[Value.ref b] meth c cL_law RL wsL_law 4 ret g) (hX : va_X b 5 xs s s.heap) (hbl : b < s.heap.size) (hbA : ¬ Aw g b) (hAw : ∀ q, Aw g q → s.heap.size ≤ q) {H : Heap} {ls : Array Slot} {locs : List Loc} (h : HW g σ0 s H locs) (hl : lv_has ls 4 [(3, .int 0), (2, .ref (g.2.1 79)), (1, .ref (g.2.1 0)), (0, .ref b)]) : W p l e room_1 s m #[Value.ref b] below meth c H locs 108 7415 (lw_Z below #[Value.ref b] s) (F0 m 706 ls []) := by
  have hx := E.1
  have hb := E.2.1
  have hown := E.2.2.2.1
  have hts := E.2.2.2.2.1
  refine lv_aload_n hx hb dL_law_706 rfl (lv_at hl 2 rfl) ?_
  refine lv_aload_n hx hb dL_law_707 rfl (lv_at hl 3 rfl) ?_
  refine lv_iload_n hx hb dL_law_708 rfl (lv_at hl 0 rfl) ?_
  refine lv_iconst (v := 1) hx hb dL_law_709 (by decide) ?_
  refine lv_iadd hx hb dL_law_710 ?_
  refine x_topI (v2 := 1) (by decide) ?_
  refine x_sld E h hX hbl hbA (i := 1) (j := 1) (by unfold vp_in; decide) (by decide) dL_law_711 ?_
  refine lv_aload_n hx hb dL_law_712 rfl (lv_at hl 3 rfl) ?_
  refine lv_iload_n hx hb dL_law_713 rfl (lv_at hl 0 rfl) ?_
  refine lv_iconst (v := 2) hx hb dL_law_714 (by decide) ?_
  refine lv_iadd hx hb dL_law_715 ?_
  refine x_topI (v2 := 2) (by decide) ?_
  refine x_sld E h hX hbl hbA (i := 2) (j := 2) (by unfold vp_in; decide) (by decide) dL_law_716 ?_
  refine x_vi E h (na := 2) (As := [.int (xs 1), .int (xs 2)]) (kX11_keep_0 l g _ (xs 1) (xs 2) rfl rfl rfl rfl rfl rfl rfl) (oc_vh g) rfl gL_law_X11_keep rfl ⟨rfl, rfl⟩ rfl (by decide +kernel) ⟨Nat.le_of_ble_eq_true rfl, Nat.le_of_ble_eq_true rfl⟩ hl.1 rfl (Nat.le_of_ble_eq_true rfl) dL_law_717 ⟨Nat.le_of_ble_eq_true rfl, Nat.le_of_ble_eq_true rfl⟩ (fun r1 s1 H locs q1 h => ?_)
  rcases q1 with ⟨k1_0, k1_1, k1_2, rfl, mo1⟩ | ⟨k1_0, k1_1, rfl, mo1⟩ | ⟨k1_0, rfl, mo1⟩
  · skip
    refine lv_aload_n hx hb dL_law_720 rfl (lv_at hl 1 rfl) ?_
    refine lv_aload_n hx hb dL_law_721 rfl (lv_at hl 3 rfl) ?_
    refine lv_iload_n hx hb dL_law_722 rfl (lv_at hl 0 rfl) ?_
    refine lv_iconst (v := 1) hx hb dL_law_723 (by decide) ?_
    refine lv_iadd hx hb dL_law_724 ?_
    refine x_topI (v2 := 1) (by decide) ?_
    refine x_sld E h hX hbl hbA (i := 1) (j := 1) (by unfold vp_in; decide) (by decide) dL_law_725 ?_
    refine lv_aload_n hx hb dL_law_726 rfl (lv_at hl 3 rfl) ?_
    refine lv_iload_n hx hb dL_law_727 rfl (lv_at hl 0 rfl) ?_
    refine lv_iconst (v := 2) hx hb dL_law_728 (by decide) ?_
    refine lv_iadd hx hb dL_law_729 ?_
    refine x_topI (v2 := 2) (by decide) ?_
    refine x_sld E h hX hbl hbA (i := 2) (j := 2) (by unfold vp_in; decide) (by decide) dL_law_730 ?_
    refine x_vi E h (na := 2) (As := [.int (xs 1), .int (xs 2)]) (kX12_keep_0 l g _ (xs 1) (xs 2) (mo1.2.2.2.2.2.2.1)) (oc_mo g) rfl gL_law_X12_keep rfl ⟨rfl, rfl⟩ rfl (by decide +kernel) ⟨Nat.le_of_ble_eq_true rfl, Nat.le_of_ble_eq_true rfl⟩ hl.1 rfl (Nat.le_of_ble_eq_true rfl) dL_law_731 ⟨Nat.le_of_ble_eq_true rfl, Nat.le_of_ble_eq_true rfl⟩ (fun r2 s2 H locs q2 h => ?_)
    rcases q2 with ⟨k2_0, k2_1, rfl⟩ | ⟨k2_0, k2_1, rfl⟩ | ⟨k2_0, rfl⟩
    · skip
      refine lv_icmp_eq (tgt := 1066) hx hb dL_law_734 (by decide) (fun _ => ?_) (fun c => absurd (by decide) c)
      exact law_tail l E h hX hbl hbA hAw (lv_sub hl [0, 1, 2, 3] rfl)
    · exact absurd trivial (fun _ => (bB_01 k1_0 k2_1))
    · exact absurd trivial (fun _ => (bB_01 k1_1 k2_0))
  · skip
    refine lv_aload_n hx hb dL_law_720 rfl (lv_at hl 1 rfl) ?_
    refine lv_aload_n hx hb dL_law_721 rfl (lv_at hl 3 rfl) ?_
    refine lv_iload_n hx hb dL_law_722 rfl (lv_at hl 0 rfl) ?_
    refine lv_iconst (v := 1) hx hb dL_law_723 (by decide) ?_
    refine lv_iadd hx hb dL_law_724 ?_
    refine x_topI (v2 := 1) (by decide) ?_
    refine x_sld E h hX hbl hbA (i := 1) (j := 1) (by unfold vp_in; decide) (by decide) dL_law_725 ?_
    refine lv_aload_n hx hb dL_law_726 rfl (lv_at hl 3 rfl) ?_
    refine lv_iload_n hx hb dL_law_727 rfl (lv_at hl 0 rfl) ?_
    refine lv_iconst (v := 2) hx hb dL_law_728 (by decide) ?_
    refine lv_iadd hx hb dL_law_729 ?_
    refine x_topI (v2 := 2) (by decide) ?_
    refine x_sld E h hX hbl hbA (i := 2) (j := 2) (by unfold vp_in; decide) (by decide) dL_law_730 ?_
    refine x_vi E h (na := 2) (As := [.int (xs 1), .int (xs 2)]) (kX12_keep_0 l g _ (xs 1) (xs 2) (mo1.2.2.2.2.2.2.1)) (oc_mo g) rfl gL_law_X12_keep rfl ⟨rfl, rfl⟩ rfl (by decide +kernel) ⟨Nat.le_of_ble_eq_true rfl, Nat.le_of_ble_eq_true rfl⟩ hl.1 rfl (Nat.le_of_ble_eq_true rfl) dL_law_731 ⟨Nat.le_of_ble_eq_true rfl, Nat.le_of_ble_eq_true rfl⟩ (fun r3 s3 H locs q3 h => ?_)
    rcases q3 with ⟨k3_0, k3_1, rfl⟩ | ⟨k3_0, k3_1, rfl⟩ | ⟨k3_0, rfl⟩
    · exact absurd trivial (fun _ => (bB_01 k3_0 k1_1))
    · exact absurd trivial (fun _ => (bB_01 k1_0 k3_1))
    refine lv_icmp_eq (tgt := 1066) hx hb dL_law_734 (by decide) (fun _ => ?_) (fun c => absurd (by decide) c)
    exact law_tail l E h hX hbl hbA hAw (lv_sub hl [0, 1, 2, 3] rfl)
  · skip
    refine lv_aload_n hx hb dL_law_720 rfl (lv_at hl 1 rfl) ?_
    refine lv_aload_n hx hb dL_law_721 rfl (lv_at hl 3 rfl) ?_
    refine lv_iload_n hx hb dL_law_722 rfl (lv_at hl 0 rfl) ?_
    refine lv_iconst (v := 1) hx hb dL_law_723 (by decide) ?_
    refine lv_iadd hx hb dL_law_724 ?_
    refine x_topI (v2 := 1) (by decide) ?_
    refine x_sld E h hX hbl hbA (i := 1) (j := 1) (by unfold vp_in; decide) (by decide) dL_law_725 ?_
    refine lv_aload_n hx hb dL_law_726 rfl (lv_at hl 3 rfl) ?_
    refine lv_iload_n hx hb dL_law_727 rfl (lv_at hl 0 rfl) ?_
    refine lv_iconst (v := 2) hx hb dL_law_728 (by decide) ?_
    refine lv_iadd hx hb dL_law_729 ?_
    refine x_topI (v2 := 2) (by decide) ?_
    refine x_sld E h hX hbl hbA (i := 2) (j := 2) (by unfold vp_in; decide) (by decide) dL_law_730 ?_
    refine x_vi E h (na := 2) (As := [.int (xs 1), .int (xs 2)]) (kX12_keep_0 l g _ (xs 1) (xs 2) (mo1.2.2.2.2.2.2.1)) (oc_mo g) rfl gL_law_X12_keep rfl ⟨rfl, rfl⟩ rfl (by decide +kernel) ⟨Nat.le_of_ble_eq_true rfl, Nat.le_of_ble_eq_true rfl⟩ hl.1 rfl (Nat.le_of_ble_eq_true rfl) dL_law_731 ⟨Nat.le_of_ble_eq_true rfl, Nat.le_of_ble_eq_true rfl⟩ (fun r4 s4 H locs q4 h => ?_)
    rcases q4 with ⟨k4_0, k4_1, rfl⟩ | ⟨k4_0, k4_1, rfl⟩ | ⟨k4_0, rfl⟩
    · exact absurd trivial (fun _ => (bB_01 k4_1 k1_0))
    · skip
      refine lv_icmp_eq (tgt := 1066) hx hb dL_law_734 (by decide) (fun _ => ?_) (fun c => absurd (by decide) c)
      exact law_tail l E h hX hbl hbA hAw (lv_sub hl [0, 1, 2, 3] rfl)
    · skip
      refine lv_icmp_eq (tgt := 1066) hx hb dL_law_734 (by decide) (fun _ => ?_) (fun c => absurd (by decide) c)
      exact law_tail l E h hX hbl hbA hAw (lv_sub hl [0, 1, 2, 3] rfl)
set_option maxHeartbeats 4000000 in
set_option maxRecDepth 100000 in
theorem lawc_19 {p : Program} {e : Env} {s : State} {m : MethodId} {below : List Frame} {meth : Method} {c : Code} (l : Launch) {b : Nat} {xs : Nat → Int32} {g : CX} (E : EV p s m #[Value.ref b] meth c cL_law RL wsL_law 4 ret g) (hX : va_X b 5 xs s s.heap) (hbl : b < s.heap.size) (hbA : ¬ Aw g b) (hAw : ∀ q, Aw g q → s.heap.size ≤ q) {H : Heap} {ls : Array Slot} {locs : List Loc} (h : HW g σ0 s H locs) (hl : lv_has ls 4 [(3, .int 0), (2, .ref (g.2.1 79)), (1, .ref (g.2.1 0)), (0, .ref b)]) : W p l e room_1 s m #[Value.ref b] below meth c H locs 108 7415 (lw_Z below #[Value.ref b] s) (F0 m 739 ls []) := by
  have hx := E.1
  have hb := E.2.1
  have hown := E.2.2.2.1
  have hts := E.2.2.2.2.1
  refine lv_aload_n hx hb dL_law_739 rfl (lv_at hl 2 rfl) ?_
  refine lv_aload_n hx hb dL_law_740 rfl (lv_at hl 3 rfl) ?_
  refine lv_iload_n hx hb dL_law_741 rfl (lv_at hl 0 rfl) ?_
  refine lv_iconst (v := 1) hx hb dL_law_742 (by decide) ?_
  refine lv_iadd hx hb dL_law_743 ?_
  refine x_topI (v2 := 1) (by decide) ?_
  refine x_sld E h hX hbl hbA (i := 1) (j := 1) (by unfold vp_in; decide) (by decide) dL_law_744 ?_
  refine x_vi E h (na := 1) (As := [.int (xs 1)]) (kX11_forget_0 l g _ (xs 1) rfl) (oc_vh g) rfl gL_law_X11_forget rfl ⟨rfl, rfl⟩ rfl (by decide +kernel) ⟨Nat.le_of_ble_eq_true rfl, Nat.le_of_ble_eq_true rfl⟩ hl.1 rfl (Nat.le_of_ble_eq_true rfl) dL_law_745 ⟨Nat.le_of_ble_eq_true rfl, Nat.le_of_ble_eq_true rfl⟩ (fun r1 s1 H locs q1 h => ?_)
  rcases q1 with ⟨k1_0, rfl, mo1⟩ | ⟨k1_0, rfl, mo1⟩
  · skip
    refine lv_aload_n hx hb dL_law_748 rfl (lv_at hl 1 rfl) ?_
    refine lv_aload_n hx hb dL_law_749 rfl (lv_at hl 3 rfl) ?_
    refine lv_iload_n hx hb dL_law_750 rfl (lv_at hl 0 rfl) ?_
    refine lv_iconst (v := 1) hx hb dL_law_751 (by decide) ?_
    refine lv_iadd hx hb dL_law_752 ?_
    refine x_topI (v2 := 1) (by decide) ?_
    refine x_sld E h hX hbl hbA (i := 1) (j := 1) (by unfold vp_in; decide) (by decide) dL_law_753 ?_
    refine x_vi E h (na := 1) (As := [.int (xs 1)]) (kX12_forget_0 l g _ (xs 1) (mo1.2.2.2.2.2.2.2.2.2.2.2.2.2.2.2.1)) (oc_mo g) rfl gL_law_X12_forget rfl ⟨rfl, rfl⟩ rfl (by decide +kernel) ⟨Nat.le_of_ble_eq_true rfl, Nat.le_of_ble_eq_true rfl⟩ hl.1 rfl (Nat.le_of_ble_eq_true rfl) dL_law_754 ⟨Nat.le_of_ble_eq_true rfl, Nat.le_of_ble_eq_true rfl⟩ (fun r2 s2 H locs q2 h => ?_)
    rcases q2 with ⟨k2_0, rfl⟩
    refine lv_icmp_eq (tgt := 1066) hx hb dL_law_757 (by decide) (fun _ => ?_) (fun c => absurd (by decide) c)
    exact law_tail l E h hX hbl hbA hAw (lv_sub hl [0, 1, 2, 3] rfl)
  · skip
    refine lv_aload_n hx hb dL_law_748 rfl (lv_at hl 1 rfl) ?_
    refine lv_aload_n hx hb dL_law_749 rfl (lv_at hl 3 rfl) ?_
    refine lv_iload_n hx hb dL_law_750 rfl (lv_at hl 0 rfl) ?_
    refine lv_iconst (v := 1) hx hb dL_law_751 (by decide) ?_
    refine lv_iadd hx hb dL_law_752 ?_
    refine x_topI (v2 := 1) (by decide) ?_
    refine x_sld E h hX hbl hbA (i := 1) (j := 1) (by unfold vp_in; decide) (by decide) dL_law_753 ?_
    refine x_vi E h (na := 1) (As := [.int (xs 1)]) (kX12_forget_0 l g _ (xs 1) (mo1.2.2.2.2.2.2.2.2.2.2.2.2.2.2.2.1)) (oc_mo g) rfl gL_law_X12_forget rfl ⟨rfl, rfl⟩ rfl (by decide +kernel) ⟨Nat.le_of_ble_eq_true rfl, Nat.le_of_ble_eq_true rfl⟩ hl.1 rfl (Nat.le_of_ble_eq_true rfl) dL_law_754 ⟨Nat.le_of_ble_eq_true rfl, Nat.le_of_ble_eq_true rfl⟩ (fun r3 s3 H locs q3 h => ?_)
    rcases q3 with ⟨k3_0, rfl⟩
    refine lv_icmp_eq (tgt := 1066) hx hb dL_law_757 (by decide) (fun _ => ?_) (fun c => absurd (by decide) c)
    exact law_tail l E h hX hbl hbA hAw (lv_sub hl [0, 1, 2, 3] rfl)
set_option maxHeartbeats 4000000 in
set_option maxRecDepth 100000 in
theorem lawc_20 {p : Program} {e : Env} {s : State} {m : MethodId} {below : List Frame} {meth : Method} {c : Code} (l : Launch) {b : Nat} {xs : Nat → Int32} {g : CX} (E : EV p s m #[Value.ref b] meth c cL_law RL wsL_law 4 ret g) (hX : va_X b 5 xs s s.heap) (hbl : b < s.heap.size) (hbA : ¬ Aw g b) (hAw : ∀ q, Aw g q → s.heap.size ≤ q) {H : Heap} {ls : Array Slot} {locs : List Loc} (h : HW g σ0 s H locs) (hl : lv_has ls 4 [(3, .int 0), (2, .ref (g.2.1 79)), (1, .ref (g.2.1 0)), (0, .ref b)]) : W p l e room_1 s m #[Value.ref b] below meth c H locs 108 7415 (lw_Z below #[Value.ref b] s) (F0 m 762 ls []) := by
  have hx := E.1
  have hb := E.2.1
  have hown := E.2.2.2.1
  have hts := E.2.2.2.2.1
  refine lv_aload_n hx hb dL_law_762 rfl (lv_at hl 2 rfl) ?_
  refine lv_aload_n hx hb dL_law_763 rfl (lv_at hl 3 rfl) ?_
  refine lv_iload_n hx hb dL_law_764 rfl (lv_at hl 0 rfl) ?_
  refine lv_iconst (v := 1) hx hb dL_law_765 (by decide) ?_
  refine lv_iadd hx hb dL_law_766 ?_
  refine x_topI (v2 := 1) (by decide) ?_
  refine x_sld E h hX hbl hbA (i := 1) (j := 1) (by unfold vp_in; decide) (by decide) dL_law_767 ?_
  refine lv_aload_n hx hb dL_law_768 rfl (lv_at hl 3 rfl) ?_
  refine lv_iload_n hx hb dL_law_769 rfl (lv_at hl 0 rfl) ?_
  refine lv_iconst (v := 2) hx hb dL_law_770 (by decide) ?_
  refine lv_iadd hx hb dL_law_771 ?_
  refine x_topI (v2 := 2) (by decide) ?_
  refine x_sld E h hX hbl hbA (i := 2) (j := 2) (by unfold vp_in; decide) (by decide) dL_law_772 ?_
  refine x_vi E h (na := 2) (As := [.int (xs 1), .int (xs 2)]) (kX11_back_0 l g _ (xs 1) (xs 2) rfl rfl rfl rfl rfl rfl rfl) (oc_vh g) rfl gL_law_X11_back rfl ⟨rfl, rfl⟩ rfl (by decide +kernel) ⟨Nat.le_of_ble_eq_true rfl, Nat.le_of_ble_eq_true rfl⟩ hl.1 rfl (Nat.le_of_ble_eq_true rfl) dL_law_773 ⟨Nat.le_of_ble_eq_true rfl, Nat.le_of_ble_eq_true rfl⟩ (fun r1 s1 H locs q1 h => ?_)
  rcases q1 with ⟨k1_0, k1_1, k1_2, rfl, mo1⟩ | ⟨k1_0, k1_1, rfl, mo1⟩ | ⟨k1_0, rfl, mo1⟩
  · skip
    refine lv_aload_n hx hb dL_law_776 rfl (lv_at hl 1 rfl) ?_
    refine lv_aload_n hx hb dL_law_777 rfl (lv_at hl 3 rfl) ?_
    refine lv_iload_n hx hb dL_law_778 rfl (lv_at hl 0 rfl) ?_
    refine lv_iconst (v := 1) hx hb dL_law_779 (by decide) ?_
    refine lv_iadd hx hb dL_law_780 ?_
    refine x_topI (v2 := 1) (by decide) ?_
    refine x_sld E h hX hbl hbA (i := 1) (j := 1) (by unfold vp_in; decide) (by decide) dL_law_781 ?_
    refine lv_aload_n hx hb dL_law_782 rfl (lv_at hl 3 rfl) ?_
    refine lv_iload_n hx hb dL_law_783 rfl (lv_at hl 0 rfl) ?_
    refine lv_iconst (v := 2) hx hb dL_law_784 (by decide) ?_
    refine lv_iadd hx hb dL_law_785 ?_
    refine x_topI (v2 := 2) (by decide) ?_
    refine x_sld E h hX hbl hbA (i := 2) (j := 2) (by unfold vp_in; decide) (by decide) dL_law_786 ?_
    refine x_vi E h (na := 2) (As := [.int (xs 1), .int (xs 2)]) (kX12_back_0 l g _ (xs 1) (xs 2) (mo1.2.2.2.2.2.2.1)) (oc_mo g) rfl gL_law_X12_back rfl ⟨rfl, rfl⟩ rfl (by decide +kernel) ⟨Nat.le_of_ble_eq_true rfl, Nat.le_of_ble_eq_true rfl⟩ hl.1 rfl (Nat.le_of_ble_eq_true rfl) dL_law_787 ⟨Nat.le_of_ble_eq_true rfl, Nat.le_of_ble_eq_true rfl⟩ (fun r2 s2 H locs q2 h => ?_)
    rcases q2 with ⟨k2_0, k2_1, rfl⟩ | ⟨k2_0, k2_1, rfl⟩ | ⟨k2_0, rfl⟩
    · skip
      refine lv_icmp_eq (tgt := 1066) hx hb dL_law_790 (by decide) (fun _ => ?_) (fun c => absurd (by decide) c)
      exact law_tail l E h hX hbl hbA hAw (lv_sub hl [0, 1, 2, 3] rfl)
    · exact absurd trivial (fun _ => (bB_01 k1_0 k2_1))
    · exact absurd trivial (fun _ => (bB_01 k1_1 k2_0))
  · skip
    refine lv_aload_n hx hb dL_law_776 rfl (lv_at hl 1 rfl) ?_
    refine lv_aload_n hx hb dL_law_777 rfl (lv_at hl 3 rfl) ?_
    refine lv_iload_n hx hb dL_law_778 rfl (lv_at hl 0 rfl) ?_
    refine lv_iconst (v := 1) hx hb dL_law_779 (by decide) ?_
    refine lv_iadd hx hb dL_law_780 ?_
    refine x_topI (v2 := 1) (by decide) ?_
    refine x_sld E h hX hbl hbA (i := 1) (j := 1) (by unfold vp_in; decide) (by decide) dL_law_781 ?_
    refine lv_aload_n hx hb dL_law_782 rfl (lv_at hl 3 rfl) ?_
    refine lv_iload_n hx hb dL_law_783 rfl (lv_at hl 0 rfl) ?_
    refine lv_iconst (v := 2) hx hb dL_law_784 (by decide) ?_
    refine lv_iadd hx hb dL_law_785 ?_
    refine x_topI (v2 := 2) (by decide) ?_
    refine x_sld E h hX hbl hbA (i := 2) (j := 2) (by unfold vp_in; decide) (by decide) dL_law_786 ?_
    refine x_vi E h (na := 2) (As := [.int (xs 1), .int (xs 2)]) (kX12_back_0 l g _ (xs 1) (xs 2) (mo1.2.2.2.2.2.2.1)) (oc_mo g) rfl gL_law_X12_back rfl ⟨rfl, rfl⟩ rfl (by decide +kernel) ⟨Nat.le_of_ble_eq_true rfl, Nat.le_of_ble_eq_true rfl⟩ hl.1 rfl (Nat.le_of_ble_eq_true rfl) dL_law_787 ⟨Nat.le_of_ble_eq_true rfl, Nat.le_of_ble_eq_true rfl⟩ (fun r3 s3 H locs q3 h => ?_)
    rcases q3 with ⟨k3_0, k3_1, rfl⟩ | ⟨k3_0, k3_1, rfl⟩ | ⟨k3_0, rfl⟩
    · exact absurd trivial (fun _ => (bB_01 k3_0 k1_1))
    · exact absurd trivial (fun _ => (bB_01 k1_0 k3_1))
    refine lv_icmp_eq (tgt := 1066) hx hb dL_law_790 (by decide) (fun _ => ?_) (fun c => absurd (by decide) c)
    exact law_tail l E h hX hbl hbA hAw (lv_sub hl [0, 1, 2, 3] rfl)
  · skip
    refine lv_aload_n hx hb dL_law_776 rfl (lv_at hl 1 rfl) ?_
    refine lv_aload_n hx hb dL_law_777 rfl (lv_at hl 3 rfl) ?_
    refine lv_iload_n hx hb dL_law_778 rfl (lv_at hl 0 rfl) ?_
    refine lv_iconst (v := 1) hx hb dL_law_779 (by decide) ?_
    refine lv_iadd hx hb dL_law_780 ?_
    refine x_topI (v2 := 1) (by decide) ?_
    refine x_sld E h hX hbl hbA (i := 1) (j := 1) (by unfold vp_in; decide) (by decide) dL_law_781 ?_
    refine lv_aload_n hx hb dL_law_782 rfl (lv_at hl 3 rfl) ?_
    refine lv_iload_n hx hb dL_law_783 rfl (lv_at hl 0 rfl) ?_
    refine lv_iconst (v := 2) hx hb dL_law_784 (by decide) ?_
    refine lv_iadd hx hb dL_law_785 ?_
    refine x_topI (v2 := 2) (by decide) ?_
    refine x_sld E h hX hbl hbA (i := 2) (j := 2) (by unfold vp_in; decide) (by decide) dL_law_786 ?_
    refine x_vi E h (na := 2) (As := [.int (xs 1), .int (xs 2)]) (kX12_back_0 l g _ (xs 1) (xs 2) (mo1.2.2.2.2.2.2.1)) (oc_mo g) rfl gL_law_X12_back rfl ⟨rfl, rfl⟩ rfl (by decide +kernel) ⟨Nat.le_of_ble_eq_true rfl, Nat.le_of_ble_eq_true rfl⟩ hl.1 rfl (Nat.le_of_ble_eq_true rfl) dL_law_787 ⟨Nat.le_of_ble_eq_true rfl, Nat.le_of_ble_eq_true rfl⟩ (fun r4 s4 H locs q4 h => ?_)
    rcases q4 with ⟨k4_0, k4_1, rfl⟩ | ⟨k4_0, k4_1, rfl⟩ | ⟨k4_0, rfl⟩
    · exact absurd trivial (fun _ => (bB_01 k4_1 k1_0))
    · skip
      refine lv_icmp_eq (tgt := 1066) hx hb dL_law_790 (by decide) (fun _ => ?_) (fun c => absurd (by decide) c)
      exact law_tail l E h hX hbl hbA hAw (lv_sub hl [0, 1, 2, 3] rfl)
    · skip
      refine lv_icmp_eq (tgt := 1066) hx hb dL_law_790 (by decide) (fun _ => ?_) (fun c => absurd (by decide) c)
      exact law_tail l E h hX hbl hbA hAw (lv_sub hl [0, 1, 2, 3] rfl)
set_option maxHeartbeats 4000000 in
set_option maxRecDepth 100000 in
theorem lawc_21 {p : Program} {e : Env} {s : State} {m : MethodId} {below : List Frame} {meth : Method} {c : Code} (l : Launch) {b : Nat} {xs : Nat → Int32} {g : CX} (E : EV p s m #[Value.ref b] meth c cL_law RL wsL_law 4 ret g) (hX : va_X b 5 xs s s.heap) (hbl : b < s.heap.size) (hbA : ¬ Aw g b) (hAw : ∀ q, Aw g q → s.heap.size ≤ q) {H : Heap} {ls : Array Slot} {locs : List Loc} (h : HW g σ0 s H locs) (hl : lv_has ls 4 [(3, .int 0), (2, .ref (g.2.1 79)), (1, .ref (g.2.1 0)), (0, .ref b)]) : W p l e room_1 s m #[Value.ref b] below meth c H locs 108 7415 (lw_Z below #[Value.ref b] s) (F0 m 795 ls []) := by
  have hx := E.1
  have hb := E.2.1
  have hown := E.2.2.2.1
  have hts := E.2.2.2.2.1
  refine lv_aload_n hx hb dL_law_795 rfl (lv_at hl 2 rfl) ?_
  refine lv_aload_n hx hb dL_law_796 rfl (lv_at hl 3 rfl) ?_
  refine lv_iload_n hx hb dL_law_797 rfl (lv_at hl 0 rfl) ?_
  refine lv_iconst (v := 1) hx hb dL_law_798 (by decide) ?_
  refine lv_iadd hx hb dL_law_799 ?_
  refine x_topI (v2 := 1) (by decide) ?_
  refine x_sld E h hX hbl hbA (i := 1) (j := 1) (by unfold vp_in; decide) (by decide) dL_law_800 ?_
  refine lv_aload_n hx hb dL_law_801 rfl (lv_at hl 3 rfl) ?_
  refine lv_iload_n hx hb dL_law_802 rfl (lv_at hl 0 rfl) ?_
  refine lv_iconst (v := 2) hx hb dL_law_803 (by decide) ?_
  refine lv_iadd hx hb dL_law_804 ?_
  refine x_topI (v2 := 2) (by decide) ?_
  refine x_sld E h hX hbl hbA (i := 2) (j := 2) (by unfold vp_in; decide) (by decide) dL_law_805 ?_
  refine lv_aload_n hx hb dL_law_806 rfl (lv_at hl 3 rfl) ?_
  refine lv_iload_n hx hb dL_law_807 rfl (lv_at hl 0 rfl) ?_
  refine lv_iconst (v := 3) hx hb dL_law_808 (by decide) ?_
  refine lv_iadd hx hb dL_law_809 ?_
  refine x_topI (v2 := 3) (by decide) ?_
  refine x_sld E h hX hbl hbA (i := 3) (j := 3) (by unfold vp_in; decide) (by decide) dL_law_810 ?_
  refine x_vi E h (na := 3) (As := [.int (xs 1), .int (xs 2), .int (xs 3)]) (kX11_odds_0 l g _ (xs 1) (xs 2) (xs 3) rfl) (oc_vh g) rfl gL_law_X11_odds rfl ⟨rfl, rfl⟩ rfl (by decide +kernel) ⟨Nat.le_of_ble_eq_true rfl, Nat.le_of_ble_eq_true rfl⟩ hl.1 rfl (Nat.le_of_ble_eq_true rfl) dL_law_811 ⟨Nat.le_of_ble_eq_true rfl, Nat.le_of_ble_eq_true rfl⟩ (fun r1 s1 H locs q1 h => ?_)
  rcases q1 with ⟨k1_0, k1_1, rfl, mo1⟩ | ⟨k1_0, k1_1, rfl, mo1⟩ | ⟨k1_0, rfl, mo1⟩
  · skip
    refine lv_aload_n hx hb dL_law_814 rfl (lv_at hl 1 rfl) ?_
    refine lv_aload_n hx hb dL_law_815 rfl (lv_at hl 3 rfl) ?_
    refine lv_iload_n hx hb dL_law_816 rfl (lv_at hl 0 rfl) ?_
    refine lv_iconst (v := 1) hx hb dL_law_817 (by decide) ?_
    refine lv_iadd hx hb dL_law_818 ?_
    refine x_topI (v2 := 1) (by decide) ?_
    refine x_sld E h hX hbl hbA (i := 1) (j := 1) (by unfold vp_in; decide) (by decide) dL_law_819 ?_
    refine lv_aload_n hx hb dL_law_820 rfl (lv_at hl 3 rfl) ?_
    refine lv_iload_n hx hb dL_law_821 rfl (lv_at hl 0 rfl) ?_
    refine lv_iconst (v := 2) hx hb dL_law_822 (by decide) ?_
    refine lv_iadd hx hb dL_law_823 ?_
    refine x_topI (v2 := 2) (by decide) ?_
    refine x_sld E h hX hbl hbA (i := 2) (j := 2) (by unfold vp_in; decide) (by decide) dL_law_824 ?_
    refine lv_aload_n hx hb dL_law_825 rfl (lv_at hl 3 rfl) ?_
    refine lv_iload_n hx hb dL_law_826 rfl (lv_at hl 0 rfl) ?_
    refine lv_iconst (v := 3) hx hb dL_law_827 (by decide) ?_
    refine lv_iadd hx hb dL_law_828 ?_
    refine x_topI (v2 := 3) (by decide) ?_
    refine x_sld E h hX hbl hbA (i := 3) (j := 3) (by unfold vp_in; decide) (by decide) dL_law_829 ?_
    refine x_vi E h (na := 3) (As := [.int (xs 1), .int (xs 2), .int (xs 3)]) (kX12_odds_0 l g _ (xs 1) (xs 2) (xs 3) (mo1.2.2.2.2.2.2.2.2.2.2.2.2.2.2.2.1)) (oc_mo g) rfl gL_law_X12_odds rfl ⟨rfl, rfl⟩ rfl (by decide +kernel) ⟨Nat.le_of_ble_eq_true rfl, Nat.le_of_ble_eq_true rfl⟩ hl.1 rfl (Nat.le_of_ble_eq_true rfl) dL_law_830 ⟨Nat.le_of_ble_eq_true rfl, Nat.le_of_ble_eq_true rfl⟩ (fun r2 s2 H locs q2 h => ?_)
    rcases q2 with ⟨k2_0, rfl⟩
    refine lv_icmp_eq (tgt := 1066) hx hb dL_law_833 (by decide) (fun _ => ?_) (fun c => absurd (by decide) c)
    exact law_tail l E h hX hbl hbA hAw (lv_sub hl [0, 1, 2, 3] rfl)
  · skip
    refine lv_aload_n hx hb dL_law_814 rfl (lv_at hl 1 rfl) ?_
    refine lv_aload_n hx hb dL_law_815 rfl (lv_at hl 3 rfl) ?_
    refine lv_iload_n hx hb dL_law_816 rfl (lv_at hl 0 rfl) ?_
    refine lv_iconst (v := 1) hx hb dL_law_817 (by decide) ?_
    refine lv_iadd hx hb dL_law_818 ?_
    refine x_topI (v2 := 1) (by decide) ?_
    refine x_sld E h hX hbl hbA (i := 1) (j := 1) (by unfold vp_in; decide) (by decide) dL_law_819 ?_
    refine lv_aload_n hx hb dL_law_820 rfl (lv_at hl 3 rfl) ?_
    refine lv_iload_n hx hb dL_law_821 rfl (lv_at hl 0 rfl) ?_
    refine lv_iconst (v := 2) hx hb dL_law_822 (by decide) ?_
    refine lv_iadd hx hb dL_law_823 ?_
    refine x_topI (v2 := 2) (by decide) ?_
    refine x_sld E h hX hbl hbA (i := 2) (j := 2) (by unfold vp_in; decide) (by decide) dL_law_824 ?_
    refine lv_aload_n hx hb dL_law_825 rfl (lv_at hl 3 rfl) ?_
    refine lv_iload_n hx hb dL_law_826 rfl (lv_at hl 0 rfl) ?_
    refine lv_iconst (v := 3) hx hb dL_law_827 (by decide) ?_
    refine lv_iadd hx hb dL_law_828 ?_
    refine x_topI (v2 := 3) (by decide) ?_
    refine x_sld E h hX hbl hbA (i := 3) (j := 3) (by unfold vp_in; decide) (by decide) dL_law_829 ?_
    refine x_vi E h (na := 3) (As := [.int (xs 1), .int (xs 2), .int (xs 3)]) (kX12_odds_0 l g _ (xs 1) (xs 2) (xs 3) (mo1.2.2.2.2.2.2.2.2.2.2.2.2.2.2.2.1)) (oc_mo g) rfl gL_law_X12_odds rfl ⟨rfl, rfl⟩ rfl (by decide +kernel) ⟨Nat.le_of_ble_eq_true rfl, Nat.le_of_ble_eq_true rfl⟩ hl.1 rfl (Nat.le_of_ble_eq_true rfl) dL_law_830 ⟨Nat.le_of_ble_eq_true rfl, Nat.le_of_ble_eq_true rfl⟩ (fun r3 s3 H locs q3 h => ?_)
    rcases q3 with ⟨k3_0, rfl⟩
    refine lv_icmp_eq (tgt := 1066) hx hb dL_law_833 (by decide) (fun _ => ?_) (fun c => absurd (by decide) c)
    exact law_tail l E h hX hbl hbA hAw (lv_sub hl [0, 1, 2, 3] rfl)
  · skip
    refine lv_aload_n hx hb dL_law_814 rfl (lv_at hl 1 rfl) ?_
    refine lv_aload_n hx hb dL_law_815 rfl (lv_at hl 3 rfl) ?_
    refine lv_iload_n hx hb dL_law_816 rfl (lv_at hl 0 rfl) ?_
    refine lv_iconst (v := 1) hx hb dL_law_817 (by decide) ?_
    refine lv_iadd hx hb dL_law_818 ?_
    refine x_topI (v2 := 1) (by decide) ?_
    refine x_sld E h hX hbl hbA (i := 1) (j := 1) (by unfold vp_in; decide) (by decide) dL_law_819 ?_
    refine lv_aload_n hx hb dL_law_820 rfl (lv_at hl 3 rfl) ?_
    refine lv_iload_n hx hb dL_law_821 rfl (lv_at hl 0 rfl) ?_
    refine lv_iconst (v := 2) hx hb dL_law_822 (by decide) ?_
    refine lv_iadd hx hb dL_law_823 ?_
    refine x_topI (v2 := 2) (by decide) ?_
    refine x_sld E h hX hbl hbA (i := 2) (j := 2) (by unfold vp_in; decide) (by decide) dL_law_824 ?_
    refine lv_aload_n hx hb dL_law_825 rfl (lv_at hl 3 rfl) ?_
    refine lv_iload_n hx hb dL_law_826 rfl (lv_at hl 0 rfl) ?_
    refine lv_iconst (v := 3) hx hb dL_law_827 (by decide) ?_
    refine lv_iadd hx hb dL_law_828 ?_
    refine x_topI (v2 := 3) (by decide) ?_
    refine x_sld E h hX hbl hbA (i := 3) (j := 3) (by unfold vp_in; decide) (by decide) dL_law_829 ?_
    refine x_vi E h (na := 3) (As := [.int (xs 1), .int (xs 2), .int (xs 3)]) (kX12_odds_0 l g _ (xs 1) (xs 2) (xs 3) (mo1.2.2.2.2.2.2.2.2.2.2.2.2.2.2.2.1)) (oc_mo g) rfl gL_law_X12_odds rfl ⟨rfl, rfl⟩ rfl (by decide +kernel) ⟨Nat.le_of_ble_eq_true rfl, Nat.le_of_ble_eq_true rfl⟩ hl.1 rfl (Nat.le_of_ble_eq_true rfl) dL_law_830 ⟨Nat.le_of_ble_eq_true rfl, Nat.le_of_ble_eq_true rfl⟩ (fun r4 s4 H locs q4 h => ?_)
    rcases q4 with ⟨k4_0, rfl⟩
    refine lv_icmp_eq (tgt := 1066) hx hb dL_law_833 (by decide) (fun _ => ?_) (fun c => absurd (by decide) c)
    exact law_tail l E h hX hbl hbA hAw (lv_sub hl [0, 1, 2, 3] rfl)
set_option maxHeartbeats 4000000 in
set_option maxRecDepth 100000 in
theorem lawc_22 {p : Program} {e : Env} {s : State} {m : MethodId} {below : List Frame} {meth : Method} {c : Code} (l : Launch) {b : Nat} {xs : Nat → Int32} {g : CX} (E : EV p s m #[Value.ref b] meth c cL_law RL wsL_law 4 ret g) (hX : va_X b 5 xs s s.heap) (hbl : b < s.heap.size) (hbA : ¬ Aw g b) (hAw : ∀ q, Aw g q → s.heap.size ≤ q) {H : Heap} {ls : Array Slot} {locs : List Loc} (h : HW g σ0 s H locs) (hl : lv_has ls 4 [(3, .int 0), (2, .ref (g.2.1 79)), (1, .ref (g.2.1 0)), (0, .ref b)]) : W p l e room_1 s m #[Value.ref b] below meth c H locs 108 7415 (lw_Z below #[Value.ref b] s) (F0 m 838 ls []) := by
  have hx := E.1
  have hb := E.2.1
  have hown := E.2.2.2.1
  have hts := E.2.2.2.2.1
  refine lv_aload_n hx hb dL_law_838 rfl (lv_at hl 2 rfl) ?_
  refine x_vi E h (na := 0) (As := []) (kX11_show_0 l g _  rfl rfl rfl rfl rfl rfl rfl) (oc_vh g) rfl gL_law_X11_show rfl ⟨rfl, rfl⟩ rfl (by decide +kernel) ⟨Nat.le_of_ble_eq_true rfl, Nat.le_of_ble_eq_true rfl⟩ hl.1 rfl (Nat.le_of_ble_eq_true rfl) dL_law_839 ⟨Nat.le_of_ble_eq_true rfl, Nat.le_of_ble_eq_true rfl⟩ (fun r1 s1 H locs q1 h => ?_)
  rcases q1 with ⟨rfl, mo1⟩
  refine lv_aload_n hx hb dL_law_842 rfl (lv_at hl 1 rfl) ?_
  refine x_vi E h (na := 0) (As := []) (kX12_show_0 l g _  (mo1.2.2.2.2.2.2.1)) (oc_mo g) rfl gL_law_X12_show rfl ⟨rfl, rfl⟩ rfl (by decide +kernel) ⟨Nat.le_of_ble_eq_true rfl, Nat.le_of_ble_eq_true rfl⟩ hl.1 rfl (Nat.le_of_ble_eq_true rfl) dL_law_843 ⟨Nat.le_of_ble_eq_true rfl, Nat.le_of_ble_eq_true rfl⟩ (fun r2 s2 H locs q2 h => ?_)
  rcases q2 with rfl
  refine lv_icmp_eq (tgt := 1066) hx hb dL_law_846 (by decide) (fun _ => ?_) (fun c => absurd (by decide) c)
  exact law_tail l E h hX hbl hbA hAw (lv_sub hl [0, 1, 2, 3] rfl)
set_option maxHeartbeats 4000000 in
set_option maxRecDepth 100000 in
theorem lawc_23 {p : Program} {e : Env} {s : State} {m : MethodId} {below : List Frame} {meth : Method} {c : Code} (l : Launch) {b : Nat} {xs : Nat → Int32} {g : CX} (E : EV p s m #[Value.ref b] meth c cL_law RL wsL_law 4 ret g) (hX : va_X b 5 xs s s.heap) (hbl : b < s.heap.size) (hbA : ¬ Aw g b) (hAw : ∀ q, Aw g q → s.heap.size ≤ q) {H : Heap} {ls : Array Slot} {locs : List Loc} (h : HW g σ0 s H locs) (hl : lv_has ls 4 [(3, .int 0), (2, .ref (g.2.1 79)), (1, .ref (g.2.1 0)), (0, .ref b)]) : W p l e room_1 s m #[Value.ref b] below meth c H locs 108 7415 (lw_Z below #[Value.ref b] s) (F0 m 851 ls []) := by
  have hx := E.1
  have hb := E.2.1
  have hown := E.2.2.2.1
  have hts := E.2.2.2.2.1
  refine lv_aload_n hx hb dL_law_851 rfl (lv_at hl 2 rfl) ?_
  refine x_vi E h (na := 0) (As := []) (kX11_otherwise_0 l g _  rfl) (oc_vh g) rfl gL_law_X11_otherwise rfl ⟨rfl, rfl⟩ rfl (by decide +kernel) ⟨Nat.le_of_ble_eq_true rfl, Nat.le_of_ble_eq_true rfl⟩ hl.1 rfl (Nat.le_of_ble_eq_true rfl) dL_law_852 ⟨Nat.le_of_ble_eq_true rfl, Nat.le_of_ble_eq_true rfl⟩ (fun r1 s1 H locs q1 h => ?_)
  rcases q1 with ⟨rfl, mo1⟩
  refine lv_aload_n hx hb dL_law_855 rfl (lv_at hl 1 rfl) ?_
  refine x_vi E h (na := 0) (As := []) (kX12_otherwise_0 l g _  (mo1.2.2.2.2.2.2.2.2.2.1)) (oc_mo g) rfl gL_law_X12_otherwise rfl ⟨rfl, rfl⟩ rfl (by decide +kernel) ⟨Nat.le_of_ble_eq_true rfl, Nat.le_of_ble_eq_true rfl⟩ hl.1 rfl (Nat.le_of_ble_eq_true rfl) dL_law_856 ⟨Nat.le_of_ble_eq_true rfl, Nat.le_of_ble_eq_true rfl⟩ (fun r2 s2 H locs q2 h => ?_)
  rcases q2 with rfl
  refine lv_icmp_eq (tgt := 1066) hx hb dL_law_859 (by decide) (fun _ => ?_) (fun c => absurd (by decide) c)
  exact law_tail l E h hX hbl hbA hAw (lv_sub hl [0, 1, 2, 3] rfl)
set_option maxHeartbeats 4000000 in
set_option maxRecDepth 100000 in
theorem lawc_24 {p : Program} {e : Env} {s : State} {m : MethodId} {below : List Frame} {meth : Method} {c : Code} (l : Launch) {b : Nat} {xs : Nat → Int32} {g : CX} (E : EV p s m #[Value.ref b] meth c cL_law RL wsL_law 4 ret g) (hX : va_X b 5 xs s s.heap) (hbl : b < s.heap.size) (hbA : ¬ Aw g b) (hAw : ∀ q, Aw g q → s.heap.size ≤ q) {H : Heap} {ls : Array Slot} {locs : List Loc} (h : HW g σ0 s H locs) (hl : lv_has ls 4 [(3, .int 0), (2, .ref (g.2.1 79)), (1, .ref (g.2.1 0)), (0, .ref b)]) : W p l e room_1 s m #[Value.ref b] below meth c H locs 108 7415 (lw_Z below #[Value.ref b] s) (F0 m 864 ls []) := by
  have hx := E.1
  have hb := E.2.1
  have hown := E.2.2.2.1
  have hts := E.2.2.2.2.1
  refine lv_aload_n hx hb dL_law_864 rfl (lv_at hl 2 rfl) ?_
  refine lv_aload_n hx hb dL_law_865 rfl (lv_at hl 3 rfl) ?_
  refine lv_iload_n hx hb dL_law_866 rfl (lv_at hl 0 rfl) ?_
  refine lv_iconst (v := 1) hx hb dL_law_867 (by decide) ?_
  refine lv_iadd hx hb dL_law_868 ?_
  refine x_topI (v2 := 1) (by decide) ?_
  refine x_sld E h hX hbl hbA (i := 1) (j := 1) (by unfold vp_in; decide) (by decide) dL_law_869 ?_
  refine lv_aload_n hx hb dL_law_870 rfl (lv_at hl 3 rfl) ?_
  refine lv_iload_n hx hb dL_law_871 rfl (lv_at hl 0 rfl) ?_
  refine lv_iconst (v := 2) hx hb dL_law_872 (by decide) ?_
  refine lv_iadd hx hb dL_law_873 ?_
  refine x_topI (v2 := 2) (by decide) ?_
  refine x_sld E h hX hbl hbA (i := 2) (j := 2) (by unfold vp_in; decide) (by decide) dL_law_874 ?_
  refine x_vi E h (na := 2) (As := [.int (xs 1), .int (xs 2)]) (kX11_word_0 l g _ (xs 1) (xs 2) rfl) (oc_vh g) rfl gL_law_X11_word rfl ⟨rfl, rfl⟩ rfl (by decide +kernel) ⟨Nat.le_of_ble_eq_true rfl, Nat.le_of_ble_eq_true rfl⟩ hl.1 rfl (Nat.le_of_ble_eq_true rfl) dL_law_875 ⟨Nat.le_of_ble_eq_true rfl, Nat.le_of_ble_eq_true rfl⟩ (fun r1 s1 H locs q1 h => ?_)
  rcases q1 with ⟨rfl, mo1⟩
  refine lv_aload_n hx hb dL_law_878 rfl (lv_at hl 1 rfl) ?_
  refine lv_aload_n hx hb dL_law_879 rfl (lv_at hl 3 rfl) ?_
  refine lv_iload_n hx hb dL_law_880 rfl (lv_at hl 0 rfl) ?_
  refine lv_iconst (v := 1) hx hb dL_law_881 (by decide) ?_
  refine lv_iadd hx hb dL_law_882 ?_
  refine x_topI (v2 := 1) (by decide) ?_
  refine x_sld E h hX hbl hbA (i := 1) (j := 1) (by unfold vp_in; decide) (by decide) dL_law_883 ?_
  refine lv_aload_n hx hb dL_law_884 rfl (lv_at hl 3 rfl) ?_
  refine lv_iload_n hx hb dL_law_885 rfl (lv_at hl 0 rfl) ?_
  refine lv_iconst (v := 2) hx hb dL_law_886 (by decide) ?_
  refine lv_iadd hx hb dL_law_887 ?_
  refine x_topI (v2 := 2) (by decide) ?_
  refine x_sld E h hX hbl hbA (i := 2) (j := 2) (by unfold vp_in; decide) (by decide) dL_law_888 ?_
  refine x_vi E h (na := 2) (As := [.int (xs 1), .int (xs 2)]) (kX12_word_0 l g _ (xs 1) (xs 2) (mo1.2.2.2.2.2.2.1)) (oc_mo g) rfl gL_law_X12_word rfl ⟨rfl, rfl⟩ rfl (by decide +kernel) ⟨Nat.le_of_ble_eq_true rfl, Nat.le_of_ble_eq_true rfl⟩ hl.1 rfl (Nat.le_of_ble_eq_true rfl) dL_law_889 ⟨Nat.le_of_ble_eq_true rfl, Nat.le_of_ble_eq_true rfl⟩ (fun r2 s2 H locs q2 h => ?_)
  rcases q2 with ⟨k2_0, rfl⟩
  refine lv_icmp_eq (tgt := 1066) hx hb dL_law_892 (by decide) (fun _ => ?_) (fun c => absurd (by decide) c)
  exact law_tail l E h hX hbl hbA hAw (lv_sub hl [0, 1, 2, 3] rfl)
set_option maxHeartbeats 4000000 in
set_option maxRecDepth 100000 in
theorem lawc_25 {p : Program} {e : Env} {s : State} {m : MethodId} {below : List Frame} {meth : Method} {c : Code} (l : Launch) {b : Nat} {xs : Nat → Int32} {g : CX} (E : EV p s m #[Value.ref b] meth c cL_law RL wsL_law 4 ret g) (hX : va_X b 5 xs s s.heap) (hbl : b < s.heap.size) (hbA : ¬ Aw g b) (hAw : ∀ q, Aw g q → s.heap.size ≤ q) {H : Heap} {ls : Array Slot} {locs : List Loc} (h : HW g σ0 s H locs) (hl : lv_has ls 4 [(3, .int 0), (2, .ref (g.2.1 79)), (1, .ref (g.2.1 0)), (0, .ref b)]) : W p l e room_1 s m #[Value.ref b] below meth c H locs 108 7415 (lw_Z below #[Value.ref b] s) (F0 m 897 ls []) := by
  have hx := E.1
  have hb := E.2.1
  have hown := E.2.2.2.1
  have hts := E.2.2.2.2.1
  refine lv_aload_n hx hb dL_law_897 rfl (lv_at hl 2 rfl) ?_
  refine lv_aload_n hx hb dL_law_898 rfl (lv_at hl 3 rfl) ?_
  refine lv_iload_n hx hb dL_law_899 rfl (lv_at hl 0 rfl) ?_
  refine lv_iconst (v := 1) hx hb dL_law_900 (by decide) ?_
  refine lv_iadd hx hb dL_law_901 ?_
  refine x_topI (v2 := 1) (by decide) ?_
  refine x_sld E h hX hbl hbA (i := 1) (j := 1) (by unfold vp_in; decide) (by decide) dL_law_902 ?_
  refine lv_aload_n hx hb dL_law_903 rfl (lv_at hl 3 rfl) ?_
  refine lv_iload_n hx hb dL_law_904 rfl (lv_at hl 0 rfl) ?_
  refine lv_iconst (v := 2) hx hb dL_law_905 (by decide) ?_
  refine lv_iadd hx hb dL_law_906 ?_
  refine x_topI (v2 := 2) (by decide) ?_
  refine x_sld E h hX hbl hbA (i := 2) (j := 2) (by unfold vp_in; decide) (by decide) dL_law_907 ?_
  refine x_vi E h (na := 2) (As := [.int (xs 1), .int (xs 2)]) (kX11_hung_0 l g _ (xs 1) (xs 2) rfl) (oc_vh g) rfl gL_law_X11_hung rfl ⟨rfl, rfl⟩ rfl (by decide +kernel) ⟨Nat.le_of_ble_eq_true rfl, Nat.le_of_ble_eq_true rfl⟩ hl.1 rfl (Nat.le_of_ble_eq_true rfl) dL_law_908 ⟨Nat.le_of_ble_eq_true rfl, Nat.le_of_ble_eq_true rfl⟩ (fun r1 s1 H locs q1 h => ?_)
  rcases q1 with ⟨k1_0, rfl, mo1⟩
  refine lv_aload_n hx hb dL_law_911 rfl (lv_at hl 1 rfl) ?_
  refine lv_aload_n hx hb dL_law_912 rfl (lv_at hl 3 rfl) ?_
  refine lv_iload_n hx hb dL_law_913 rfl (lv_at hl 0 rfl) ?_
  refine lv_iconst (v := 1) hx hb dL_law_914 (by decide) ?_
  refine lv_iadd hx hb dL_law_915 ?_
  refine x_topI (v2 := 1) (by decide) ?_
  refine x_sld E h hX hbl hbA (i := 1) (j := 1) (by unfold vp_in; decide) (by decide) dL_law_916 ?_
  refine lv_aload_n hx hb dL_law_917 rfl (lv_at hl 3 rfl) ?_
  refine lv_iload_n hx hb dL_law_918 rfl (lv_at hl 0 rfl) ?_
  refine lv_iconst (v := 2) hx hb dL_law_919 (by decide) ?_
  refine lv_iadd hx hb dL_law_920 ?_
  refine x_topI (v2 := 2) (by decide) ?_
  refine x_sld E h hX hbl hbA (i := 2) (j := 2) (by unfold vp_in; decide) (by decide) dL_law_921 ?_
  refine x_vi E h (na := 2) (As := [.int (xs 1), .int (xs 2)]) (kX12_hung_0 l g _ (xs 1) (xs 2) (mo1.2.2.2.2.2.2.2.1)) (oc_mo g) rfl gL_law_X12_hung rfl ⟨rfl, rfl⟩ rfl (by decide +kernel) ⟨Nat.le_of_ble_eq_true rfl, Nat.le_of_ble_eq_true rfl⟩ hl.1 rfl (Nat.le_of_ble_eq_true rfl) dL_law_922 ⟨Nat.le_of_ble_eq_true rfl, Nat.le_of_ble_eq_true rfl⟩ (fun r2 s2 H locs q2 h => ?_)
  rcases q2 with ⟨k2_0, rfl⟩
  refine lv_icmp_eq (tgt := 1066) hx hb dL_law_925 (by decide) (fun _ => ?_) (fun c => absurd (by decide) c)
  exact law_tail l E h hX hbl hbA hAw (lv_sub hl [0, 1, 2, 3] rfl)
set_option maxHeartbeats 4000000 in
set_option maxRecDepth 100000 in
theorem lawc_26 {p : Program} {e : Env} {s : State} {m : MethodId} {below : List Frame} {meth : Method} {c : Code} (l : Launch) {b : Nat} {xs : Nat → Int32} {g : CX} (E : EV p s m #[Value.ref b] meth c cL_law RL wsL_law 4 ret g) (hX : va_X b 5 xs s s.heap) (hbl : b < s.heap.size) (hbA : ¬ Aw g b) (hAw : ∀ q, Aw g q → s.heap.size ≤ q) {H : Heap} {ls : Array Slot} {locs : List Loc} (h : HW g σ0 s H locs) (hl : lv_has ls 4 [(3, .int 0), (2, .ref (g.2.1 79)), (1, .ref (g.2.1 0)), (0, .ref b)]) : W p l e room_1 s m #[Value.ref b] below meth c H locs 108 7415 (lw_Z below #[Value.ref b] s) (F0 m 930 ls []) := by
  have hx := E.1
  have hb := E.2.1
  have hown := E.2.2.2.1
  have hts := E.2.2.2.2.1
  refine lv_aload_n hx hb dL_law_930 rfl (lv_at hl 2 rfl) ?_
  refine lv_aload_n hx hb dL_law_931 rfl (lv_at hl 3 rfl) ?_
  refine lv_iload_n hx hb dL_law_932 rfl (lv_at hl 0 rfl) ?_
  refine lv_iconst (v := 1) hx hb dL_law_933 (by decide) ?_
  refine lv_iadd hx hb dL_law_934 ?_
  refine x_topI (v2 := 1) (by decide) ?_
  refine x_sld E h hX hbl hbA (i := 1) (j := 1) (by unfold vp_in; decide) (by decide) dL_law_935 ?_
  refine lv_aload_n hx hb dL_law_936 rfl (lv_at hl 3 rfl) ?_
  refine lv_iload_n hx hb dL_law_937 rfl (lv_at hl 0 rfl) ?_
  refine lv_iconst (v := 2) hx hb dL_law_938 (by decide) ?_
  refine lv_iadd hx hb dL_law_939 ?_
  refine x_topI (v2 := 2) (by decide) ?_
  refine x_sld E h hX hbl hbA (i := 2) (j := 2) (by unfold vp_in; decide) (by decide) dL_law_940 ?_
  refine lv_aload_n hx hb dL_law_941 rfl (lv_at hl 3 rfl) ?_
  refine lv_iload_n hx hb dL_law_942 rfl (lv_at hl 0 rfl) ?_
  refine lv_iconst (v := 3) hx hb dL_law_943 (by decide) ?_
  refine lv_iadd hx hb dL_law_944 ?_
  refine x_topI (v2 := 3) (by decide) ?_
  refine x_sld E h hX hbl hbA (i := 3) (j := 3) (by unfold vp_in; decide) (by decide) dL_law_945 ?_
  refine x_vi E h (na := 3) (As := [.int (xs 1), .int (xs 2), .int (xs 3)]) (kX11_truth_0 l g _ (xs 1) (xs 2) (xs 3) rfl) (oc_vh g) rfl gL_law_X11_truth rfl ⟨rfl, rfl⟩ rfl (by decide +kernel) ⟨Nat.le_of_ble_eq_true rfl, Nat.le_of_ble_eq_true rfl⟩ hl.1 rfl (Nat.le_of_ble_eq_true rfl) dL_law_946 ⟨Nat.le_of_ble_eq_true rfl, Nat.le_of_ble_eq_true rfl⟩ (fun r1 s1 H locs q1 h => ?_)
  rcases q1 with ⟨rfl, mo1⟩
  refine lv_aload_n hx hb dL_law_949 rfl (lv_at hl 1 rfl) ?_
  refine lv_aload_n hx hb dL_law_950 rfl (lv_at hl 3 rfl) ?_
  refine lv_iload_n hx hb dL_law_951 rfl (lv_at hl 0 rfl) ?_
  refine lv_iconst (v := 1) hx hb dL_law_952 (by decide) ?_
  refine lv_iadd hx hb dL_law_953 ?_
  refine x_topI (v2 := 1) (by decide) ?_
  refine x_sld E h hX hbl hbA (i := 1) (j := 1) (by unfold vp_in; decide) (by decide) dL_law_954 ?_
  refine lv_aload_n hx hb dL_law_955 rfl (lv_at hl 3 rfl) ?_
  refine lv_iload_n hx hb dL_law_956 rfl (lv_at hl 0 rfl) ?_
  refine lv_iconst (v := 2) hx hb dL_law_957 (by decide) ?_
  refine lv_iadd hx hb dL_law_958 ?_
  refine x_topI (v2 := 2) (by decide) ?_
  refine x_sld E h hX hbl hbA (i := 2) (j := 2) (by unfold vp_in; decide) (by decide) dL_law_959 ?_
  refine lv_aload_n hx hb dL_law_960 rfl (lv_at hl 3 rfl) ?_
  refine lv_iload_n hx hb dL_law_961 rfl (lv_at hl 0 rfl) ?_
  refine lv_iconst (v := 3) hx hb dL_law_962 (by decide) ?_
  refine lv_iadd hx hb dL_law_963 ?_
  refine x_topI (v2 := 3) (by decide) ?_
  refine x_sld E h hX hbl hbA (i := 3) (j := 3) (by unfold vp_in; decide) (by decide) dL_law_964 ?_
  refine x_vi E h (na := 3) (As := [.int (xs 1), .int (xs 2), .int (xs 3)]) (kX12_truth_0 l g _ (xs 1) (xs 2) (xs 3) (mo1.2.2.2.2.2.2.1)) (oc_mo g) rfl gL_law_X12_truth rfl ⟨rfl, rfl⟩ rfl (by decide +kernel) ⟨Nat.le_of_ble_eq_true rfl, Nat.le_of_ble_eq_true rfl⟩ hl.1 rfl (Nat.le_of_ble_eq_true rfl) dL_law_965 ⟨Nat.le_of_ble_eq_true rfl, Nat.le_of_ble_eq_true rfl⟩ (fun r2 s2 H locs q2 h => ?_)
  rcases q2 with ⟨k2_0, rfl⟩
  refine lv_icmp_eq (tgt := 1066) hx hb dL_law_968 (by decide) (fun _ => ?_) (fun c => absurd (by decide) c)
  exact law_tail l E h hX hbl hbA hAw (lv_sub hl [0, 1, 2, 3] rfl)
set_option maxHeartbeats 4000000 in
set_option maxRecDepth 100000 in
theorem lawc_27 {p : Program} {e : Env} {s : State} {m : MethodId} {below : List Frame} {meth : Method} {c : Code} (l : Launch) {b : Nat} {xs : Nat → Int32} {g : CX} (E : EV p s m #[Value.ref b] meth c cL_law RL wsL_law 4 ret g) (hX : va_X b 5 xs s s.heap) (hbl : b < s.heap.size) (hbA : ¬ Aw g b) (hAw : ∀ q, Aw g q → s.heap.size ≤ q) {H : Heap} {ls : Array Slot} {locs : List Loc} (h : HW g σ0 s H locs) (hl : lv_has ls 4 [(3, .int 0), (2, .ref (g.2.1 79)), (1, .ref (g.2.1 0)), (0, .ref b)]) : W p l e room_1 s m #[Value.ref b] below meth c H locs 108 7415 (lw_Z below #[Value.ref b] s) (F0 m 973 ls []) := by
  have hx := E.1
  have hb := E.2.1
  have hown := E.2.2.2.1
  have hts := E.2.2.2.2.1
  refine lv_aload_n hx hb dL_law_973 rfl (lv_at hl 2 rfl) ?_
  refine lv_aload_n hx hb dL_law_974 rfl (lv_at hl 3 rfl) ?_
  refine lv_iload_n hx hb dL_law_975 rfl (lv_at hl 0 rfl) ?_
  refine lv_iconst (v := 1) hx hb dL_law_976 (by decide) ?_
  refine lv_iadd hx hb dL_law_977 ?_
  refine x_topI (v2 := 1) (by decide) ?_
  refine x_sld E h hX hbl hbA (i := 1) (j := 1) (by unfold vp_in; decide) (by decide) dL_law_978 ?_
  refine x_vi E h (na := 1) (As := [.int (xs 1)]) (kX11_errors_0 l g _ (xs 1) rfl rfl rfl rfl rfl rfl rfl) (oc_vh g) rfl gL_law_X11_errors rfl ⟨rfl, rfl⟩ rfl (by decide +kernel) ⟨Nat.le_of_ble_eq_true rfl, Nat.le_of_ble_eq_true rfl⟩ hl.1 rfl (Nat.le_of_ble_eq_true rfl) dL_law_979 ⟨Nat.le_of_ble_eq_true rfl, Nat.le_of_ble_eq_true rfl⟩ (fun r1 s1 H locs q1 h => ?_)
  rcases q1 with ⟨k1_0, k1_1, k1_2, rfl, mo1⟩ | ⟨k1_0, k1_1, k1_2, rfl, mo1⟩ | ⟨k1_0, k1_1, rfl, mo1⟩ | ⟨k1_0, rfl, mo1⟩
  · skip
    refine lv_aload_n hx hb dL_law_982 rfl (lv_at hl 1 rfl) ?_
    refine lv_aload_n hx hb dL_law_983 rfl (lv_at hl 3 rfl) ?_
    refine lv_iload_n hx hb dL_law_984 rfl (lv_at hl 0 rfl) ?_
    refine lv_iconst (v := 1) hx hb dL_law_985 (by decide) ?_
    refine lv_iadd hx hb dL_law_986 ?_
    refine x_topI (v2 := 1) (by decide) ?_
    refine x_sld E h hX hbl hbA (i := 1) (j := 1) (by unfold vp_in; decide) (by decide) dL_law_987 ?_
    refine x_vi E h (na := 1) (As := [.int (xs 1)]) (kX12_errors_0 l g _ (xs 1) (mo1.2.2.2.2.2.2.1)) (oc_mo g) rfl gL_law_X12_errors rfl ⟨rfl, rfl⟩ rfl (by decide +kernel) ⟨Nat.le_of_ble_eq_true rfl, Nat.le_of_ble_eq_true rfl⟩ hl.1 rfl (Nat.le_of_ble_eq_true rfl) dL_law_988 ⟨Nat.le_of_ble_eq_true rfl, Nat.le_of_ble_eq_true rfl⟩ (fun r2 s2 H locs q2 h => ?_)
    rcases q2 with ⟨k2_0, k2_1, rfl⟩ | ⟨k2_0, k2_1, k2_2, rfl⟩ | ⟨k2_0, k2_1, k2_2, rfl⟩ | ⟨k2_0, rfl⟩
    · skip
      refine lv_icmp_eq (tgt := 1066) hx hb dL_law_991 (by decide) (fun _ => ?_) (fun c => absurd (by decide) c)
      exact law_tail l E h hX hbl hbA hAw (lv_sub hl [0, 1, 2, 3] rfl)
    · skip
      refine lv_icmp_eq (tgt := 1066) hx hb dL_law_991 (by decide) (fun _ => ?_) (fun c => absurd (by decide) c)
      exact law_tail l E h hX hbl hbA hAw (lv_sub hl [0, 1, 2, 3] rfl)
    · exact absurd trivial (fun _ => (k1_1 k2_2))
    · exact absurd trivial (fun _ => (bB_01 k1_0 k2_0))
  · skip
    refine lv_aload_n hx hb dL_law_982 rfl (lv_at hl 1 rfl) ?_
    refine lv_aload_n hx hb dL_law_983 rfl (lv_at hl 3 rfl) ?_
    refine lv_iload_n hx hb dL_law_984 rfl (lv_at hl 0 rfl) ?_
    refine lv_iconst (v := 1) hx hb dL_law_985 (by decide) ?_
    refine lv_iadd hx hb dL_law_986 ?_
    refine x_topI (v2 := 1) (by decide) ?_
    refine x_sld E h hX hbl hbA (i := 1) (j := 1) (by unfold vp_in; decide) (by decide) dL_law_987 ?_
    refine x_vi E h (na := 1) (As := [.int (xs 1)]) (kX12_errors_0 l g _ (xs 1) (mo1.2.2.2.2.2.2.1)) (oc_mo g) rfl gL_law_X12_errors rfl ⟨rfl, rfl⟩ rfl (by decide +kernel) ⟨Nat.le_of_ble_eq_true rfl, Nat.le_of_ble_eq_true rfl⟩ hl.1 rfl (Nat.le_of_ble_eq_true rfl) dL_law_988 ⟨Nat.le_of_ble_eq_true rfl, Nat.le_of_ble_eq_true rfl⟩ (fun r3 s3 H locs q3 h => ?_)
    rcases q3 with ⟨k3_0, k3_1, rfl⟩ | ⟨k3_0, k3_1, k3_2, rfl⟩ | ⟨k3_0, k3_1, k3_2, rfl⟩ | ⟨k3_0, rfl⟩
    · skip
      refine lv_icmp_eq (tgt := 1066) hx hb dL_law_991 (by decide) (fun _ => ?_) (fun c => absurd (by decide) c)
      exact law_tail l E h hX hbl hbA hAw (lv_sub hl [0, 1, 2, 3] rfl)
    · skip
      refine lv_icmp_eq (tgt := 1066) hx hb dL_law_991 (by decide) (fun _ => ?_) (fun c => absurd (by decide) c)
      exact law_tail l E h hX hbl hbA hAw (lv_sub hl [0, 1, 2, 3] rfl)
    · exact absurd trivial (fun _ => (k1_1 k3_2))
    · exact absurd trivial (fun _ => (bB_01 k1_0 k3_0))
  · skip
    refine lv_aload_n hx hb dL_law_982 rfl (lv_at hl 1 rfl) ?_
    refine lv_aload_n hx hb dL_law_983 rfl (lv_at hl 3 rfl) ?_
    refine lv_iload_n hx hb dL_law_984 rfl (lv_at hl 0 rfl) ?_
    refine lv_iconst (v := 1) hx hb dL_law_985 (by decide) ?_
    refine lv_iadd hx hb dL_law_986 ?_
    refine x_topI (v2 := 1) (by decide) ?_
    refine x_sld E h hX hbl hbA (i := 1) (j := 1) (by unfold vp_in; decide) (by decide) dL_law_987 ?_
    refine x_vi E h (na := 1) (As := [.int (xs 1)]) (kX12_errors_0 l g _ (xs 1) (mo1.2.2.2.2.2.2.1)) (oc_mo g) rfl gL_law_X12_errors rfl ⟨rfl, rfl⟩ rfl (by decide +kernel) ⟨Nat.le_of_ble_eq_true rfl, Nat.le_of_ble_eq_true rfl⟩ hl.1 rfl (Nat.le_of_ble_eq_true rfl) dL_law_988 ⟨Nat.le_of_ble_eq_true rfl, Nat.le_of_ble_eq_true rfl⟩ (fun r4 s4 H locs q4 h => ?_)
    rcases q4 with ⟨k4_0, k4_1, rfl⟩ | ⟨k4_0, k4_1, k4_2, rfl⟩ | ⟨k4_0, k4_1, k4_2, rfl⟩ | ⟨k4_0, rfl⟩
    · skip
      refine lv_icmp_eq (tgt := 1066) hx hb dL_law_991 (by decide) (fun _ => ?_) (fun c => absurd (by decide) c)
      exact law_tail l E h hX hbl hbA hAw (lv_sub hl [0, 1, 2, 3] rfl)
    · exact absurd trivial (fun _ => (k4_2 k1_1))
    · skip
      refine lv_icmp_eq (tgt := 1066) hx hb dL_law_991 (by decide) (fun _ => ?_) (fun c => absurd (by decide) c)
      exact law_tail l E h hX hbl hbA hAw (lv_sub hl [0, 1, 2, 3] rfl)
    · exact absurd trivial (fun _ => (bB_01 k1_0 k4_0))
  · skip
    refine lv_aload_n hx hb dL_law_982 rfl (lv_at hl 1 rfl) ?_
    refine lv_aload_n hx hb dL_law_983 rfl (lv_at hl 3 rfl) ?_
    refine lv_iload_n hx hb dL_law_984 rfl (lv_at hl 0 rfl) ?_
    refine lv_iconst (v := 1) hx hb dL_law_985 (by decide) ?_
    refine lv_iadd hx hb dL_law_986 ?_
    refine x_topI (v2 := 1) (by decide) ?_
    refine x_sld E h hX hbl hbA (i := 1) (j := 1) (by unfold vp_in; decide) (by decide) dL_law_987 ?_
    refine x_vi E h (na := 1) (As := [.int (xs 1)]) (kX12_errors_0 l g _ (xs 1) (mo1.2.2.2.2.2.2.1)) (oc_mo g) rfl gL_law_X12_errors rfl ⟨rfl, rfl⟩ rfl (by decide +kernel) ⟨Nat.le_of_ble_eq_true rfl, Nat.le_of_ble_eq_true rfl⟩ hl.1 rfl (Nat.le_of_ble_eq_true rfl) dL_law_988 ⟨Nat.le_of_ble_eq_true rfl, Nat.le_of_ble_eq_true rfl⟩ (fun r5 s5 H locs q5 h => ?_)
    rcases q5 with ⟨k5_0, k5_1, rfl⟩ | ⟨k5_0, k5_1, k5_2, rfl⟩ | ⟨k5_0, k5_1, k5_2, rfl⟩ | ⟨k5_0, rfl⟩
    · exact absurd trivial (fun _ => (bB_01 k5_0 k1_0))
    · exact absurd trivial (fun _ => (bB_01 k5_0 k1_0))
    · exact absurd trivial (fun _ => (bB_eq0 k5_2 k1_0 (by decide)))
    refine lv_icmp_eq (tgt := 1066) hx hb dL_law_991 (by decide) (fun _ => ?_) (fun c => absurd (by decide) c)
    exact law_tail l E h hX hbl hbA hAw (lv_sub hl [0, 1, 2, 3] rfl)
set_option maxHeartbeats 4000000 in
set_option maxRecDepth 100000 in
theorem lawc_28 {p : Program} {e : Env} {s : State} {m : MethodId} {below : List Frame} {meth : Method} {c : Code} (l : Launch) {b : Nat} {xs : Nat → Int32} {g : CX} (E : EV p s m #[Value.ref b] meth c cL_law RL wsL_law 4 ret g) (hX : va_X b 5 xs s s.heap) (hbl : b < s.heap.size) (hbA : ¬ Aw g b) (hAw : ∀ q, Aw g q → s.heap.size ≤ q) {H : Heap} {ls : Array Slot} {locs : List Loc} (h : HW g σ0 s H locs) (hl : lv_has ls 4 [(3, .int 0), (2, .ref (g.2.1 79)), (1, .ref (g.2.1 0)), (0, .ref b)]) : W p l e room_1 s m #[Value.ref b] below meth c H locs 108 7415 (lw_Z below #[Value.ref b] s) (F0 m 996 ls []) := by
  have hx := E.1
  have hb := E.2.1
  have hown := E.2.2.2.1
  have hts := E.2.2.2.2.1
  refine lv_aload_n hx hb dL_law_996 rfl (lv_at hl 2 rfl) ?_
  refine lv_aload_n hx hb dL_law_997 rfl (lv_at hl 3 rfl) ?_
  refine lv_iload_n hx hb dL_law_998 rfl (lv_at hl 0 rfl) ?_
  refine lv_iconst (v := 1) hx hb dL_law_999 (by decide) ?_
  refine lv_iadd hx hb dL_law_1000 ?_
  refine x_topI (v2 := 1) (by decide) ?_
  refine x_sld E h hX hbl hbA (i := 1) (j := 1) (by unfold vp_in; decide) (by decide) dL_law_1001 ?_
  refine lv_aload_n hx hb dL_law_1002 rfl (lv_at hl 3 rfl) ?_
  refine lv_iload_n hx hb dL_law_1003 rfl (lv_at hl 0 rfl) ?_
  refine lv_iconst (v := 2) hx hb dL_law_1004 (by decide) ?_
  refine lv_iadd hx hb dL_law_1005 ?_
  refine x_topI (v2 := 2) (by decide) ?_
  refine x_sld E h hX hbl hbA (i := 2) (j := 2) (by unfold vp_in; decide) (by decide) dL_law_1006 ?_
  refine x_vi E h (na := 2) (As := [.int (xs 1), .int (xs 2)]) (kX11_weight_0 l g _ (xs 1) (xs 2) rfl rfl rfl rfl) (oc_vh g) rfl gL_law_X11_weight rfl ⟨rfl, rfl⟩ rfl (by decide +kernel) ⟨Nat.le_of_ble_eq_true rfl, Nat.le_of_ble_eq_true rfl⟩ hl.1 rfl (Nat.le_of_ble_eq_true rfl) dL_law_1007 ⟨Nat.le_of_ble_eq_true rfl, Nat.le_of_ble_eq_true rfl⟩ (fun r1 s1 H locs q1 h => ?_)
  rcases q1 with ⟨k1_0, k1_1, rfl, mo1⟩ | ⟨k1_0, rfl, mo1⟩
  · skip
    refine lv_aload_n hx hb dL_law_1010 rfl (lv_at hl 1 rfl) ?_
    refine lv_aload_n hx hb dL_law_1011 rfl (lv_at hl 3 rfl) ?_
    refine lv_iload_n hx hb dL_law_1012 rfl (lv_at hl 0 rfl) ?_
    refine lv_iconst (v := 1) hx hb dL_law_1013 (by decide) ?_
    refine lv_iadd hx hb dL_law_1014 ?_
    refine x_topI (v2 := 1) (by decide) ?_
    refine x_sld E h hX hbl hbA (i := 1) (j := 1) (by unfold vp_in; decide) (by decide) dL_law_1015 ?_
    refine lv_aload_n hx hb dL_law_1016 rfl (lv_at hl 3 rfl) ?_
    refine lv_iload_n hx hb dL_law_1017 rfl (lv_at hl 0 rfl) ?_
    refine lv_iconst (v := 2) hx hb dL_law_1018 (by decide) ?_
    refine lv_iadd hx hb dL_law_1019 ?_
    refine x_topI (v2 := 2) (by decide) ?_
    refine x_sld E h hX hbl hbA (i := 2) (j := 2) (by unfold vp_in; decide) (by decide) dL_law_1020 ?_
    refine x_vi E h (na := 2) (As := [.int (xs 1), .int (xs 2)]) (kX12_weight_0 l g _ (xs 1) (xs 2) (mo1.2.2.2.2.2.2.1)) (oc_mo g) rfl gL_law_X12_weight rfl ⟨rfl, rfl⟩ rfl (by decide +kernel) ⟨Nat.le_of_ble_eq_true rfl, Nat.le_of_ble_eq_true rfl⟩ hl.1 rfl (Nat.le_of_ble_eq_true rfl) dL_law_1021 ⟨Nat.le_of_ble_eq_true rfl, Nat.le_of_ble_eq_true rfl⟩ (fun r2 s2 H locs q2 h => ?_)
    rcases q2 with ⟨k2_0, k2_1, rfl⟩ | ⟨k2_0, rfl⟩
    · skip
      refine lv_icmp_eq (tgt := 1066) hx hb dL_law_1024 (by decide) (fun _ => ?_) (fun c => absurd (by decide) c)
      exact law_tail l E h hX hbl hbA hAw (lv_sub hl [0, 1, 2, 3] rfl)
    · exact absurd trivial (fun _ => (bB_01 k1_0 k2_0))
  · skip
    refine lv_aload_n hx hb dL_law_1010 rfl (lv_at hl 1 rfl) ?_
    refine lv_aload_n hx hb dL_law_1011 rfl (lv_at hl 3 rfl) ?_
    refine lv_iload_n hx hb dL_law_1012 rfl (lv_at hl 0 rfl) ?_
    refine lv_iconst (v := 1) hx hb dL_law_1013 (by decide) ?_
    refine lv_iadd hx hb dL_law_1014 ?_
    refine x_topI (v2 := 1) (by decide) ?_
    refine x_sld E h hX hbl hbA (i := 1) (j := 1) (by unfold vp_in; decide) (by decide) dL_law_1015 ?_
    refine lv_aload_n hx hb dL_law_1016 rfl (lv_at hl 3 rfl) ?_
    refine lv_iload_n hx hb dL_law_1017 rfl (lv_at hl 0 rfl) ?_
    refine lv_iconst (v := 2) hx hb dL_law_1018 (by decide) ?_
    refine lv_iadd hx hb dL_law_1019 ?_
    refine x_topI (v2 := 2) (by decide) ?_
    refine x_sld E h hX hbl hbA (i := 2) (j := 2) (by unfold vp_in; decide) (by decide) dL_law_1020 ?_
    refine x_vi E h (na := 2) (As := [.int (xs 1), .int (xs 2)]) (kX12_weight_0 l g _ (xs 1) (xs 2) (mo1.2.2.2.2.2.2.1)) (oc_mo g) rfl gL_law_X12_weight rfl ⟨rfl, rfl⟩ rfl (by decide +kernel) ⟨Nat.le_of_ble_eq_true rfl, Nat.le_of_ble_eq_true rfl⟩ hl.1 rfl (Nat.le_of_ble_eq_true rfl) dL_law_1021 ⟨Nat.le_of_ble_eq_true rfl, Nat.le_of_ble_eq_true rfl⟩ (fun r3 s3 H locs q3 h => ?_)
    rcases q3 with ⟨k3_0, k3_1, rfl⟩ | ⟨k3_0, rfl⟩
    · exact absurd trivial (fun _ => (bB_01 k3_0 k1_0))
    refine lv_icmp_eq (tgt := 1066) hx hb dL_law_1024 (by decide) (fun _ => ?_) (fun c => absurd (by decide) c)
    exact law_tail l E h hX hbl hbA hAw (lv_sub hl [0, 1, 2, 3] rfl)
set_option maxHeartbeats 4000000 in
set_option maxRecDepth 100000 in
theorem lawc_29 {p : Program} {e : Env} {s : State} {m : MethodId} {below : List Frame} {meth : Method} {c : Code} (l : Launch) {b : Nat} {xs : Nat → Int32} {g : CX} (E : EV p s m #[Value.ref b] meth c cL_law RL wsL_law 4 ret g) (hX : va_X b 5 xs s s.heap) (hbl : b < s.heap.size) (hbA : ¬ Aw g b) (hAw : ∀ q, Aw g q → s.heap.size ≤ q) {H : Heap} {ls : Array Slot} {locs : List Loc} (h : HW g σ0 s H locs) (hl : lv_has ls 4 [(3, .int 0), (2, .ref (g.2.1 79)), (1, .ref (g.2.1 0)), (0, .ref b)]) : W p l e room_1 s m #[Value.ref b] below meth c H locs 108 7415 (lw_Z below #[Value.ref b] s) (F0 m 1029 ls []) := by
  have hx := E.1
  have hb := E.2.1
  have hown := E.2.2.2.1
  have hts := E.2.2.2.2.1
  refine lv_aload_n hx hb dL_law_1029 rfl (lv_at hl 2 rfl) ?_
  refine lv_aload_n hx hb dL_law_1030 rfl (lv_at hl 3 rfl) ?_
  refine lv_iload_n hx hb dL_law_1031 rfl (lv_at hl 0 rfl) ?_
  refine lv_iconst (v := 1) hx hb dL_law_1032 (by decide) ?_
  refine lv_iadd hx hb dL_law_1033 ?_
  refine x_topI (v2 := 1) (by decide) ?_
  refine x_sld E h hX hbl hbA (i := 1) (j := 1) (by unfold vp_in; decide) (by decide) dL_law_1034 ?_
  refine x_vi E h (na := 1) (As := [.int (xs 1)]) (kX11_count_0 l g _ (xs 1) rfl rfl rfl rfl) (oc_vh g) rfl gL_law_X11_count rfl ⟨rfl, rfl⟩ rfl (by decide +kernel) ⟨Nat.le_of_ble_eq_true rfl, Nat.le_of_ble_eq_true rfl⟩ hl.1 rfl (Nat.le_of_ble_eq_true rfl) dL_law_1035 ⟨Nat.le_of_ble_eq_true rfl, Nat.le_of_ble_eq_true rfl⟩ (fun r1 s1 H locs q1 h => ?_)
  rcases q1 with ⟨k1_0, rfl, mo1⟩ | ⟨k1_0, k1_1, rfl, mo1⟩ | ⟨k1_0, k1_1, k1_2, rfl, mo1⟩ | ⟨k1_0, k1_1, k1_2, k1_3, rfl, mo1⟩ | ⟨k1_0, k1_1, k1_2, k1_3, k1_4, rfl, mo1⟩ | ⟨k1_0, k1_1, k1_2, k1_3, k1_4, k1_5, rfl, mo1⟩ | ⟨k1_0, k1_1, k1_2, k1_3, k1_4, k1_5, rfl, mo1⟩
  · skip
    refine lv_aload_n hx hb dL_law_1038 rfl (lv_at hl 1 rfl) ?_
    refine lv_aload_n hx hb dL_law_1039 rfl (lv_at hl 3 rfl) ?_
    refine lv_iload_n hx hb dL_law_1040 rfl (lv_at hl 0 rfl) ?_
    refine lv_iconst (v := 1) hx hb dL_law_1041 (by decide) ?_
    refine lv_iadd hx hb dL_law_1042 ?_
    refine x_topI (v2 := 1) (by decide) ?_
    refine x_sld E h hX hbl hbA (i := 1) (j := 1) (by unfold vp_in; decide) (by decide) dL_law_1043 ?_
    refine x_vi E h (na := 1) (As := [.int (xs 1)]) (kX12_count_0 l g _ (xs 1) (mo1.1) (mo1.2.2.2.2.2.2.1) (mo1.2.2.2.2.2.2.2.1) (mo1.2.2.2.2.2.2.2.2.2.2.2.2.2.2.2.1)) (oc_mo g) rfl gL_law_X12_count rfl ⟨rfl, rfl⟩ rfl (by decide +kernel) ⟨Nat.le_of_ble_eq_true rfl, Nat.le_of_ble_eq_true rfl⟩ hl.1 rfl (Nat.le_of_ble_eq_true rfl) dL_law_1044 ⟨Nat.le_of_ble_eq_true rfl, Nat.le_of_ble_eq_true rfl⟩ (fun r2 s2 H locs q2 h => ?_)
    rcases q2 with ⟨k2_0, rfl⟩ | ⟨k2_0, k2_1, rfl⟩ | ⟨k2_0, k2_1, k2_2, rfl⟩ | ⟨k2_0, k2_1, k2_2, k2_3, rfl⟩ | ⟨k2_0, k2_1, k2_2, k2_3, k2_4, rfl⟩ | ⟨k2_0, k2_1, k2_2, k2_3, k2_4, k2_5, rfl⟩ | ⟨k2_0, k2_1, k2_2, k2_3, k2_4, k2_5, rfl⟩
    · skip
      refine lv_icmp_eq (tgt := 1066) hx hb dL_law_1047 (by decide) (fun _ => ?_) (fun c => absurd (by decide) c)
      exact law_tail l E h hX hbl hbA hAw (lv_sub hl [0, 1, 2, 3] rfl)
    · exact absurd trivial (fun _ => (absurd (k1_0.symm.trans k2_1) (by decide)))
    · exact absurd trivial (fun _ => (absurd (k1_0.symm.trans k2_2) (by decide)))
    · exact absurd trivial (fun _ => (absurd (k1_0.symm.trans k2_3) (by decide)))
    · exact absurd trivial (fun _ => (absurd (k1_0.symm.trans k2_4) (by decide)))
    · exact absurd trivial (fun _ => (absurd (k1_0.symm.trans k2_5) (by decide)))
    · exact absurd trivial (fun _ => (k2_0 k1_0))
  · skip
    refine lv_aload_n hx hb dL_law_1038 rfl (lv_at hl 1 rfl) ?_
    refine lv_aload_n hx hb dL_law_1039 rfl (lv_at hl 3 rfl) ?_
    refine lv_iload_n hx hb dL_law_1040 rfl (lv_at hl 0 rfl) ?_
    refine lv_iconst (v := 1) hx hb dL_law_1041 (by decide) ?_
    refine lv_iadd hx hb dL_law_1042 ?_
    refine x_topI (v2 := 1) (by decide) ?_
    refine x_sld E h hX hbl hbA (i := 1) (j := 1) (by unfold vp_in; decide) (by decide) dL_law_1043 ?_
    refine x_vi E h (na := 1) (As := [.int (xs 1)]) (kX12_count_0 l g _ (xs 1) (mo1.1) (mo1.2.2.2.2.2.2.1) (mo1.2.2.2.2.2.2.2.1) (mo1.2.2.2.2.2.2.2.2.2.2.2.2.2.2.2.1)) (oc_mo g) rfl gL_law_X12_count rfl ⟨rfl, rfl⟩ rfl (by decide +kernel) ⟨Nat.le_of_ble_eq_true rfl, Nat.le_of_ble_eq_true rfl⟩ hl.1 rfl (Nat.le_of_ble_eq_true rfl) dL_law_1044 ⟨Nat.le_of_ble_eq_true rfl, Nat.le_of_ble_eq_true rfl⟩ (fun r3 s3 H locs q3 h => ?_)
    rcases q3 with ⟨k3_0, rfl⟩ | ⟨k3_0, k3_1, rfl⟩ | ⟨k3_0, k3_1, k3_2, rfl⟩ | ⟨k3_0, k3_1, k3_2, k3_3, rfl⟩ | ⟨k3_0, k3_1, k3_2, k3_3, k3_4, rfl⟩ | ⟨k3_0, k3_1, k3_2, k3_3, k3_4, k3_5, rfl⟩ | ⟨k3_0, k3_1, k3_2, k3_3, k3_4, k3_5, rfl⟩
    · exact absurd trivial (fun _ => (k1_0 k3_0))
    · skip
      refine lv_icmp_eq (tgt := 1066) hx hb dL_law_1047 (by decide) (fun _ => ?_) (fun c => absurd (by decide) c)
      exact law_tail l E h hX hbl hbA hAw (lv_sub hl [0, 1, 2, 3] rfl)
    · exact absurd trivial (fun _ => (absurd (k1_1.symm.trans k3_2) (by decide)))
    · exact absurd trivial (fun _ => (absurd (k1_1.symm.trans k3_3) (by decide)))
    · exact absurd trivial (fun _ => (absurd (k1_1.symm.trans k3_4) (by decide)))
    · exact absurd trivial (fun _ => (absurd (k1_1.symm.trans k3_5) (by decide)))
    · exact absurd trivial (fun _ => (k3_1 k1_1))
  · skip
    refine lv_aload_n hx hb dL_law_1038 rfl (lv_at hl 1 rfl) ?_
    refine lv_aload_n hx hb dL_law_1039 rfl (lv_at hl 3 rfl) ?_
    refine lv_iload_n hx hb dL_law_1040 rfl (lv_at hl 0 rfl) ?_
    refine lv_iconst (v := 1) hx hb dL_law_1041 (by decide) ?_
    refine lv_iadd hx hb dL_law_1042 ?_
    refine x_topI (v2 := 1) (by decide) ?_
    refine x_sld E h hX hbl hbA (i := 1) (j := 1) (by unfold vp_in; decide) (by decide) dL_law_1043 ?_
    refine x_vi E h (na := 1) (As := [.int (xs 1)]) (kX12_count_0 l g _ (xs 1) (mo1.1) (mo1.2.2.2.2.2.2.1) (mo1.2.2.2.2.2.2.2.1) (mo1.2.2.2.2.2.2.2.2.2.2.2.2.2.2.2.1)) (oc_mo g) rfl gL_law_X12_count rfl ⟨rfl, rfl⟩ rfl (by decide +kernel) ⟨Nat.le_of_ble_eq_true rfl, Nat.le_of_ble_eq_true rfl⟩ hl.1 rfl (Nat.le_of_ble_eq_true rfl) dL_law_1044 ⟨Nat.le_of_ble_eq_true rfl, Nat.le_of_ble_eq_true rfl⟩ (fun r4 s4 H locs q4 h => ?_)
    rcases q4 with ⟨k4_0, rfl⟩ | ⟨k4_0, k4_1, rfl⟩ | ⟨k4_0, k4_1, k4_2, rfl⟩ | ⟨k4_0, k4_1, k4_2, k4_3, rfl⟩ | ⟨k4_0, k4_1, k4_2, k4_3, k4_4, rfl⟩ | ⟨k4_0, k4_1, k4_2, k4_3, k4_4, k4_5, rfl⟩ | ⟨k4_0, k4_1, k4_2, k4_3, k4_4, k4_5, rfl⟩
    · exact absurd trivial (fun _ => (k1_0 k4_0))
    · exact absurd trivial (fun _ => (k1_1 k4_1))
    · skip
      refine lv_icmp_eq (tgt := 1066) hx hb dL_law_1047 (by decide) (fun _ => ?_) (fun c => absurd (by decide) c)
      exact law_tail l E h hX hbl hbA hAw (lv_sub hl [0, 1, 2, 3] rfl)
    · exact absurd trivial (fun _ => (absurd (k1_2.symm.trans k4_3) (by decide)))
    · exact absurd trivial (fun _ => (absurd (k1_2.symm.trans k4_4) (by decide)))
    · exact absurd trivial (fun _ => (absurd (k1_2.symm.trans k4_5) (by decide)))
    · exact absurd trivial (fun _ => (k4_2 k1_2))
  · skip
    refine lv_aload_n hx hb dL_law_1038 rfl (lv_at hl 1 rfl) ?_
    refine lv_aload_n hx hb dL_law_1039 rfl (lv_at hl 3 rfl) ?_
    refine lv_iload_n hx hb dL_law_1040 rfl (lv_at hl 0 rfl) ?_
    refine lv_iconst (v := 1) hx hb dL_law_1041 (by decide) ?_
    refine lv_iadd hx hb dL_law_1042 ?_
    refine x_topI (v2 := 1) (by decide) ?_
    refine x_sld E h hX hbl hbA (i := 1) (j := 1) (by unfold vp_in; decide) (by decide) dL_law_1043 ?_
    refine x_vi E h (na := 1) (As := [.int (xs 1)]) (kX12_count_0 l g _ (xs 1) (mo1.1) (mo1.2.2.2.2.2.2.1) (mo1.2.2.2.2.2.2.2.1) (mo1.2.2.2.2.2.2.2.2.2.2.2.2.2.2.2.1)) (oc_mo g) rfl gL_law_X12_count rfl ⟨rfl, rfl⟩ rfl (by decide +kernel) ⟨Nat.le_of_ble_eq_true rfl, Nat.le_of_ble_eq_true rfl⟩ hl.1 rfl (Nat.le_of_ble_eq_true rfl) dL_law_1044 ⟨Nat.le_of_ble_eq_true rfl, Nat.le_of_ble_eq_true rfl⟩ (fun r5 s5 H locs q5 h => ?_)
    rcases q5 with ⟨k5_0, rfl⟩ | ⟨k5_0, k5_1, rfl⟩ | ⟨k5_0, k5_1, k5_2, rfl⟩ | ⟨k5_0, k5_1, k5_2, k5_3, rfl⟩ | ⟨k5_0, k5_1, k5_2, k5_3, k5_4, rfl⟩ | ⟨k5_0, k5_1, k5_2, k5_3, k5_4, k5_5, rfl⟩ | ⟨k5_0, k5_1, k5_2, k5_3, k5_4, k5_5, rfl⟩
    · exact absurd trivial (fun _ => (k1_0 k5_0))
    · exact absurd trivial (fun _ => (k1_1 k5_1))
    · exact absurd trivial (fun _ => (k1_2 k5_2))
    · skip
      refine lv_icmp_eq (tgt := 1066) hx hb dL_law_1047 (by decide) (fun _ => ?_) (fun c => absurd (by decide) c)
      exact law_tail l E h hX hbl hbA hAw (lv_sub hl [0, 1, 2, 3] rfl)
    · exact absurd trivial (fun _ => (absurd (k1_3.symm.trans k5_4) (by decide)))
    · exact absurd trivial (fun _ => (absurd (k1_3.symm.trans k5_5) (by decide)))
    · exact absurd trivial (fun _ => (k5_3 k1_3))
  · skip
    refine lv_aload_n hx hb dL_law_1038 rfl (lv_at hl 1 rfl) ?_
    refine lv_aload_n hx hb dL_law_1039 rfl (lv_at hl 3 rfl) ?_
    refine lv_iload_n hx hb dL_law_1040 rfl (lv_at hl 0 rfl) ?_
    refine lv_iconst (v := 1) hx hb dL_law_1041 (by decide) ?_
    refine lv_iadd hx hb dL_law_1042 ?_
    refine x_topI (v2 := 1) (by decide) ?_
    refine x_sld E h hX hbl hbA (i := 1) (j := 1) (by unfold vp_in; decide) (by decide) dL_law_1043 ?_
    refine x_vi E h (na := 1) (As := [.int (xs 1)]) (kX12_count_0 l g _ (xs 1) (mo1.1) (mo1.2.2.2.2.2.2.1) (mo1.2.2.2.2.2.2.2.1) (mo1.2.2.2.2.2.2.2.2.2.2.2.2.2.2.2.1)) (oc_mo g) rfl gL_law_X12_count rfl ⟨rfl, rfl⟩ rfl (by decide +kernel) ⟨Nat.le_of_ble_eq_true rfl, Nat.le_of_ble_eq_true rfl⟩ hl.1 rfl (Nat.le_of_ble_eq_true rfl) dL_law_1044 ⟨Nat.le_of_ble_eq_true rfl, Nat.le_of_ble_eq_true rfl⟩ (fun r6 s6 H locs q6 h => ?_)
    rcases q6 with ⟨k6_0, rfl⟩ | ⟨k6_0, k6_1, rfl⟩ | ⟨k6_0, k6_1, k6_2, rfl⟩ | ⟨k6_0, k6_1, k6_2, k6_3, rfl⟩ | ⟨k6_0, k6_1, k6_2, k6_3, k6_4, rfl⟩ | ⟨k6_0, k6_1, k6_2, k6_3, k6_4, k6_5, rfl⟩ | ⟨k6_0, k6_1, k6_2, k6_3, k6_4, k6_5, rfl⟩
    · exact absurd trivial (fun _ => (k1_0 k6_0))
    · exact absurd trivial (fun _ => (k1_1 k6_1))
    · exact absurd trivial (fun _ => (k1_2 k6_2))
    · exact absurd trivial (fun _ => (k1_3 k6_3))
    · skip
      refine lv_icmp_eq (tgt := 1066) hx hb dL_law_1047 (by decide) (fun _ => ?_) (fun c => absurd (by decide) c)
      exact law_tail l E h hX hbl hbA hAw (lv_sub hl [0, 1, 2, 3] rfl)
    · exact absurd trivial (fun _ => (absurd (k1_4.symm.trans k6_5) (by decide)))
    · exact absurd trivial (fun _ => (k6_4 k1_4))
  · skip
    refine lv_aload_n hx hb dL_law_1038 rfl (lv_at hl 1 rfl) ?_
    refine lv_aload_n hx hb dL_law_1039 rfl (lv_at hl 3 rfl) ?_
    refine lv_iload_n hx hb dL_law_1040 rfl (lv_at hl 0 rfl) ?_
    refine lv_iconst (v := 1) hx hb dL_law_1041 (by decide) ?_
    refine lv_iadd hx hb dL_law_1042 ?_
    refine x_topI (v2 := 1) (by decide) ?_
    refine x_sld E h hX hbl hbA (i := 1) (j := 1) (by unfold vp_in; decide) (by decide) dL_law_1043 ?_
    refine x_vi E h (na := 1) (As := [.int (xs 1)]) (kX12_count_0 l g _ (xs 1) (mo1.1) (mo1.2.2.2.2.2.2.1) (mo1.2.2.2.2.2.2.2.1) (mo1.2.2.2.2.2.2.2.2.2.2.2.2.2.2.2.1)) (oc_mo g) rfl gL_law_X12_count rfl ⟨rfl, rfl⟩ rfl (by decide +kernel) ⟨Nat.le_of_ble_eq_true rfl, Nat.le_of_ble_eq_true rfl⟩ hl.1 rfl (Nat.le_of_ble_eq_true rfl) dL_law_1044 ⟨Nat.le_of_ble_eq_true rfl, Nat.le_of_ble_eq_true rfl⟩ (fun r7 s7 H locs q7 h => ?_)
    rcases q7 with ⟨k7_0, rfl⟩ | ⟨k7_0, k7_1, rfl⟩ | ⟨k7_0, k7_1, k7_2, rfl⟩ | ⟨k7_0, k7_1, k7_2, k7_3, rfl⟩ | ⟨k7_0, k7_1, k7_2, k7_3, k7_4, rfl⟩ | ⟨k7_0, k7_1, k7_2, k7_3, k7_4, k7_5, rfl⟩ | ⟨k7_0, k7_1, k7_2, k7_3, k7_4, k7_5, rfl⟩
    · exact absurd trivial (fun _ => (k1_0 k7_0))
    · exact absurd trivial (fun _ => (k1_1 k7_1))
    · exact absurd trivial (fun _ => (k1_2 k7_2))
    · exact absurd trivial (fun _ => (k1_3 k7_3))
    · exact absurd trivial (fun _ => (k1_4 k7_4))
    · skip
      refine lv_icmp_eq (tgt := 1066) hx hb dL_law_1047 (by decide) (fun _ => ?_) (fun c => absurd (by decide) c)
      exact law_tail l E h hX hbl hbA hAw (lv_sub hl [0, 1, 2, 3] rfl)
    · exact absurd trivial (fun _ => (k7_5 k1_5))
  · skip
    refine lv_aload_n hx hb dL_law_1038 rfl (lv_at hl 1 rfl) ?_
    refine lv_aload_n hx hb dL_law_1039 rfl (lv_at hl 3 rfl) ?_
    refine lv_iload_n hx hb dL_law_1040 rfl (lv_at hl 0 rfl) ?_
    refine lv_iconst (v := 1) hx hb dL_law_1041 (by decide) ?_
    refine lv_iadd hx hb dL_law_1042 ?_
    refine x_topI (v2 := 1) (by decide) ?_
    refine x_sld E h hX hbl hbA (i := 1) (j := 1) (by unfold vp_in; decide) (by decide) dL_law_1043 ?_
    refine x_vi E h (na := 1) (As := [.int (xs 1)]) (kX12_count_0 l g _ (xs 1) (mo1.1) (mo1.2.2.2.2.2.2.1) (mo1.2.2.2.2.2.2.2.1) (mo1.2.2.2.2.2.2.2.2.2.2.2.2.2.2.2.1)) (oc_mo g) rfl gL_law_X12_count rfl ⟨rfl, rfl⟩ rfl (by decide +kernel) ⟨Nat.le_of_ble_eq_true rfl, Nat.le_of_ble_eq_true rfl⟩ hl.1 rfl (Nat.le_of_ble_eq_true rfl) dL_law_1044 ⟨Nat.le_of_ble_eq_true rfl, Nat.le_of_ble_eq_true rfl⟩ (fun r8 s8 H locs q8 h => ?_)
    rcases q8 with ⟨k8_0, rfl⟩ | ⟨k8_0, k8_1, rfl⟩ | ⟨k8_0, k8_1, k8_2, rfl⟩ | ⟨k8_0, k8_1, k8_2, k8_3, rfl⟩ | ⟨k8_0, k8_1, k8_2, k8_3, k8_4, rfl⟩ | ⟨k8_0, k8_1, k8_2, k8_3, k8_4, k8_5, rfl⟩ | ⟨k8_0, k8_1, k8_2, k8_3, k8_4, k8_5, rfl⟩
    · exact absurd trivial (fun _ => (k1_0 k8_0))
    · exact absurd trivial (fun _ => (k1_1 k8_1))
    · exact absurd trivial (fun _ => (k1_2 k8_2))
    · exact absurd trivial (fun _ => (k1_3 k8_3))
    · exact absurd trivial (fun _ => (k1_4 k8_4))
    · exact absurd trivial (fun _ => (k1_5 k8_5))
    refine lv_icmp_eq (tgt := 1066) hx hb dL_law_1047 (by decide) (fun _ => ?_) (fun c => absurd (by decide) c)
    exact law_tail l E h hX hbl hbA hAw (lv_sub hl [0, 1, 2, 3] rfl)
set_option maxHeartbeats 4000000 in
set_option maxRecDepth 100000 in
theorem lawc_30 {p : Program} {e : Env} {s : State} {m : MethodId} {below : List Frame} {meth : Method} {c : Code} (l : Launch) {b : Nat} {xs : Nat → Int32} {g : CX} (E : EV p s m #[Value.ref b] meth c cL_law RL wsL_law 4 ret g) (hX : va_X b 5 xs s s.heap) (hbl : b < s.heap.size) (hbA : ¬ Aw g b) (hAw : ∀ q, Aw g q → s.heap.size ≤ q) {H : Heap} {ls : Array Slot} {locs : List Loc} (h : HW g σ0 s H locs) (hl : lv_has ls 4 [(3, .int 0), (2, .ref (g.2.1 79)), (1, .ref (g.2.1 0)), (0, .ref b)]) : W p l e room_1 s m #[Value.ref b] below meth c H locs 108 7415 (lw_Z below #[Value.ref b] s) (F0 m 1052 ls []) := by
  have hx := E.1
  have hb := E.2.1
  have hown := E.2.2.2.1
  have hts := E.2.2.2.2.1
  refine lv_aload_n hx hb dL_law_1052 rfl (lv_at hl 2 rfl) ?_
  refine x_vl E h (na := 0) (As := []) (kX11_trace_0 l g _  rfl) (oc_vh g) rfl gL_law_X11_trace rfl ⟨rfl, rfl⟩ rfl (by decide +kernel) ⟨Nat.le_of_ble_eq_true rfl, Nat.le_of_ble_eq_true rfl⟩ hl.1 rfl (Nat.le_of_ble_eq_true rfl) dL_law_1053 ⟨Nat.le_of_ble_eq_true rfl, Nat.le_of_ble_eq_true rfl⟩ (fun r1 s1 H locs q1 h => ?_)
  rcases q1 with ⟨rfl, mo1⟩
  refine lv_aload_n hx hb dL_law_1056 rfl (lv_at hl 1 rfl) ?_
  refine x_vl E h (na := 0) (As := []) (kX12_trace_0 l g _  (mo1.2.2.2.2.2.2.2.2.2.2.2.2.2.2.2.2.2)) (oc_mo g) rfl gL_law_X12_trace rfl ⟨rfl, rfl⟩ rfl (by decide +kernel) ⟨Nat.le_of_ble_eq_true rfl, Nat.le_of_ble_eq_true rfl⟩ hl.1 rfl (Nat.le_of_ble_eq_true rfl) dL_law_1057 ⟨Nat.le_of_ble_eq_true rfl, Nat.le_of_ble_eq_true rfl⟩ (fun r2 s2 H locs q2 h => ?_)
  rcases q2 with rfl
  refine W.lcmp hx hb dL_law_1060 ?_
  refine x_topI (v2 := 0) (by decide) ?_
  refine lv_if_eq (tgt := 1066) hx hb dL_law_1061 (by decide) (fun _ => ?_) (fun c => absurd (by decide) c)
  exact law_tail l E h hX hbl hbA hAw (lv_sub hl [0, 1, 2, 3] rfl)
