set_option maxHeartbeats 4000000 in
set_option maxRecDepth 100000 in
theorem lawc_0 {p : Program} {e : Env} {s : State} {m : MethodId} {below : List Frame} {meth : Method} {c : Code} (l : Launch) {b L : Nat} {xs : Nat → Int32} {g : CX} {ret : Option FieldType} (E : EV p s m #[Value.ref b] meth c cL_law RL wsL_law 4 ret g) (hX : va_X b L xs s s.heap) (hbl : b < s.heap.size) (hbA : ¬ Aw g b) {H : Heap} {ls : Array Slot} {locs : List Loc} {σ : ST} (hI : INV σ) (hJ : JJ σ) {i : Nat} (hL : L ≤ 2560) (h : HW g σ s H locs) (hi : i + 5 ≤ L) (hl : lv_has ls 4 [(3, .int (nI i)), (2, .ref (g.2.1 79)), (1, .ref (g.2.1 0)), (0, .ref b)]) (K : ∀ (τ : ST) (H : Heap) (locs : List Loc) (ls : Array Slot), INV τ → JJ τ → HW g τ s H locs → lv_has ls 4 [(3, .int (nI i)), (2, .ref (g.2.1 79)), (1, .ref (g.2.1 0)), (0, .ref b)] → W p l e room_1 s m #[Value.ref b] below meth c H locs 108 7415 (lw_Z below #[Value.ref b] s) (F0 m 1065 ls [])) : W p l e room_1 s m #[Value.ref b] below meth c H locs 108 7415 (lw_Z below #[Value.ref b] s) (F0 m 172 ls []) := by
  have hx := E.1
  have hb := E.2.1
  have hown := E.2.2.2.1
  have hts := E.2.2.2.2.1
  have hF : Fr [(0, 40)] [(0, 93)] σ σ := Fr.refl σ
  refine lv_aload_n hx hb dL_law_172 rfl (lv_at hl 2 rfl) ?_
  refine lv_aload_n hx hb dL_law_173 rfl (lv_at hl 3 rfl) ?_
  refine lv_iload_n hx hb dL_law_174 rfl (lv_at hl 0 rfl) ?_
  refine lv_iconst (v := 1) hx hb dL_law_175 (by decide) ?_
  refine lv_iadd hx hb dL_law_176 ?_
  refine x_topI (v2 := nI (i + 1)) (nI_add i 1) ?_
  refine x_sld E h hX hbl hbA (i := nI (i + 1)) (j := (i + 1)) (vp_in_nI (by omega) (by omega)) (nI_clamp (by omega)) dL_law_177 ?_
  refine lv_i2l hx hb dL_law_178 rfl ?_
  refine lv_topl (fun y1 e1 => ?_)
  refine lv_bipush (v := 32) hx hb dL_law_179 (by decide) ?_
  refine lv_lshl hx hb dL_law_181 rfl ?_
  refine lv_topl (fun y2 e2 => ?_)
  refine lv_aload_n hx hb dL_law_182 rfl (lv_at hl 3 rfl) ?_
  refine lv_iload_n hx hb dL_law_183 rfl (lv_at hl 0 rfl) ?_
  refine lv_iconst (v := 2) hx hb dL_law_184 (by decide) ?_
  refine lv_iadd hx hb dL_law_185 ?_
  refine x_topI (v2 := nI (i + 2)) (nI_add i 2) ?_
  refine x_sld E h hX hbl hbA (i := nI (i + 2)) (j := (i + 2)) (vp_in_nI (by omega) (by omega)) (nI_clamp (by omega)) dL_law_186 ?_
  refine lv_i2l hx hb dL_law_187 rfl ?_
  refine lv_topl (fun y3 e3 => ?_)
  refine lv_ldc2 (v := 4294967295) hx hb hown (hts (.constantLong RL 13 (4294967295)) (by decide +kernel)) dL_law_188 ?_
  refine lv_land hx hb dL_law_191 ?_
  refine lv_topl (fun y4 e4 => ?_)
  refine lv_lor hx hb dL_law_192 ?_
  refine lv_topl (fun y5 e5 => ?_)
  refine lv_aload_n hx hb dL_law_193 rfl (lv_at hl 3 rfl) ?_
  refine lv_iload_n hx hb dL_law_194 rfl (lv_at hl 0 rfl) ?_
  refine lv_iconst (v := 3) hx hb dL_law_195 (by decide) ?_
  refine lv_iadd hx hb dL_law_196 ?_
  refine x_topI (v2 := nI (i + 3)) (nI_add i 3) ?_
  refine x_sld E h hX hbl hbA (i := nI (i + 3)) (j := (i + 3)) (vp_in_nI (by omega) (by omega)) (nI_clamp (by omega)) dL_law_197 ?_
  refine x_vi E h (na := 2) (As := [.long y5, .int (xs (i + 3))]) (aX11_type_0 l g σ hI y5 (xs (i + 3))) (oc_vh g) rfl gL_law_X11_type rfl ⟨rfl, rfl⟩ rfl (by decide +kernel) ⟨Nat.le_of_ble_eq_true rfl, Nat.le_of_ble_eq_true rfl⟩ hl.1 rfl (Nat.le_of_ble_eq_true rfl) dL_law_198 ⟨Nat.le_of_ble_eq_true rfl, Nat.le_of_ble_eq_true rfl⟩ (fun r6 s6 H locs q6 h => ?_)
  obtain ⟨x6, hI6, f6⟩ := q6
  have hF6 := hF.call f6 (I := [(0, 40)]) (J := [(0, 93)]) rfl rfl
  refine lv_pop hx hb dL_law_201 rfl ?_
  refine lv_aload_n hx hb dL_law_202 rfl (lv_at hl 1 rfl) ?_
  refine lv_aload_n hx hb dL_law_203 rfl (lv_at hl 3 rfl) ?_
  refine lv_iload_n hx hb dL_law_204 rfl (lv_at hl 0 rfl) ?_
  refine lv_iconst (v := 1) hx hb dL_law_205 (by decide) ?_
  refine lv_iadd hx hb dL_law_206 ?_
  refine x_topI (v2 := nI (i + 1)) (nI_add i 1) ?_
  refine x_sld E h hX hbl hbA (i := nI (i + 1)) (j := (i + 1)) (vp_in_nI (by omega) (by omega)) (nI_clamp (by omega)) dL_law_207 ?_
  refine lv_i2l hx hb dL_law_208 rfl ?_
  refine lv_topl (fun y7 e7 => ?_)
  refine lv_bipush (v := 32) hx hb dL_law_209 (by decide) ?_
  refine lv_lshl hx hb dL_law_211 rfl ?_
  refine lv_topl (fun y8 e8 => ?_)
  refine lv_aload_n hx hb dL_law_212 rfl (lv_at hl 3 rfl) ?_
  refine lv_iload_n hx hb dL_law_213 rfl (lv_at hl 0 rfl) ?_
  refine lv_iconst (v := 2) hx hb dL_law_214 (by decide) ?_
  refine lv_iadd hx hb dL_law_215 ?_
  refine x_topI (v2 := nI (i + 2)) (nI_add i 2) ?_
  refine x_sld E h hX hbl hbA (i := nI (i + 2)) (j := (i + 2)) (vp_in_nI (by omega) (by omega)) (nI_clamp (by omega)) dL_law_216 ?_
  refine lv_i2l hx hb dL_law_217 rfl ?_
  refine lv_topl (fun y9 e9 => ?_)
  refine lv_ldc2 (v := 4294967295) hx hb hown (hts (.constantLong RL 13 (4294967295)) (by decide +kernel)) dL_law_218 ?_
  refine lv_land hx hb dL_law_221 ?_
  refine lv_topl (fun y10 e10 => ?_)
  refine lv_lor hx hb dL_law_222 ?_
  refine lv_topl (fun y11 e11 => ?_)
  refine lv_aload_n hx hb dL_law_223 rfl (lv_at hl 3 rfl) ?_
  refine lv_iload_n hx hb dL_law_224 rfl (lv_at hl 0 rfl) ?_
  refine lv_iconst (v := 3) hx hb dL_law_225 (by decide) ?_
  refine lv_iadd hx hb dL_law_226 ?_
  refine x_topI (v2 := nI (i + 3)) (nI_add i 3) ?_
  refine x_sld E h hX hbl hbA (i := nI (i + 3)) (j := (i + 3)) (vp_in_nI (by omega) (by omega)) (nI_clamp (by omega)) dL_law_227 ?_
  refine x_vi E h (na := 2) (As := [.long y11, .int (xs (i + 3))]) (aX12_type_0 l g s6 hI6 y11 (xs (i + 3))) (oc_mo g) rfl gL_law_X12_type rfl ⟨rfl, rfl⟩ rfl (by decide +kernel) ⟨Nat.le_of_ble_eq_true rfl, Nat.le_of_ble_eq_true rfl⟩ hl.1 rfl (Nat.le_of_ble_eq_true rfl) dL_law_228 ⟨Nat.le_of_ble_eq_true rfl, Nat.le_of_ble_eq_true rfl⟩ (fun r12 s12 H locs q12 h => ?_)
  obtain ⟨x12, hI12, f12⟩ := q12
  have hF12 := hF6.call f12 (I := [(0, 40)]) (J := [(0, 93)]) rfl rfl
  refine lv_pop hx hb dL_law_231 rfl ?_
  refine lv_goto (tgt := 1065) hx hb dL_law_232 (by decide) ?_
  subst e1 e2 e3 e4 e5 e7 e8 e9 e10 e11
  exact K s12 _ _ _ hI12 (jc_type hJ hI x6 hI6 f6 x12 hI12 f12).1 h (lv_sub hl [0, 1, 2, 3] rfl)
set_option maxHeartbeats 4000000 in
set_option maxRecDepth 100000 in
theorem lawc_1 {p : Program} {e : Env} {s : State} {m : MethodId} {below : List Frame} {meth : Method} {c : Code} (l : Launch) {b L : Nat} {xs : Nat → Int32} {g : CX} {ret : Option FieldType} (E : EV p s m #[Value.ref b] meth c cL_law RL wsL_law 4 ret g) (hX : va_X b L xs s s.heap) (hbl : b < s.heap.size) (hbA : ¬ Aw g b) {H : Heap} {ls : Array Slot} {locs : List Loc} {σ : ST} (hI : INV σ) (hJ : JJ σ) {i : Nat} (hL : L ≤ 2560) (h : HW g σ s H locs) (hi : i + 5 ≤ L) (hl : lv_has ls 4 [(3, .int (nI i)), (2, .ref (g.2.1 79)), (1, .ref (g.2.1 0)), (0, .ref b)]) (K : ∀ (τ : ST) (H : Heap) (locs : List Loc) (ls : Array Slot), INV τ → JJ τ → HW g τ s H locs → lv_has ls 4 [(3, .int (nI i)), (2, .ref (g.2.1 79)), (1, .ref (g.2.1 0)), (0, .ref b)] → W p l e room_1 s m #[Value.ref b] below meth c H locs 108 7415 (lw_Z below #[Value.ref b] s) (F0 m 1065 ls [])) : W p l e room_1 s m #[Value.ref b] below meth c H locs 108 7415 (lw_Z below #[Value.ref b] s) (F0 m 235 ls []) := by
  have hx := E.1
  have hb := E.2.1
  have hown := E.2.2.2.1
  have hts := E.2.2.2.2.1
  have hF : Fr [(0, 40)] [(0, 93)] σ σ := Fr.refl σ
  refine lv_aload_n hx hb dL_law_235 rfl (lv_at hl 2 rfl) ?_
  refine x_vi E h (na := 0) (As := []) (aX11_clear_0 l g σ hI) (oc_vh g) rfl gL_law_X11_clear rfl ⟨rfl, rfl⟩ rfl (by decide +kernel) ⟨Nat.le_of_ble_eq_true rfl, Nat.le_of_ble_eq_true rfl⟩ hl.1 rfl (Nat.le_of_ble_eq_true rfl) dL_law_236 ⟨Nat.le_of_ble_eq_true rfl, Nat.le_of_ble_eq_true rfl⟩ (fun r1 s1 H locs q1 h => ?_)
  obtain ⟨x1, hI1, f1⟩ := q1
  have hF1 := hF.call f1 (I := [(0, 40)]) (J := [(0, 93)]) rfl rfl
  refine lv_pop hx hb dL_law_239 rfl ?_
  refine lv_aload_n hx hb dL_law_240 rfl (lv_at hl 1 rfl) ?_
  refine x_vi E h (na := 0) (As := []) (aX12_clear_0 l g s1 hI1) (oc_mo g) rfl gL_law_X12_clear rfl ⟨rfl, rfl⟩ rfl (by decide +kernel) ⟨Nat.le_of_ble_eq_true rfl, Nat.le_of_ble_eq_true rfl⟩ hl.1 rfl (Nat.le_of_ble_eq_true rfl) dL_law_241 ⟨Nat.le_of_ble_eq_true rfl, Nat.le_of_ble_eq_true rfl⟩ (fun r2 s2 H locs q2 h => ?_)
  obtain ⟨x2, hI2, f2⟩ := q2
  have hF2 := hF1.call f2 (I := [(0, 40)]) (J := [(0, 93)]) rfl rfl
  refine lv_pop hx hb dL_law_244 rfl ?_
  refine lv_goto (tgt := 1065) hx hb dL_law_245 (by decide) ?_
  exact K s2 _ _ _ hI2 (jc_clear hJ hI x1 hI1 f1 x2 hI2 f2).1 h (lv_sub hl [0, 1, 2, 3] rfl)
set_option maxHeartbeats 4000000 in
set_option maxRecDepth 100000 in
theorem lawc_2 {p : Program} {e : Env} {s : State} {m : MethodId} {below : List Frame} {meth : Method} {c : Code} (l : Launch) {b L : Nat} {xs : Nat → Int32} {g : CX} {ret : Option FieldType} (E : EV p s m #[Value.ref b] meth c cL_law RL wsL_law 4 ret g) (hX : va_X b L xs s s.heap) (hbl : b < s.heap.size) (hbA : ¬ Aw g b) {H : Heap} {ls : Array Slot} {locs : List Loc} {σ : ST} (hI : INV σ) (hJ : JJ σ) {i : Nat} (hL : L ≤ 2560) (h : HW g σ s H locs) (hi : i + 5 ≤ L) (hl : lv_has ls 4 [(3, .int (nI i)), (2, .ref (g.2.1 79)), (1, .ref (g.2.1 0)), (0, .ref b)]) (K : ∀ (τ : ST) (H : Heap) (locs : List Loc) (ls : Array Slot), INV τ → JJ τ → HW g τ s H locs → lv_has ls 4 [(3, .int (nI i)), (2, .ref (g.2.1 79)), (1, .ref (g.2.1 0)), (0, .ref b)] → W p l e room_1 s m #[Value.ref b] below meth c H locs 108 7415 (lw_Z below #[Value.ref b] s) (F0 m 1065 ls [])) : W p l e room_1 s m #[Value.ref b] below meth c H locs 108 7415 (lw_Z below #[Value.ref b] s) (F0 m 248 ls []) := by
  have hx := E.1
  have hb := E.2.1
  have hown := E.2.2.2.1
  have hts := E.2.2.2.2.1
  have hF : Fr [(0, 40)] [(0, 93)] σ σ := Fr.refl σ
  refine lv_aload_n hx hb dL_law_248 rfl (lv_at hl 2 rfl) ?_
  refine x_vi E h (na := 0) (As := []) (aX11_rules_0 l g σ hI) (oc_vh g) rfl gL_law_X11_rules rfl ⟨rfl, rfl⟩ rfl (by decide +kernel) ⟨Nat.le_of_ble_eq_true rfl, Nat.le_of_ble_eq_true rfl⟩ hl.1 rfl (Nat.le_of_ble_eq_true rfl) dL_law_249 ⟨Nat.le_of_ble_eq_true rfl, Nat.le_of_ble_eq_true rfl⟩ (fun r1 s1 H locs q1 h => ?_)
  obtain ⟨x1, hI1, f1⟩ := q1
  have hF1 := hF.call f1 (I := [(0, 40)]) (J := [(0, 93)]) rfl rfl
  refine lv_pop hx hb dL_law_252 rfl ?_
  refine lv_aload_n hx hb dL_law_253 rfl (lv_at hl 1 rfl) ?_
  refine x_vi E h (na := 0) (As := []) (aX12_rules_0 l g s1 hI1) (oc_mo g) rfl gL_law_X12_rules rfl ⟨rfl, rfl⟩ rfl (by decide +kernel) ⟨Nat.le_of_ble_eq_true rfl, Nat.le_of_ble_eq_true rfl⟩ hl.1 rfl (Nat.le_of_ble_eq_true rfl) dL_law_254 ⟨Nat.le_of_ble_eq_true rfl, Nat.le_of_ble_eq_true rfl⟩ (fun r2 s2 H locs q2 h => ?_)
  obtain ⟨x2, hI2, f2⟩ := q2
  have hF2 := hF1.call f2 (I := [(0, 40)]) (J := [(0, 93)]) rfl rfl
  refine lv_pop hx hb dL_law_257 rfl ?_
  refine lv_goto (tgt := 1065) hx hb dL_law_258 (by decide) ?_
  exact K s2 _ _ _ hI2 (jc_rules hJ hI x1 hI1 f1 x2 hI2 f2).1 h (lv_sub hl [0, 1, 2, 3] rfl)
set_option maxHeartbeats 4000000 in
set_option maxRecDepth 100000 in
theorem lawc_3 {p : Program} {e : Env} {s : State} {m : MethodId} {below : List Frame} {meth : Method} {c : Code} (l : Launch) {b L : Nat} {xs : Nat → Int32} {g : CX} {ret : Option FieldType} (E : EV p s m #[Value.ref b] meth c cL_law RL wsL_law 4 ret g) (hX : va_X b L xs s s.heap) (hbl : b < s.heap.size) (hbA : ¬ Aw g b) {H : Heap} {ls : Array Slot} {locs : List Loc} {σ : ST} (hI : INV σ) (hJ : JJ σ) {i : Nat} (hL : L ≤ 2560) (h : HW g σ s H locs) (hi : i + 5 ≤ L) (hl : lv_has ls 4 [(3, .int (nI i)), (2, .ref (g.2.1 79)), (1, .ref (g.2.1 0)), (0, .ref b)]) (K : ∀ (τ : ST) (H : Heap) (locs : List Loc) (ls : Array Slot), INV τ → JJ τ → HW g τ s H locs → lv_has ls 4 [(3, .int (nI i)), (2, .ref (g.2.1 79)), (1, .ref (g.2.1 0)), (0, .ref b)] → W p l e room_1 s m #[Value.ref b] below meth c H locs 108 7415 (lw_Z below #[Value.ref b] s) (F0 m 1065 ls [])) : W p l e room_1 s m #[Value.ref b] below meth c H locs 108 7415 (lw_Z below #[Value.ref b] s) (F0 m 261 ls []) := by
  have hx := E.1
  have hb := E.2.1
  have hown := E.2.2.2.1
  have hts := E.2.2.2.2.1
  have hF : Fr [(0, 40)] [(0, 93)] σ σ := Fr.refl σ
  refine lv_aload_n hx hb dL_law_261 rfl (lv_at hl 2 rfl) ?_
  refine lv_aload_n hx hb dL_law_262 rfl (lv_at hl 3 rfl) ?_
  refine lv_iload_n hx hb dL_law_263 rfl (lv_at hl 0 rfl) ?_
  refine lv_iconst (v := 1) hx hb dL_law_264 (by decide) ?_
  refine lv_iadd hx hb dL_law_265 ?_
  refine x_topI (v2 := nI (i + 1)) (nI_add i 1) ?_
  refine x_sld E h hX hbl hbA (i := nI (i + 1)) (j := (i + 1)) (vp_in_nI (by omega) (by omega)) (nI_clamp (by omega)) dL_law_266 ?_
  refine x_vi E h (na := 1) (As := [.int (xs (i + 1))]) (aX11_rule_0 l g σ hI (xs (i + 1))) (oc_vh g) rfl gL_law_X11_rule rfl ⟨rfl, rfl⟩ rfl (by decide +kernel) ⟨Nat.le_of_ble_eq_true rfl, Nat.le_of_ble_eq_true rfl⟩ hl.1 rfl (Nat.le_of_ble_eq_true rfl) dL_law_267 ⟨Nat.le_of_ble_eq_true rfl, Nat.le_of_ble_eq_true rfl⟩ (fun r1 s1 H locs q1 h => ?_)
  obtain ⟨x1, rfl⟩ := q1
  refine lv_pop hx hb dL_law_270 rfl ?_
  refine lv_aload_n hx hb dL_law_271 rfl (lv_at hl 1 rfl) ?_
  refine lv_aload_n hx hb dL_law_272 rfl (lv_at hl 3 rfl) ?_
  refine lv_iload_n hx hb dL_law_273 rfl (lv_at hl 0 rfl) ?_
  refine lv_iconst (v := 1) hx hb dL_law_274 (by decide) ?_
  refine lv_iadd hx hb dL_law_275 ?_
  refine x_topI (v2 := nI (i + 1)) (nI_add i 1) ?_
  refine x_sld E h hX hbl hbA (i := nI (i + 1)) (j := (i + 1)) (vp_in_nI (by omega) (by omega)) (nI_clamp (by omega)) dL_law_276 ?_
  refine x_vi E h (na := 1) (As := [.int (xs (i + 1))]) (aX12_rule_0 l g σ hI (xs (i + 1))) (oc_mo g) rfl gL_law_X12_rule rfl ⟨rfl, rfl⟩ rfl (by decide +kernel) ⟨Nat.le_of_ble_eq_true rfl, Nat.le_of_ble_eq_true rfl⟩ hl.1 rfl (Nat.le_of_ble_eq_true rfl) dL_law_277 ⟨Nat.le_of_ble_eq_true rfl, Nat.le_of_ble_eq_true rfl⟩ (fun r2 s2 H locs q2 h => ?_)
  obtain ⟨x2, rfl⟩ := q2
  refine lv_pop hx hb dL_law_280 rfl ?_
  refine lv_goto (tgt := 1065) hx hb dL_law_281 (by decide) ?_
  exact K σ _ _ _ hI (jc_rule hJ hI x1 x2).1 h (lv_sub hl [0, 1, 2, 3] rfl)
set_option maxHeartbeats 4000000 in
set_option maxRecDepth 100000 in
theorem lawc_4 {p : Program} {e : Env} {s : State} {m : MethodId} {below : List Frame} {meth : Method} {c : Code} (l : Launch) {b L : Nat} {xs : Nat → Int32} {g : CX} {ret : Option FieldType} (E : EV p s m #[Value.ref b] meth c cL_law RL wsL_law 4 ret g) (hX : va_X b L xs s s.heap) (hbl : b < s.heap.size) (hbA : ¬ Aw g b) {H : Heap} {ls : Array Slot} {locs : List Loc} {σ : ST} (hI : INV σ) (hJ : JJ σ) {i : Nat} (hL : L ≤ 2560) (h : HW g σ s H locs) (hi : i + 5 ≤ L) (hl : lv_has ls 4 [(3, .int (nI i)), (2, .ref (g.2.1 79)), (1, .ref (g.2.1 0)), (0, .ref b)]) (K : ∀ (τ : ST) (H : Heap) (locs : List Loc) (ls : Array Slot), INV τ → JJ τ → HW g τ s H locs → lv_has ls 4 [(3, .int (nI i)), (2, .ref (g.2.1 79)), (1, .ref (g.2.1 0)), (0, .ref b)] → W p l e room_1 s m #[Value.ref b] below meth c H locs 108 7415 (lw_Z below #[Value.ref b] s) (F0 m 1065 ls [])) : W p l e room_1 s m #[Value.ref b] below meth c H locs 108 7415 (lw_Z below #[Value.ref b] s) (F0 m 284 ls []) := by
  have hx := E.1
  have hb := E.2.1
  have hown := E.2.2.2.1
  have hts := E.2.2.2.2.1
  have hF : Fr [(0, 40)] [(0, 93)] σ σ := Fr.refl σ
  refine lv_aload_n hx hb dL_law_284 rfl (lv_at hl 2 rfl) ?_
  refine lv_aload_n hx hb dL_law_285 rfl (lv_at hl 3 rfl) ?_
  refine lv_iload_n hx hb dL_law_286 rfl (lv_at hl 0 rfl) ?_
  refine lv_iconst (v := 1) hx hb dL_law_287 (by decide) ?_
  refine lv_iadd hx hb dL_law_288 ?_
  refine x_topI (v2 := nI (i + 1)) (nI_add i 1) ?_
  refine x_sld E h hX hbl hbA (i := nI (i + 1)) (j := (i + 1)) (vp_in_nI (by omega) (by omega)) (nI_clamp (by omega)) dL_law_289 ?_
  refine lv_aload_n hx hb dL_law_290 rfl (lv_at hl 3 rfl) ?_
  refine lv_iload_n hx hb dL_law_291 rfl (lv_at hl 0 rfl) ?_
  refine lv_iconst (v := 2) hx hb dL_law_292 (by decide) ?_
  refine lv_iadd hx hb dL_law_293 ?_
  refine x_topI (v2 := nI (i + 2)) (nI_add i 2) ?_
  refine x_sld E h hX hbl hbA (i := nI (i + 2)) (j := (i + 2)) (vp_in_nI (by omega) (by omega)) (nI_clamp (by omega)) dL_law_294 ?_
  refine lv_aload_n hx hb dL_law_295 rfl (lv_at hl 3 rfl) ?_
  refine lv_iload_n hx hb dL_law_296 rfl (lv_at hl 0 rfl) ?_
  refine lv_iconst (v := 3) hx hb dL_law_297 (by decide) ?_
  refine lv_iadd hx hb dL_law_298 ?_
  refine x_topI (v2 := nI (i + 3)) (nI_add i 3) ?_
  refine x_sld E h hX hbl hbA (i := nI (i + 3)) (j := (i + 3)) (vp_in_nI (by omega) (by omega)) (nI_clamp (by omega)) dL_law_299 ?_
  refine lv_aload_n hx hb dL_law_300 rfl (lv_at hl 3 rfl) ?_
  refine lv_iload_n hx hb dL_law_301 rfl (lv_at hl 0 rfl) ?_
  refine lv_iconst (v := 4) hx hb dL_law_302 (by decide) ?_
  refine lv_iadd hx hb dL_law_303 ?_
  refine x_topI (v2 := nI (i + 4)) (nI_add i 4) ?_
  refine x_sld E h hX hbl hbA (i := nI (i + 4)) (j := (i + 4)) (vp_in_nI (by omega) (by omega)) (nI_clamp (by omega)) dL_law_304 ?_
  refine x_vi E h (na := 4) (As := [.int (xs (i + 1)), .int (xs (i + 2)), .int (xs (i + 3)), .int (xs (i + 4))]) (aX11_row_0 l g σ hI (xs (i + 1)) (xs (i + 2)) (xs (i + 3)) (xs (i + 4))) (oc_vh g) rfl gL_law_X11_row rfl ⟨rfl, rfl⟩ rfl (by decide +kernel) ⟨Nat.le_of_ble_eq_true rfl, Nat.le_of_ble_eq_true rfl⟩ hl.1 rfl (Nat.le_of_ble_eq_true rfl) dL_law_305 ⟨Nat.le_of_ble_eq_true rfl, Nat.le_of_ble_eq_true rfl⟩ (fun r1 s1 H locs q1 h => ?_)
  obtain ⟨x1, hI1, f1⟩ := q1
  have hF1 := hF.call f1 (I := [(0, 40)]) (J := [(0, 93)]) rfl rfl
  refine lv_pop hx hb dL_law_308 rfl ?_
  refine lv_aload_n hx hb dL_law_309 rfl (lv_at hl 1 rfl) ?_
  refine lv_aload_n hx hb dL_law_310 rfl (lv_at hl 3 rfl) ?_
  refine lv_iload_n hx hb dL_law_311 rfl (lv_at hl 0 rfl) ?_
  refine lv_iconst (v := 1) hx hb dL_law_312 (by decide) ?_
  refine lv_iadd hx hb dL_law_313 ?_
  refine x_topI (v2 := nI (i + 1)) (nI_add i 1) ?_
  refine x_sld E h hX hbl hbA (i := nI (i + 1)) (j := (i + 1)) (vp_in_nI (by omega) (by omega)) (nI_clamp (by omega)) dL_law_314 ?_
  refine lv_aload_n hx hb dL_law_315 rfl (lv_at hl 3 rfl) ?_
  refine lv_iload_n hx hb dL_law_316 rfl (lv_at hl 0 rfl) ?_
  refine lv_iconst (v := 2) hx hb dL_law_317 (by decide) ?_
  refine lv_iadd hx hb dL_law_318 ?_
  refine x_topI (v2 := nI (i + 2)) (nI_add i 2) ?_
  refine x_sld E h hX hbl hbA (i := nI (i + 2)) (j := (i + 2)) (vp_in_nI (by omega) (by omega)) (nI_clamp (by omega)) dL_law_319 ?_
  refine lv_aload_n hx hb dL_law_320 rfl (lv_at hl 3 rfl) ?_
  refine lv_iload_n hx hb dL_law_321 rfl (lv_at hl 0 rfl) ?_
  refine lv_iconst (v := 3) hx hb dL_law_322 (by decide) ?_
  refine lv_iadd hx hb dL_law_323 ?_
  refine x_topI (v2 := nI (i + 3)) (nI_add i 3) ?_
  refine x_sld E h hX hbl hbA (i := nI (i + 3)) (j := (i + 3)) (vp_in_nI (by omega) (by omega)) (nI_clamp (by omega)) dL_law_324 ?_
  refine lv_aload_n hx hb dL_law_325 rfl (lv_at hl 3 rfl) ?_
  refine lv_iload_n hx hb dL_law_326 rfl (lv_at hl 0 rfl) ?_
  refine lv_iconst (v := 4) hx hb dL_law_327 (by decide) ?_
  refine lv_iadd hx hb dL_law_328 ?_
  refine x_topI (v2 := nI (i + 4)) (nI_add i 4) ?_
  refine x_sld E h hX hbl hbA (i := nI (i + 4)) (j := (i + 4)) (vp_in_nI (by omega) (by omega)) (nI_clamp (by omega)) dL_law_329 ?_
  refine x_vi E h (na := 4) (As := [.int (xs (i + 1)), .int (xs (i + 2)), .int (xs (i + 3)), .int (xs (i + 4))]) (aX12_row_0 l g s1 hI1 (xs (i + 1)) (xs (i + 2)) (xs (i + 3)) (xs (i + 4))) (oc_mo g) rfl gL_law_X12_row rfl ⟨rfl, rfl⟩ rfl (by decide +kernel) ⟨Nat.le_of_ble_eq_true rfl, Nat.le_of_ble_eq_true rfl⟩ hl.1 rfl (Nat.le_of_ble_eq_true rfl) dL_law_330 ⟨Nat.le_of_ble_eq_true rfl, Nat.le_of_ble_eq_true rfl⟩ (fun r2 s2 H locs q2 h => ?_)
  obtain ⟨x2, hI2, f2⟩ := q2
  have hF2 := hF1.call f2 (I := [(0, 40)]) (J := [(0, 93)]) rfl rfl
  refine lv_pop hx hb dL_law_333 rfl ?_
  refine lv_goto (tgt := 1065) hx hb dL_law_334 (by decide) ?_
  exact K s2 _ _ _ hI2 (jc_row hJ hI x1 hI1 f1 x2 hI2 f2).1 h (lv_sub hl [0, 1, 2, 3] rfl)
set_option maxHeartbeats 4000000 in
set_option maxRecDepth 100000 in
theorem lawc_5 {p : Program} {e : Env} {s : State} {m : MethodId} {below : List Frame} {meth : Method} {c : Code} (l : Launch) {b L : Nat} {xs : Nat → Int32} {g : CX} {ret : Option FieldType} (E : EV p s m #[Value.ref b] meth c cL_law RL wsL_law 4 ret g) (hX : va_X b L xs s s.heap) (hbl : b < s.heap.size) (hbA : ¬ Aw g b) {H : Heap} {ls : Array Slot} {locs : List Loc} {σ : ST} (hI : INV σ) (hJ : JJ σ) {i : Nat} (hL : L ≤ 2560) (h : HW g σ s H locs) (hi : i + 5 ≤ L) (hl : lv_has ls 4 [(3, .int (nI i)), (2, .ref (g.2.1 79)), (1, .ref (g.2.1 0)), (0, .ref b)]) (K : ∀ (τ : ST) (H : Heap) (locs : List Loc) (ls : Array Slot), INV τ → JJ τ → HW g τ s H locs → lv_has ls 4 [(3, .int (nI i)), (2, .ref (g.2.1 79)), (1, .ref (g.2.1 0)), (0, .ref b)] → W p l e room_1 s m #[Value.ref b] below meth c H locs 108 7415 (lw_Z below #[Value.ref b] s) (F0 m 1065 ls [])) : W p l e room_1 s m #[Value.ref b] below meth c H locs 108 7415 (lw_Z below #[Value.ref b] s) (F0 m 337 ls []) := by
  have hx := E.1
  have hb := E.2.1
  have hown := E.2.2.2.1
  have hts := E.2.2.2.2.1
  have hF : Fr [(0, 40)] [(0, 93)] σ σ := Fr.refl σ
  refine lv_aload_n hx hb dL_law_337 rfl (lv_at hl 2 rfl) ?_
  refine lv_aload_n hx hb dL_law_338 rfl (lv_at hl 3 rfl) ?_
  refine lv_iload_n hx hb dL_law_339 rfl (lv_at hl 0 rfl) ?_
  refine lv_iconst (v := 1) hx hb dL_law_340 (by decide) ?_
  refine lv_iadd hx hb dL_law_341 ?_
  refine x_topI (v2 := nI (i + 1)) (nI_add i 1) ?_
  refine x_sld E h hX hbl hbA (i := nI (i + 1)) (j := (i + 1)) (vp_in_nI (by omega) (by omega)) (nI_clamp (by omega)) dL_law_342 ?_
  refine x_vi E h (na := 1) (As := [.int (xs (i + 1))]) (aX11_deaf_0 l g σ hI (xs (i + 1))) (oc_vh g) rfl gL_law_X11_deaf rfl ⟨rfl, rfl⟩ rfl (by decide +kernel) ⟨Nat.le_of_ble_eq_true rfl, Nat.le_of_ble_eq_true rfl⟩ hl.1 rfl (Nat.le_of_ble_eq_true rfl) dL_law_343 ⟨Nat.le_of_ble_eq_true rfl, Nat.le_of_ble_eq_true rfl⟩ (fun r1 s1 H locs q1 h => ?_)
  obtain ⟨x1, hI1, f1⟩ := q1
  have hF1 := hF.call f1 (I := [(0, 40)]) (J := [(0, 93)]) rfl rfl
  refine lv_pop hx hb dL_law_346 rfl ?_
  refine lv_aload_n hx hb dL_law_347 rfl (lv_at hl 1 rfl) ?_
  refine lv_aload_n hx hb dL_law_348 rfl (lv_at hl 3 rfl) ?_
  refine lv_iload_n hx hb dL_law_349 rfl (lv_at hl 0 rfl) ?_
  refine lv_iconst (v := 1) hx hb dL_law_350 (by decide) ?_
  refine lv_iadd hx hb dL_law_351 ?_
  refine x_topI (v2 := nI (i + 1)) (nI_add i 1) ?_
  refine x_sld E h hX hbl hbA (i := nI (i + 1)) (j := (i + 1)) (vp_in_nI (by omega) (by omega)) (nI_clamp (by omega)) dL_law_352 ?_
  refine x_vi E h (na := 1) (As := [.int (xs (i + 1))]) (aX12_deaf_0 l g s1 hI1 (xs (i + 1))) (oc_mo g) rfl gL_law_X12_deaf rfl ⟨rfl, rfl⟩ rfl (by decide +kernel) ⟨Nat.le_of_ble_eq_true rfl, Nat.le_of_ble_eq_true rfl⟩ hl.1 rfl (Nat.le_of_ble_eq_true rfl) dL_law_353 ⟨Nat.le_of_ble_eq_true rfl, Nat.le_of_ble_eq_true rfl⟩ (fun r2 s2 H locs q2 h => ?_)
  obtain ⟨x2, hI2, f2⟩ := q2
  have hF2 := hF1.call f2 (I := [(0, 40)]) (J := [(0, 93)]) rfl rfl
  refine lv_pop hx hb dL_law_356 rfl ?_
  refine lv_goto (tgt := 1065) hx hb dL_law_357 (by decide) ?_
  exact K s2 _ _ _ hI2 (jc_deaf hJ hI x1 hI1 f1 x2 hI2 f2).1 h (lv_sub hl [0, 1, 2, 3] rfl)
set_option maxHeartbeats 4000000 in
set_option maxRecDepth 100000 in
theorem lawc_6 {p : Program} {e : Env} {s : State} {m : MethodId} {below : List Frame} {meth : Method} {c : Code} (l : Launch) {b L : Nat} {xs : Nat → Int32} {g : CX} {ret : Option FieldType} (E : EV p s m #[Value.ref b] meth c cL_law RL wsL_law 4 ret g) (hX : va_X b L xs s s.heap) (hbl : b < s.heap.size) (hbA : ¬ Aw g b) {H : Heap} {ls : Array Slot} {locs : List Loc} {σ : ST} (hI : INV σ) (hJ : JJ σ) {i : Nat} (hL : L ≤ 2560) (h : HW g σ s H locs) (hi : i + 5 ≤ L) (hl : lv_has ls 4 [(3, .int (nI i)), (2, .ref (g.2.1 79)), (1, .ref (g.2.1 0)), (0, .ref b)]) (K : ∀ (τ : ST) (H : Heap) (locs : List Loc) (ls : Array Slot), INV τ → JJ τ → HW g τ s H locs → lv_has ls 4 [(3, .int (nI i)), (2, .ref (g.2.1 79)), (1, .ref (g.2.1 0)), (0, .ref b)] → W p l e room_1 s m #[Value.ref b] below meth c H locs 108 7415 (lw_Z below #[Value.ref b] s) (F0 m 1065 ls [])) : W p l e room_1 s m #[Value.ref b] below meth c H locs 108 7415 (lw_Z below #[Value.ref b] s) (F0 m 360 ls []) := by
  have hx := E.1
  have hb := E.2.1
  have hown := E.2.2.2.1
  have hts := E.2.2.2.2.1
  have hF : Fr [(0, 40)] [(0, 93)] σ σ := Fr.refl σ
  refine lv_aload_n hx hb dL_law_360 rfl (lv_at hl 2 rfl) ?_
  refine lv_aload_n hx hb dL_law_361 rfl (lv_at hl 3 rfl) ?_
  refine lv_iload_n hx hb dL_law_362 rfl (lv_at hl 0 rfl) ?_
  refine lv_iconst (v := 1) hx hb dL_law_363 (by decide) ?_
  refine lv_iadd hx hb dL_law_364 ?_
  refine x_topI (v2 := nI (i + 1)) (nI_add i 1) ?_
  refine x_sld E h hX hbl hbA (i := nI (i + 1)) (j := (i + 1)) (vp_in_nI (by omega) (by omega)) (nI_clamp (by omega)) dL_law_365 ?_
  refine lv_aload_n hx hb dL_law_366 rfl (lv_at hl 3 rfl) ?_
  refine lv_iload_n hx hb dL_law_367 rfl (lv_at hl 0 rfl) ?_
  refine lv_iconst (v := 2) hx hb dL_law_368 (by decide) ?_
  refine lv_iadd hx hb dL_law_369 ?_
  refine x_topI (v2 := nI (i + 2)) (nI_add i 2) ?_
  refine x_sld E h hX hbl hbA (i := nI (i + 2)) (j := (i + 2)) (vp_in_nI (by omega) (by omega)) (nI_clamp (by omega)) dL_law_370 ?_
  refine lv_aload_n hx hb dL_law_371 rfl (lv_at hl 3 rfl) ?_
  refine lv_iload_n hx hb dL_law_372 rfl (lv_at hl 0 rfl) ?_
  refine lv_iconst (v := 3) hx hb dL_law_373 (by decide) ?_
  refine lv_iadd hx hb dL_law_374 ?_
  refine x_topI (v2 := nI (i + 3)) (nI_add i 3) ?_
  refine x_sld E h hX hbl hbA (i := nI (i + 3)) (j := (i + 3)) (vp_in_nI (by omega) (by omega)) (nI_clamp (by omega)) dL_law_375 ?_
  refine x_vi E h (na := 3) (As := [.int (xs (i + 1)), .int (xs (i + 2)), .int (xs (i + 3))]) (aX11_out_0 l g σ hI (xs (i + 1)) (xs (i + 2)) (xs (i + 3))) (oc_vh g) rfl gL_law_X11_out rfl ⟨rfl, rfl⟩ rfl (by decide +kernel) ⟨Nat.le_of_ble_eq_true rfl, Nat.le_of_ble_eq_true rfl⟩ hl.1 rfl (Nat.le_of_ble_eq_true rfl) dL_law_376 ⟨Nat.le_of_ble_eq_true rfl, Nat.le_of_ble_eq_true rfl⟩ (fun r1 s1 H locs q1 h => ?_)
  obtain ⟨x1, hI1, f1⟩ := q1
  have hF1 := hF.call f1 (I := [(0, 40)]) (J := [(0, 93)]) rfl rfl
  refine lv_pop hx hb dL_law_379 rfl ?_
  refine lv_aload_n hx hb dL_law_380 rfl (lv_at hl 1 rfl) ?_
  refine lv_aload_n hx hb dL_law_381 rfl (lv_at hl 3 rfl) ?_
  refine lv_iload_n hx hb dL_law_382 rfl (lv_at hl 0 rfl) ?_
  refine lv_iconst (v := 1) hx hb dL_law_383 (by decide) ?_
  refine lv_iadd hx hb dL_law_384 ?_
  refine x_topI (v2 := nI (i + 1)) (nI_add i 1) ?_
  refine x_sld E h hX hbl hbA (i := nI (i + 1)) (j := (i + 1)) (vp_in_nI (by omega) (by omega)) (nI_clamp (by omega)) dL_law_385 ?_
  refine lv_aload_n hx hb dL_law_386 rfl (lv_at hl 3 rfl) ?_
  refine lv_iload_n hx hb dL_law_387 rfl (lv_at hl 0 rfl) ?_
  refine lv_iconst (v := 2) hx hb dL_law_388 (by decide) ?_
  refine lv_iadd hx hb dL_law_389 ?_
  refine x_topI (v2 := nI (i + 2)) (nI_add i 2) ?_
  refine x_sld E h hX hbl hbA (i := nI (i + 2)) (j := (i + 2)) (vp_in_nI (by omega) (by omega)) (nI_clamp (by omega)) dL_law_390 ?_
  refine lv_aload_n hx hb dL_law_391 rfl (lv_at hl 3 rfl) ?_
  refine lv_iload_n hx hb dL_law_392 rfl (lv_at hl 0 rfl) ?_
  refine lv_iconst (v := 3) hx hb dL_law_393 (by decide) ?_
  refine lv_iadd hx hb dL_law_394 ?_
  refine x_topI (v2 := nI (i + 3)) (nI_add i 3) ?_
  refine x_sld E h hX hbl hbA (i := nI (i + 3)) (j := (i + 3)) (vp_in_nI (by omega) (by omega)) (nI_clamp (by omega)) dL_law_395 ?_
  refine x_vi E h (na := 3) (As := [.int (xs (i + 1)), .int (xs (i + 2)), .int (xs (i + 3))]) (aX12_out_0 l g s1 hI1 (xs (i + 1)) (xs (i + 2)) (xs (i + 3))) (oc_mo g) rfl gL_law_X12_out rfl ⟨rfl, rfl⟩ rfl (by decide +kernel) ⟨Nat.le_of_ble_eq_true rfl, Nat.le_of_ble_eq_true rfl⟩ hl.1 rfl (Nat.le_of_ble_eq_true rfl) dL_law_396 ⟨Nat.le_of_ble_eq_true rfl, Nat.le_of_ble_eq_true rfl⟩ (fun r2 s2 H locs q2 h => ?_)
  obtain ⟨x2, hI2, f2⟩ := q2
  have hF2 := hF1.call f2 (I := [(0, 40)]) (J := [(0, 93)]) rfl rfl
  refine lv_pop hx hb dL_law_399 rfl ?_
  refine lv_goto (tgt := 1065) hx hb dL_law_400 (by decide) ?_
  exact K s2 _ _ _ hI2 (jc_out hJ hI x1 hI1 f1 x2 hI2 f2).1 h (lv_sub hl [0, 1, 2, 3] rfl)
set_option maxHeartbeats 4000000 in
set_option maxRecDepth 100000 in
theorem lawc_7 {p : Program} {e : Env} {s : State} {m : MethodId} {below : List Frame} {meth : Method} {c : Code} (l : Launch) {b L : Nat} {xs : Nat → Int32} {g : CX} {ret : Option FieldType} (E : EV p s m #[Value.ref b] meth c cL_law RL wsL_law 4 ret g) (hX : va_X b L xs s s.heap) (hbl : b < s.heap.size) (hbA : ¬ Aw g b) {H : Heap} {ls : Array Slot} {locs : List Loc} {σ : ST} (hI : INV σ) (hJ : JJ σ) {i : Nat} (hL : L ≤ 2560) (h : HW g σ s H locs) (hi : i + 5 ≤ L) (hl : lv_has ls 4 [(3, .int (nI i)), (2, .ref (g.2.1 79)), (1, .ref (g.2.1 0)), (0, .ref b)]) (K : ∀ (τ : ST) (H : Heap) (locs : List Loc) (ls : Array Slot), INV τ → JJ τ → HW g τ s H locs → lv_has ls 4 [(3, .int (nI i)), (2, .ref (g.2.1 79)), (1, .ref (g.2.1 0)), (0, .ref b)] → W p l e room_1 s m #[Value.ref b] below meth c H locs 108 7415 (lw_Z below #[Value.ref b] s) (F0 m 1065 ls [])) : W p l e room_1 s m #[Value.ref b] below meth c H locs 108 7415 (lw_Z below #[Value.ref b] s) (F0 m 403 ls []) := by
  have hx := E.1
  have hb := E.2.1
  have hown := E.2.2.2.1
  have hts := E.2.2.2.2.1
  have hF : Fr [(0, 40)] [(0, 93)] σ σ := Fr.refl σ
  refine lv_aload_n hx hb dL_law_403 rfl (lv_at hl 2 rfl) ?_
  refine x_vi E h (na := 0) (As := []) (aX11_hush_0 l g σ hI) (oc_vh g) rfl gL_law_X11_hush rfl ⟨rfl, rfl⟩ rfl (by decide +kernel) ⟨Nat.le_of_ble_eq_true rfl, Nat.le_of_ble_eq_true rfl⟩ hl.1 rfl (Nat.le_of_ble_eq_true rfl) dL_law_404 ⟨Nat.le_of_ble_eq_true rfl, Nat.le_of_ble_eq_true rfl⟩ (fun r1 s1 H locs q1 h => ?_)
  obtain ⟨x1, hI1, f1⟩ := q1
  have hF1 := hF.call f1 (I := [(0, 40)]) (J := [(0, 93)]) rfl rfl
  refine lv_pop hx hb dL_law_407 rfl ?_
  refine lv_aload_n hx hb dL_law_408 rfl (lv_at hl 1 rfl) ?_
  refine x_vi E h (na := 0) (As := []) (aX12_hush_0 l g s1 hI1) (oc_mo g) rfl gL_law_X12_hush rfl ⟨rfl, rfl⟩ rfl (by decide +kernel) ⟨Nat.le_of_ble_eq_true rfl, Nat.le_of_ble_eq_true rfl⟩ hl.1 rfl (Nat.le_of_ble_eq_true rfl) dL_law_409 ⟨Nat.le_of_ble_eq_true rfl, Nat.le_of_ble_eq_true rfl⟩ (fun r2 s2 H locs q2 h => ?_)
  obtain ⟨x2, hI2, f2⟩ := q2
  have hF2 := hF1.call f2 (I := [(0, 40)]) (J := [(0, 93)]) rfl rfl
  refine lv_pop hx hb dL_law_412 rfl ?_
  refine lv_goto (tgt := 1065) hx hb dL_law_413 (by decide) ?_
  exact K s2 _ _ _ hI2 (jc_hush hJ hI x1 hI1 f1 x2 hI2 f2).1 h (lv_sub hl [0, 1, 2, 3] rfl)
set_option maxHeartbeats 4000000 in
set_option maxRecDepth 100000 in
theorem lawc_8 {p : Program} {e : Env} {s : State} {m : MethodId} {below : List Frame} {meth : Method} {c : Code} (l : Launch) {b L : Nat} {xs : Nat → Int32} {g : CX} {ret : Option FieldType} (E : EV p s m #[Value.ref b] meth c cL_law RL wsL_law 4 ret g) (hX : va_X b L xs s s.heap) (hbl : b < s.heap.size) (hbA : ¬ Aw g b) {H : Heap} {ls : Array Slot} {locs : List Loc} {σ : ST} (hI : INV σ) (hJ : JJ σ) {i : Nat} (hL : L ≤ 2560) (h : HW g σ s H locs) (hi : i + 5 ≤ L) (hl : lv_has ls 4 [(3, .int (nI i)), (2, .ref (g.2.1 79)), (1, .ref (g.2.1 0)), (0, .ref b)]) (K : ∀ (τ : ST) (H : Heap) (locs : List Loc) (ls : Array Slot), INV τ → JJ τ → HW g τ s H locs → lv_has ls 4 [(3, .int (nI i)), (2, .ref (g.2.1 79)), (1, .ref (g.2.1 0)), (0, .ref b)] → W p l e room_1 s m #[Value.ref b] below meth c H locs 108 7415 (lw_Z below #[Value.ref b] s) (F0 m 1065 ls [])) : W p l e room_1 s m #[Value.ref b] below meth c H locs 108 7415 (lw_Z below #[Value.ref b] s) (F0 m 416 ls []) := by
  have hx := E.1
  have hb := E.2.1
  have hown := E.2.2.2.1
  have hts := E.2.2.2.2.1
  have hF : Fr [(0, 40)] [(0, 93)] σ σ := Fr.refl σ
  refine lv_aload_n hx hb dL_law_416 rfl (lv_at hl 2 rfl) ?_
  refine lv_aload_n hx hb dL_law_417 rfl (lv_at hl 3 rfl) ?_
  refine lv_iload_n hx hb dL_law_418 rfl (lv_at hl 0 rfl) ?_
  refine lv_iconst (v := 1) hx hb dL_law_419 (by decide) ?_
  refine lv_iadd hx hb dL_law_420 ?_
  refine x_topI (v2 := nI (i + 1)) (nI_add i 1) ?_
  refine x_sld E h hX hbl hbA (i := nI (i + 1)) (j := (i + 1)) (vp_in_nI (by omega) (by omega)) (nI_clamp (by omega)) dL_law_421 ?_
  refine x_vi E h (na := 1) (As := [.int (xs (i + 1))]) (aX11_pieces_0 l g σ hI (xs (i + 1))) (oc_vh g) rfl gL_law_X11_pieces rfl ⟨rfl, rfl⟩ rfl (by decide +kernel) ⟨Nat.le_of_ble_eq_true rfl, Nat.le_of_ble_eq_true rfl⟩ hl.1 rfl (Nat.le_of_ble_eq_true rfl) dL_law_422 ⟨Nat.le_of_ble_eq_true rfl, Nat.le_of_ble_eq_true rfl⟩ (fun r1 s1 H locs q1 h => ?_)
  obtain ⟨x1, hI1, f1⟩ := q1
  have hF1 := hF.call f1 (I := [(0, 40)]) (J := [(0, 93)]) rfl rfl
  refine lv_pop hx hb dL_law_425 rfl ?_
  refine lv_aload_n hx hb dL_law_426 rfl (lv_at hl 1 rfl) ?_
  refine lv_aload_n hx hb dL_law_427 rfl (lv_at hl 3 rfl) ?_
  refine lv_iload_n hx hb dL_law_428 rfl (lv_at hl 0 rfl) ?_
  refine lv_iconst (v := 1) hx hb dL_law_429 (by decide) ?_
  refine lv_iadd hx hb dL_law_430 ?_
  refine x_topI (v2 := nI (i + 1)) (nI_add i 1) ?_
  refine x_sld E h hX hbl hbA (i := nI (i + 1)) (j := (i + 1)) (vp_in_nI (by omega) (by omega)) (nI_clamp (by omega)) dL_law_431 ?_
  refine x_vi E h (na := 1) (As := [.int (xs (i + 1))]) (aX12_pieces_0 l g s1 hI1 (xs (i + 1))) (oc_mo g) rfl gL_law_X12_pieces rfl ⟨rfl, rfl⟩ rfl (by decide +kernel) ⟨Nat.le_of_ble_eq_true rfl, Nat.le_of_ble_eq_true rfl⟩ hl.1 rfl (Nat.le_of_ble_eq_true rfl) dL_law_432 ⟨Nat.le_of_ble_eq_true rfl, Nat.le_of_ble_eq_true rfl⟩ (fun r2 s2 H locs q2 h => ?_)
  obtain ⟨x2, hI2, f2⟩ := q2
  have hF2 := hF1.call f2 (I := [(0, 40)]) (J := [(0, 93)]) rfl rfl
  refine lv_pop hx hb dL_law_435 rfl ?_
  refine lv_goto (tgt := 1065) hx hb dL_law_436 (by decide) ?_
  exact K s2 _ _ _ hI2 (jc_pieces hJ hI x1 hI1 f1 x2 hI2 f2).1 h (lv_sub hl [0, 1, 2, 3] rfl)
set_option maxHeartbeats 4000000 in
set_option maxRecDepth 100000 in
theorem lawc_9 {p : Program} {e : Env} {s : State} {m : MethodId} {below : List Frame} {meth : Method} {c : Code} (l : Launch) {b L : Nat} {xs : Nat → Int32} {g : CX} {ret : Option FieldType} (E : EV p s m #[Value.ref b] meth c cL_law RL wsL_law 4 ret g) (hX : va_X b L xs s s.heap) (hbl : b < s.heap.size) (hbA : ¬ Aw g b) {H : Heap} {ls : Array Slot} {locs : List Loc} {σ : ST} (hI : INV σ) (hJ : JJ σ) {i : Nat} (hL : L ≤ 2560) (h : HW g σ s H locs) (hi : i + 5 ≤ L) (hl : lv_has ls 4 [(3, .int (nI i)), (2, .ref (g.2.1 79)), (1, .ref (g.2.1 0)), (0, .ref b)]) (K : ∀ (τ : ST) (H : Heap) (locs : List Loc) (ls : Array Slot), INV τ → JJ τ → HW g τ s H locs → lv_has ls 4 [(3, .int (nI i)), (2, .ref (g.2.1 79)), (1, .ref (g.2.1 0)), (0, .ref b)] → W p l e room_1 s m #[Value.ref b] below meth c H locs 108 7415 (lw_Z below #[Value.ref b] s) (F0 m 1065 ls [])) : W p l e room_1 s m #[Value.ref b] below meth c H locs 108 7415 (lw_Z below #[Value.ref b] s) (F0 m 439 ls []) := by
  have hx := E.1
  have hb := E.2.1
  have hown := E.2.2.2.1
  have hts := E.2.2.2.2.1
  have hF : Fr [(0, 40)] [(0, 93)] σ σ := Fr.refl σ
  refine lv_aload_n hx hb dL_law_439 rfl (lv_at hl 2 rfl) ?_
  refine lv_aload_n hx hb dL_law_440 rfl (lv_at hl 3 rfl) ?_
  refine lv_iload_n hx hb dL_law_441 rfl (lv_at hl 0 rfl) ?_
  refine lv_iconst (v := 1) hx hb dL_law_442 (by decide) ?_
  refine lv_iadd hx hb dL_law_443 ?_
  refine x_topI (v2 := nI (i + 1)) (nI_add i 1) ?_
  refine x_sld E h hX hbl hbA (i := nI (i + 1)) (j := (i + 1)) (vp_in_nI (by omega) (by omega)) (nI_clamp (by omega)) dL_law_444 ?_
  refine lv_aload_n hx hb dL_law_445 rfl (lv_at hl 3 rfl) ?_
  refine lv_iload_n hx hb dL_law_446 rfl (lv_at hl 0 rfl) ?_
  refine lv_iconst (v := 2) hx hb dL_law_447 (by decide) ?_
  refine lv_iadd hx hb dL_law_448 ?_
  refine x_topI (v2 := nI (i + 2)) (nI_add i 2) ?_
  refine x_sld E h hX hbl hbA (i := nI (i + 2)) (j := (i + 2)) (vp_in_nI (by omega) (by omega)) (nI_clamp (by omega)) dL_law_449 ?_
  refine x_vi E h (na := 2) (As := [.int (xs (i + 1)), .int (xs (i + 2))]) (aX11_piece_0 l g σ hI (xs (i + 1)) (xs (i + 2))) (oc_vh g) rfl gL_law_X11_piece rfl ⟨rfl, rfl⟩ rfl (by decide +kernel) ⟨Nat.le_of_ble_eq_true rfl, Nat.le_of_ble_eq_true rfl⟩ hl.1 rfl (Nat.le_of_ble_eq_true rfl) dL_law_450 ⟨Nat.le_of_ble_eq_true rfl, Nat.le_of_ble_eq_true rfl⟩ (fun r1 s1 H locs q1 h => ?_)
  obtain ⟨x1, hI1, f1⟩ := q1
  have hF1 := hF.call f1 (I := [(0, 40)]) (J := [(0, 93)]) rfl rfl
  refine lv_pop hx hb dL_law_453 rfl ?_
  refine lv_aload_n hx hb dL_law_454 rfl (lv_at hl 1 rfl) ?_
  refine lv_aload_n hx hb dL_law_455 rfl (lv_at hl 3 rfl) ?_
  refine lv_iload_n hx hb dL_law_456 rfl (lv_at hl 0 rfl) ?_
  refine lv_iconst (v := 1) hx hb dL_law_457 (by decide) ?_
  refine lv_iadd hx hb dL_law_458 ?_
  refine x_topI (v2 := nI (i + 1)) (nI_add i 1) ?_
  refine x_sld E h hX hbl hbA (i := nI (i + 1)) (j := (i + 1)) (vp_in_nI (by omega) (by omega)) (nI_clamp (by omega)) dL_law_459 ?_
  refine lv_aload_n hx hb dL_law_460 rfl (lv_at hl 3 rfl) ?_
  refine lv_iload_n hx hb dL_law_461 rfl (lv_at hl 0 rfl) ?_
  refine lv_iconst (v := 2) hx hb dL_law_462 (by decide) ?_
  refine lv_iadd hx hb dL_law_463 ?_
  refine x_topI (v2 := nI (i + 2)) (nI_add i 2) ?_
  refine x_sld E h hX hbl hbA (i := nI (i + 2)) (j := (i + 2)) (vp_in_nI (by omega) (by omega)) (nI_clamp (by omega)) dL_law_464 ?_
  refine x_vi E h (na := 2) (As := [.int (xs (i + 1)), .int (xs (i + 2))]) (aX12_piece_0 l g s1 hI1 (xs (i + 1)) (xs (i + 2))) (oc_mo g) rfl gL_law_X12_piece rfl ⟨rfl, rfl⟩ rfl (by decide +kernel) ⟨Nat.le_of_ble_eq_true rfl, Nat.le_of_ble_eq_true rfl⟩ hl.1 rfl (Nat.le_of_ble_eq_true rfl) dL_law_465 ⟨Nat.le_of_ble_eq_true rfl, Nat.le_of_ble_eq_true rfl⟩ (fun r2 s2 H locs q2 h => ?_)
  obtain ⟨x2, hI2, f2⟩ := q2
  have hF2 := hF1.call f2 (I := [(0, 40)]) (J := [(0, 93)]) rfl rfl
  refine lv_pop hx hb dL_law_468 rfl ?_
  refine lv_goto (tgt := 1065) hx hb dL_law_469 (by decide) ?_
  exact K s2 _ _ _ hI2 (jc_piece hJ hI x1 hI1 f1 x2 hI2 f2).1 h (lv_sub hl [0, 1, 2, 3] rfl)
set_option maxHeartbeats 4000000 in
set_option maxRecDepth 100000 in
theorem lawc_10 {p : Program} {e : Env} {s : State} {m : MethodId} {below : List Frame} {meth : Method} {c : Code} (l : Launch) {b L : Nat} {xs : Nat → Int32} {g : CX} {ret : Option FieldType} (E : EV p s m #[Value.ref b] meth c cL_law RL wsL_law 4 ret g) (hX : va_X b L xs s s.heap) (hbl : b < s.heap.size) (hbA : ¬ Aw g b) {H : Heap} {ls : Array Slot} {locs : List Loc} {σ : ST} (hI : INV σ) (hJ : JJ σ) {i : Nat} (hL : L ≤ 2560) (h : HW g σ s H locs) (hi : i + 5 ≤ L) (hl : lv_has ls 4 [(3, .int (nI i)), (2, .ref (g.2.1 79)), (1, .ref (g.2.1 0)), (0, .ref b)]) (K : ∀ (τ : ST) (H : Heap) (locs : List Loc) (ls : Array Slot), INV τ → JJ τ → HW g τ s H locs → lv_has ls 4 [(3, .int (nI i)), (2, .ref (g.2.1 79)), (1, .ref (g.2.1 0)), (0, .ref b)] → W p l e room_1 s m #[Value.ref b] below meth c H locs 108 7415 (lw_Z below #[Value.ref b] s) (F0 m 1065 ls [])) : W p l e room_1 s m #[Value.ref b] below meth c H locs 108 7415 (lw_Z below #[Value.ref b] s) (F0 m 472 ls []) := by
  have hx := E.1
  have hb := E.2.1
  have hown := E.2.2.2.1
  have hts := E.2.2.2.2.1
  have hF : Fr [(0, 40)] [(0, 93)] σ σ := Fr.refl σ
  refine lv_aload_n hx hb dL_law_472 rfl (lv_at hl 2 rfl) ?_
  refine lv_aload_n hx hb dL_law_473 rfl (lv_at hl 3 rfl) ?_
  refine lv_iload_n hx hb dL_law_474 rfl (lv_at hl 0 rfl) ?_
  refine lv_iconst (v := 1) hx hb dL_law_475 (by decide) ?_
  refine lv_iadd hx hb dL_law_476 ?_
  refine x_topI (v2 := nI (i + 1)) (nI_add i 1) ?_
  refine x_sld E h hX hbl hbA (i := nI (i + 1)) (j := (i + 1)) (vp_in_nI (by omega) (by omega)) (nI_clamp (by omega)) dL_law_477 ?_
  refine x_vi E h (na := 1) (As := [.int (xs (i + 1))]) (aX11_of_0 l g σ hI (xs (i + 1))) (oc_vh g) rfl gL_law_X11_of rfl ⟨rfl, rfl⟩ rfl (by decide +kernel) ⟨Nat.le_of_ble_eq_true rfl, Nat.le_of_ble_eq_true rfl⟩ hl.1 rfl (Nat.le_of_ble_eq_true rfl) dL_law_478 ⟨Nat.le_of_ble_eq_true rfl, Nat.le_of_ble_eq_true rfl⟩ (fun r1 s1 H locs q1 h => ?_)
  obtain ⟨x1, hI1, f1⟩ := q1
  have hF1 := hF.call f1 (I := [(0, 40)]) (J := [(0, 93)]) rfl rfl
  refine lv_pop hx hb dL_law_481 rfl ?_
  refine lv_aload_n hx hb dL_law_482 rfl (lv_at hl 1 rfl) ?_
  refine lv_aload_n hx hb dL_law_483 rfl (lv_at hl 3 rfl) ?_
  refine lv_iload_n hx hb dL_law_484 rfl (lv_at hl 0 rfl) ?_
  refine lv_iconst (v := 1) hx hb dL_law_485 (by decide) ?_
  refine lv_iadd hx hb dL_law_486 ?_
  refine x_topI (v2 := nI (i + 1)) (nI_add i 1) ?_
  refine x_sld E h hX hbl hbA (i := nI (i + 1)) (j := (i + 1)) (vp_in_nI (by omega) (by omega)) (nI_clamp (by omega)) dL_law_487 ?_
  refine x_vi E h (na := 1) (As := [.int (xs (i + 1))]) (aX12_of_0 l g s1 hI1 (xs (i + 1))) (oc_mo g) rfl gL_law_X12_of rfl ⟨rfl, rfl⟩ rfl (by decide +kernel) ⟨Nat.le_of_ble_eq_true rfl, Nat.le_of_ble_eq_true rfl⟩ hl.1 rfl (Nat.le_of_ble_eq_true rfl) dL_law_488 ⟨Nat.le_of_ble_eq_true rfl, Nat.le_of_ble_eq_true rfl⟩ (fun r2 s2 H locs q2 h => ?_)
  obtain ⟨x2, hI2, f2⟩ := q2
  have hF2 := hF1.call f2 (I := [(0, 40)]) (J := [(0, 93)]) rfl rfl
  refine lv_pop hx hb dL_law_491 rfl ?_
  refine lv_goto (tgt := 1065) hx hb dL_law_492 (by decide) ?_
  exact K s2 _ _ _ hI2 (jc_of hJ hI x1 hI1 f1 x2 hI2 f2).1 h (lv_sub hl [0, 1, 2, 3] rfl)
set_option maxHeartbeats 4000000 in
set_option maxRecDepth 100000 in
theorem lawc_11 {p : Program} {e : Env} {s : State} {m : MethodId} {below : List Frame} {meth : Method} {c : Code} (l : Launch) {b L : Nat} {xs : Nat → Int32} {g : CX} {ret : Option FieldType} (E : EV p s m #[Value.ref b] meth c cL_law RL wsL_law 4 ret g) (hX : va_X b L xs s s.heap) (hbl : b < s.heap.size) (hbA : ¬ Aw g b) {H : Heap} {ls : Array Slot} {locs : List Loc} {σ : ST} (hI : INV σ) (hJ : JJ σ) {i : Nat} (hL : L ≤ 2560) (h : HW g σ s H locs) (hi : i + 5 ≤ L) (hl : lv_has ls 4 [(3, .int (nI i)), (2, .ref (g.2.1 79)), (1, .ref (g.2.1 0)), (0, .ref b)]) (K : ∀ (τ : ST) (H : Heap) (locs : List Loc) (ls : Array Slot), INV τ → JJ τ → HW g τ s H locs → lv_has ls 4 [(3, .int (nI i)), (2, .ref (g.2.1 79)), (1, .ref (g.2.1 0)), (0, .ref b)] → W p l e room_1 s m #[Value.ref b] below meth c H locs 108 7415 (lw_Z below #[Value.ref b] s) (F0 m 1065 ls [])) : W p l e room_1 s m #[Value.ref b] below meth c H locs 108 7415 (lw_Z below #[Value.ref b] s) (F0 m 495 ls []) := by
  have hx := E.1
  have hb := E.2.1
  have hown := E.2.2.2.1
  have hts := E.2.2.2.2.1
  have hF : Fr [(0, 40)] [(0, 93)] σ σ := Fr.refl σ
  refine lv_aload_n hx hb dL_law_495 rfl (lv_at hl 2 rfl) ?_
  refine lv_aload_n hx hb dL_law_496 rfl (lv_at hl 3 rfl) ?_
  refine lv_iload_n hx hb dL_law_497 rfl (lv_at hl 0 rfl) ?_
  refine lv_iconst (v := 1) hx hb dL_law_498 (by decide) ?_
  refine lv_iadd hx hb dL_law_499 ?_
  refine x_topI (v2 := nI (i + 1)) (nI_add i 1) ?_
  refine x_sld E h hX hbl hbA (i := nI (i + 1)) (j := (i + 1)) (vp_in_nI (by omega) (by omega)) (nI_clamp (by omega)) dL_law_500 ?_
  refine lv_aload_n hx hb dL_law_501 rfl (lv_at hl 3 rfl) ?_
  refine lv_iload_n hx hb dL_law_502 rfl (lv_at hl 0 rfl) ?_
  refine lv_iconst (v := 2) hx hb dL_law_503 (by decide) ?_
  refine lv_iadd hx hb dL_law_504 ?_
  refine x_topI (v2 := nI (i + 2)) (nI_add i 2) ?_
  refine x_sld E h hX hbl hbA (i := nI (i + 2)) (j := (i + 2)) (vp_in_nI (by omega) (by omega)) (nI_clamp (by omega)) dL_law_505 ?_
  refine x_vi E h (na := 2) (As := [.int (xs (i + 1)), .int (xs (i + 2))]) (aX11_like_0 l g σ hI (xs (i + 1)) (xs (i + 2))) (oc_vh g) rfl gL_law_X11_like rfl ⟨rfl, rfl⟩ rfl (by decide +kernel) ⟨Nat.le_of_ble_eq_true rfl, Nat.le_of_ble_eq_true rfl⟩ hl.1 rfl (Nat.le_of_ble_eq_true rfl) dL_law_506 ⟨Nat.le_of_ble_eq_true rfl, Nat.le_of_ble_eq_true rfl⟩ (fun r1 s1 H locs q1 h => ?_)
  obtain ⟨x1, hI1, f1⟩ := q1
  have hF1 := hF.call f1 (I := [(0, 40)]) (J := [(0, 93)]) rfl rfl
  refine lv_pop hx hb dL_law_509 rfl ?_
  refine lv_aload_n hx hb dL_law_510 rfl (lv_at hl 1 rfl) ?_
  refine lv_aload_n hx hb dL_law_511 rfl (lv_at hl 3 rfl) ?_
  refine lv_iload_n hx hb dL_law_512 rfl (lv_at hl 0 rfl) ?_
  refine lv_iconst (v := 1) hx hb dL_law_513 (by decide) ?_
  refine lv_iadd hx hb dL_law_514 ?_
  refine x_topI (v2 := nI (i + 1)) (nI_add i 1) ?_
  refine x_sld E h hX hbl hbA (i := nI (i + 1)) (j := (i + 1)) (vp_in_nI (by omega) (by omega)) (nI_clamp (by omega)) dL_law_515 ?_
  refine lv_aload_n hx hb dL_law_516 rfl (lv_at hl 3 rfl) ?_
  refine lv_iload_n hx hb dL_law_517 rfl (lv_at hl 0 rfl) ?_
  refine lv_iconst (v := 2) hx hb dL_law_518 (by decide) ?_
  refine lv_iadd hx hb dL_law_519 ?_
  refine x_topI (v2 := nI (i + 2)) (nI_add i 2) ?_
  refine x_sld E h hX hbl hbA (i := nI (i + 2)) (j := (i + 2)) (vp_in_nI (by omega) (by omega)) (nI_clamp (by omega)) dL_law_520 ?_
  refine x_vi E h (na := 2) (As := [.int (xs (i + 1)), .int (xs (i + 2))]) (aX12_like_0 l g s1 hI1 (xs (i + 1)) (xs (i + 2))) (oc_mo g) rfl gL_law_X12_like rfl ⟨rfl, rfl⟩ rfl (by decide +kernel) ⟨Nat.le_of_ble_eq_true rfl, Nat.le_of_ble_eq_true rfl⟩ hl.1 rfl (Nat.le_of_ble_eq_true rfl) dL_law_521 ⟨Nat.le_of_ble_eq_true rfl, Nat.le_of_ble_eq_true rfl⟩ (fun r2 s2 H locs q2 h => ?_)
  obtain ⟨x2, hI2, f2⟩ := q2
  have hF2 := hF1.call f2 (I := [(0, 40)]) (J := [(0, 93)]) rfl rfl
  refine lv_pop hx hb dL_law_524 rfl ?_
  refine lv_goto (tgt := 1065) hx hb dL_law_525 (by decide) ?_
  exact K s2 _ _ _ hI2 (jc_like hJ hI x1 hI1 f1 x2 hI2 f2).1 h (lv_sub hl [0, 1, 2, 3] rfl)
set_option maxHeartbeats 4000000 in
set_option maxRecDepth 100000 in
theorem lawc_12 {p : Program} {e : Env} {s : State} {m : MethodId} {below : List Frame} {meth : Method} {c : Code} (l : Launch) {b L : Nat} {xs : Nat → Int32} {g : CX} {ret : Option FieldType} (E : EV p s m #[Value.ref b] meth c cL_law RL wsL_law 4 ret g) (hX : va_X b L xs s s.heap) (hbl : b < s.heap.size) (hbA : ¬ Aw g b) {H : Heap} {ls : Array Slot} {locs : List Loc} {σ : ST} (hI : INV σ) (hJ : JJ σ) {i : Nat} (hL : L ≤ 2560) (h : HW g σ s H locs) (hi : i + 5 ≤ L) (hl : lv_has ls 4 [(3, .int (nI i)), (2, .ref (g.2.1 79)), (1, .ref (g.2.1 0)), (0, .ref b)]) (K : ∀ (τ : ST) (H : Heap) (locs : List Loc) (ls : Array Slot), INV τ → JJ τ → HW g τ s H locs → lv_has ls 4 [(3, .int (nI i)), (2, .ref (g.2.1 79)), (1, .ref (g.2.1 0)), (0, .ref b)] → W p l e room_1 s m #[Value.ref b] below meth c H locs 108 7415 (lw_Z below #[Value.ref b] s) (F0 m 1065 ls [])) : W p l e room_1 s m #[Value.ref b] below meth c H locs 108 7415 (lw_Z below #[Value.ref b] s) (F0 m 528 ls []) := by
  have hx := E.1
  have hb := E.2.1
  have hown := E.2.2.2.1
  have hts := E.2.2.2.2.1
  have hF : Fr [(0, 40)] [(0, 93)] σ σ := Fr.refl σ
  refine lv_aload_n hx hb dL_law_528 rfl (lv_at hl 2 rfl) ?_
  refine lv_aload_n hx hb dL_law_529 rfl (lv_at hl 3 rfl) ?_
  refine lv_iload_n hx hb dL_law_530 rfl (lv_at hl 0 rfl) ?_
  refine lv_iconst (v := 1) hx hb dL_law_531 (by decide) ?_
  refine lv_iadd hx hb dL_law_532 ?_
  refine x_topI (v2 := nI (i + 1)) (nI_add i 1) ?_
  refine x_sld E h hX hbl hbA (i := nI (i + 1)) (j := (i + 1)) (vp_in_nI (by omega) (by omega)) (nI_clamp (by omega)) dL_law_533 ?_
  refine lv_aload_n hx hb dL_law_534 rfl (lv_at hl 3 rfl) ?_
  refine lv_iload_n hx hb dL_law_535 rfl (lv_at hl 0 rfl) ?_
  refine lv_iconst (v := 2) hx hb dL_law_536 (by decide) ?_
  refine lv_iadd hx hb dL_law_537 ?_
  refine x_topI (v2 := nI (i + 2)) (nI_add i 2) ?_
  refine x_sld E h hX hbl hbA (i := nI (i + 2)) (j := (i + 2)) (vp_in_nI (by omega) (by omega)) (nI_clamp (by omega)) dL_law_538 ?_
  refine x_vi E h (na := 2) (As := [.int (xs (i + 1)), .int (xs (i + 2))]) (aX11_heap_0 l g σ hI (xs (i + 1)) (xs (i + 2))) (oc_vh g) rfl gL_law_X11_heap rfl ⟨rfl, rfl⟩ rfl (by decide +kernel) ⟨Nat.le_of_ble_eq_true rfl, Nat.le_of_ble_eq_true rfl⟩ hl.1 rfl (Nat.le_of_ble_eq_true rfl) dL_law_539 ⟨Nat.le_of_ble_eq_true rfl, Nat.le_of_ble_eq_true rfl⟩ (fun r1 s1 H locs q1 h => ?_)
  obtain ⟨x1, hI1, f1⟩ := q1
  have hF1 := hF.call f1 (I := [(0, 40)]) (J := [(0, 93)]) rfl rfl
  refine lv_pop hx hb dL_law_542 rfl ?_
  refine lv_aload_n hx hb dL_law_543 rfl (lv_at hl 1 rfl) ?_
  refine lv_aload_n hx hb dL_law_544 rfl (lv_at hl 3 rfl) ?_
  refine lv_iload_n hx hb dL_law_545 rfl (lv_at hl 0 rfl) ?_
  refine lv_iconst (v := 1) hx hb dL_law_546 (by decide) ?_
  refine lv_iadd hx hb dL_law_547 ?_
  refine x_topI (v2 := nI (i + 1)) (nI_add i 1) ?_
  refine x_sld E h hX hbl hbA (i := nI (i + 1)) (j := (i + 1)) (vp_in_nI (by omega) (by omega)) (nI_clamp (by omega)) dL_law_548 ?_
  refine lv_aload_n hx hb dL_law_549 rfl (lv_at hl 3 rfl) ?_
  refine lv_iload_n hx hb dL_law_550 rfl (lv_at hl 0 rfl) ?_
  refine lv_iconst (v := 2) hx hb dL_law_551 (by decide) ?_
  refine lv_iadd hx hb dL_law_552 ?_
  refine x_topI (v2 := nI (i + 2)) (nI_add i 2) ?_
  refine x_sld E h hX hbl hbA (i := nI (i + 2)) (j := (i + 2)) (vp_in_nI (by omega) (by omega)) (nI_clamp (by omega)) dL_law_553 ?_
  refine x_vi E h (na := 2) (As := [.int (xs (i + 1)), .int (xs (i + 2))]) (aX12_heap_0 l g s1 hI1 (xs (i + 1)) (xs (i + 2))) (oc_mo g) rfl gL_law_X12_heap rfl ⟨rfl, rfl⟩ rfl (by decide +kernel) ⟨Nat.le_of_ble_eq_true rfl, Nat.le_of_ble_eq_true rfl⟩ hl.1 rfl (Nat.le_of_ble_eq_true rfl) dL_law_554 ⟨Nat.le_of_ble_eq_true rfl, Nat.le_of_ble_eq_true rfl⟩ (fun r2 s2 H locs q2 h => ?_)
  obtain ⟨x2, hI2, f2⟩ := q2
  have hF2 := hF1.call f2 (I := [(0, 40)]) (J := [(0, 93)]) rfl rfl
  refine lv_pop hx hb dL_law_557 rfl ?_
  refine lv_goto (tgt := 1065) hx hb dL_law_558 (by decide) ?_
  exact K s2 _ _ _ hI2 (jc_heap hJ hI x1 hI1 f1 x2 hI2 f2).1 h (lv_sub hl [0, 1, 2, 3] rfl)
set_option maxHeartbeats 4000000 in
set_option maxRecDepth 100000 in
theorem lawc_13 {p : Program} {e : Env} {s : State} {m : MethodId} {below : List Frame} {meth : Method} {c : Code} (l : Launch) {b L : Nat} {xs : Nat → Int32} {g : CX} {ret : Option FieldType} (E : EV p s m #[Value.ref b] meth c cL_law RL wsL_law 4 ret g) (hX : va_X b L xs s s.heap) (hbl : b < s.heap.size) (hbA : ¬ Aw g b) {H : Heap} {ls : Array Slot} {locs : List Loc} {σ : ST} (hI : INV σ) (hJ : JJ σ) {i : Nat} (hL : L ≤ 2560) (h : HW g σ s H locs) (hi : i + 5 ≤ L) (hl : lv_has ls 4 [(3, .int (nI i)), (2, .ref (g.2.1 79)), (1, .ref (g.2.1 0)), (0, .ref b)]) (K : ∀ (τ : ST) (H : Heap) (locs : List Loc) (ls : Array Slot), INV τ → JJ τ → HW g τ s H locs → lv_has ls 4 [(3, .int (nI i)), (2, .ref (g.2.1 79)), (1, .ref (g.2.1 0)), (0, .ref b)] → W p l e room_1 s m #[Value.ref b] below meth c H locs 108 7415 (lw_Z below #[Value.ref b] s) (F0 m 1065 ls [])) : W p l e room_1 s m #[Value.ref b] below meth c H locs 108 7415 (lw_Z below #[Value.ref b] s) (F0 m 561 ls []) := by
  have hx := E.1
  have hb := E.2.1
  have hown := E.2.2.2.1
  have hts := E.2.2.2.2.1
  have hF : Fr [(0, 40)] [(0, 93)] σ σ := Fr.refl σ
  refine lv_aload_n hx hb dL_law_561 rfl (lv_at hl 2 rfl) ?_
  refine lv_aload_n hx hb dL_law_562 rfl (lv_at hl 3 rfl) ?_
  refine lv_iload_n hx hb dL_law_563 rfl (lv_at hl 0 rfl) ?_
  refine lv_iconst (v := 1) hx hb dL_law_564 (by decide) ?_
  refine lv_iadd hx hb dL_law_565 ?_
  refine x_topI (v2 := nI (i + 1)) (nI_add i 1) ?_
  refine x_sld E h hX hbl hbA (i := nI (i + 1)) (j := (i + 1)) (vp_in_nI (by omega) (by omega)) (nI_clamp (by omega)) dL_law_566 ?_
  refine x_vi E h (na := 1) (As := [.int (xs (i + 1))]) (aX11_worth_0 l g σ hI (xs (i + 1))) (oc_vh g) rfl gL_law_X11_worth rfl ⟨rfl, rfl⟩ rfl (by decide +kernel) ⟨Nat.le_of_ble_eq_true rfl, Nat.le_of_ble_eq_true rfl⟩ hl.1 rfl (Nat.le_of_ble_eq_true rfl) dL_law_567 ⟨Nat.le_of_ble_eq_true rfl, Nat.le_of_ble_eq_true rfl⟩ (fun r1 s1 H locs q1 h => ?_)
  obtain ⟨x1, hI1, f1⟩ := q1
  have hF1 := hF.call f1 (I := [(0, 40)]) (J := [(0, 93)]) rfl rfl
  refine lv_pop hx hb dL_law_570 rfl ?_
  refine lv_aload_n hx hb dL_law_571 rfl (lv_at hl 1 rfl) ?_
  refine lv_aload_n hx hb dL_law_572 rfl (lv_at hl 3 rfl) ?_
  refine lv_iload_n hx hb dL_law_573 rfl (lv_at hl 0 rfl) ?_
  refine lv_iconst (v := 1) hx hb dL_law_574 (by decide) ?_
  refine lv_iadd hx hb dL_law_575 ?_
  refine x_topI (v2 := nI (i + 1)) (nI_add i 1) ?_
  refine x_sld E h hX hbl hbA (i := nI (i + 1)) (j := (i + 1)) (vp_in_nI (by omega) (by omega)) (nI_clamp (by omega)) dL_law_576 ?_
  refine x_vi E h (na := 1) (As := [.int (xs (i + 1))]) (aX12_worth_0 l g s1 hI1 (xs (i + 1))) (oc_mo g) rfl gL_law_X12_worth rfl ⟨rfl, rfl⟩ rfl (by decide +kernel) ⟨Nat.le_of_ble_eq_true rfl, Nat.le_of_ble_eq_true rfl⟩ hl.1 rfl (Nat.le_of_ble_eq_true rfl) dL_law_577 ⟨Nat.le_of_ble_eq_true rfl, Nat.le_of_ble_eq_true rfl⟩ (fun r2 s2 H locs q2 h => ?_)
  obtain ⟨x2, hI2, f2⟩ := q2
  have hF2 := hF1.call f2 (I := [(0, 40)]) (J := [(0, 93)]) rfl rfl
  refine lv_pop hx hb dL_law_580 rfl ?_
  refine lv_goto (tgt := 1065) hx hb dL_law_581 (by decide) ?_
  exact K s2 _ _ _ hI2 (jc_worth hJ hI x1 hI1 f1 x2 hI2 f2).1 h (lv_sub hl [0, 1, 2, 3] rfl)
set_option maxHeartbeats 4000000 in
set_option maxRecDepth 100000 in
theorem lawc_14 {p : Program} {e : Env} {s : State} {m : MethodId} {below : List Frame} {meth : Method} {c : Code} (l : Launch) {b L : Nat} {xs : Nat → Int32} {g : CX} {ret : Option FieldType} (E : EV p s m #[Value.ref b] meth c cL_law RL wsL_law 4 ret g) (hX : va_X b L xs s s.heap) (hbl : b < s.heap.size) (hbA : ¬ Aw g b) {H : Heap} {ls : Array Slot} {locs : List Loc} {σ : ST} (hI : INV σ) (hJ : JJ σ) {i : Nat} (hL : L ≤ 2560) (h : HW g σ s H locs) (hi : i + 5 ≤ L) (hl : lv_has ls 4 [(3, .int (nI i)), (2, .ref (g.2.1 79)), (1, .ref (g.2.1 0)), (0, .ref b)]) (K : ∀ (τ : ST) (H : Heap) (locs : List Loc) (ls : Array Slot), INV τ → JJ τ → HW g τ s H locs → lv_has ls 4 [(3, .int (nI i)), (2, .ref (g.2.1 79)), (1, .ref (g.2.1 0)), (0, .ref b)] → W p l e room_1 s m #[Value.ref b] below meth c H locs 108 7415 (lw_Z below #[Value.ref b] s) (F0 m 1065 ls [])) : W p l e room_1 s m #[Value.ref b] below meth c H locs 108 7415 (lw_Z below #[Value.ref b] s) (F0 m 584 ls []) := by
  have hx := E.1
  have hb := E.2.1
  have hown := E.2.2.2.1
  have hts := E.2.2.2.2.1
  have hF : Fr [(0, 40)] [(0, 93)] σ σ := Fr.refl σ
  refine lv_aload_n hx hb dL_law_584 rfl (lv_at hl 2 rfl) ?_
  refine lv_aload_n hx hb dL_law_585 rfl (lv_at hl 3 rfl) ?_
  refine lv_iload_n hx hb dL_law_586 rfl (lv_at hl 0 rfl) ?_
  refine lv_iconst (v := 1) hx hb dL_law_587 (by decide) ?_
  refine lv_iadd hx hb dL_law_588 ?_
  refine x_topI (v2 := nI (i + 1)) (nI_add i 1) ?_
  refine x_sld E h hX hbl hbA (i := nI (i + 1)) (j := (i + 1)) (vp_in_nI (by omega) (by omega)) (nI_clamp (by omega)) dL_law_589 ?_
  refine x_vi E h (na := 1) (As := [.int (xs (i + 1))]) (aX11_near_0 l g σ hI (xs (i + 1))) (oc_vh g) rfl gL_law_X11_near rfl ⟨rfl, rfl⟩ rfl (by decide +kernel) ⟨Nat.le_of_ble_eq_true rfl, Nat.le_of_ble_eq_true rfl⟩ hl.1 rfl (Nat.le_of_ble_eq_true rfl) dL_law_590 ⟨Nat.le_of_ble_eq_true rfl, Nat.le_of_ble_eq_true rfl⟩ (fun r1 s1 H locs q1 h => ?_)
  obtain ⟨x1, hI1, f1⟩ := q1
  have hF1 := hF.call f1 (I := [(0, 40)]) (J := [(0, 93)]) rfl rfl
  refine lv_pop hx hb dL_law_593 rfl ?_
  refine lv_aload_n hx hb dL_law_594 rfl (lv_at hl 1 rfl) ?_
  refine lv_aload_n hx hb dL_law_595 rfl (lv_at hl 3 rfl) ?_
  refine lv_iload_n hx hb dL_law_596 rfl (lv_at hl 0 rfl) ?_
  refine lv_iconst (v := 1) hx hb dL_law_597 (by decide) ?_
  refine lv_iadd hx hb dL_law_598 ?_
  refine x_topI (v2 := nI (i + 1)) (nI_add i 1) ?_
  refine x_sld E h hX hbl hbA (i := nI (i + 1)) (j := (i + 1)) (vp_in_nI (by omega) (by omega)) (nI_clamp (by omega)) dL_law_599 ?_
  refine x_vi E h (na := 1) (As := [.int (xs (i + 1))]) (aX12_near_0 l g s1 hI1 (xs (i + 1))) (oc_mo g) rfl gL_law_X12_near rfl ⟨rfl, rfl⟩ rfl (by decide +kernel) ⟨Nat.le_of_ble_eq_true rfl, Nat.le_of_ble_eq_true rfl⟩ hl.1 rfl (Nat.le_of_ble_eq_true rfl) dL_law_600 ⟨Nat.le_of_ble_eq_true rfl, Nat.le_of_ble_eq_true rfl⟩ (fun r2 s2 H locs q2 h => ?_)
  obtain ⟨x2, hI2, f2⟩ := q2
  have hF2 := hF1.call f2 (I := [(0, 40)]) (J := [(0, 93)]) rfl rfl
  refine lv_pop hx hb dL_law_603 rfl ?_
  refine lv_goto (tgt := 1065) hx hb dL_law_604 (by decide) ?_
  exact K s2 _ _ _ hI2 (jc_near hJ hI x1 hI1 f1 x2 hI2 f2).1 h (lv_sub hl [0, 1, 2, 3] rfl)
set_option maxHeartbeats 4000000 in
set_option maxRecDepth 100000 in
theorem lawc_15 {p : Program} {e : Env} {s : State} {m : MethodId} {below : List Frame} {meth : Method} {c : Code} (l : Launch) {b L : Nat} {xs : Nat → Int32} {g : CX} {ret : Option FieldType} (E : EV p s m #[Value.ref b] meth c cL_law RL wsL_law 4 ret g) (hX : va_X b L xs s s.heap) (hbl : b < s.heap.size) (hbA : ¬ Aw g b) {H : Heap} {ls : Array Slot} {locs : List Loc} {σ : ST} (hI : INV σ) (hJ : JJ σ) {i : Nat} (hL : L ≤ 2560) (h : HW g σ s H locs) (hi : i + 5 ≤ L) (hl : lv_has ls 4 [(3, .int (nI i)), (2, .ref (g.2.1 79)), (1, .ref (g.2.1 0)), (0, .ref b)]) (K : ∀ (τ : ST) (H : Heap) (locs : List Loc) (ls : Array Slot), INV τ → JJ τ → HW g τ s H locs → lv_has ls 4 [(3, .int (nI i)), (2, .ref (g.2.1 79)), (1, .ref (g.2.1 0)), (0, .ref b)] → W p l e room_1 s m #[Value.ref b] below meth c H locs 108 7415 (lw_Z below #[Value.ref b] s) (F0 m 1065 ls [])) : W p l e room_1 s m #[Value.ref b] below meth c H locs 108 7415 (lw_Z below #[Value.ref b] s) (F0 m 607 ls []) := by
  have hx := E.1
  have hb := E.2.1
  have hown := E.2.2.2.1
  have hts := E.2.2.2.2.1
  have hF : Fr [(0, 40)] [(0, 93)] σ σ := Fr.refl σ
  refine lv_aload_n hx hb dL_law_607 rfl (lv_at hl 2 rfl) ?_
  refine lv_aload_n hx hb dL_law_608 rfl (lv_at hl 3 rfl) ?_
  refine lv_iload_n hx hb dL_law_609 rfl (lv_at hl 0 rfl) ?_
  refine lv_iconst (v := 1) hx hb dL_law_610 (by decide) ?_
  refine lv_iadd hx hb dL_law_611 ?_
  refine x_topI (v2 := nI (i + 1)) (nI_add i 1) ?_
  refine x_sld E h hX hbl hbA (i := nI (i + 1)) (j := (i + 1)) (vp_in_nI (by omega) (by omega)) (nI_clamp (by omega)) dL_law_612 ?_
  refine lv_aload_n hx hb dL_law_613 rfl (lv_at hl 3 rfl) ?_
  refine lv_iload_n hx hb dL_law_614 rfl (lv_at hl 0 rfl) ?_
  refine lv_iconst (v := 2) hx hb dL_law_615 (by decide) ?_
  refine lv_iadd hx hb dL_law_616 ?_
  refine x_topI (v2 := nI (i + 2)) (nI_add i 2) ?_
  refine x_sld E h hX hbl hbA (i := nI (i + 2)) (j := (i + 2)) (vp_in_nI (by omega) (by omega)) (nI_clamp (by omega)) dL_law_617 ?_
  refine x_vi E h (na := 2) (As := [.int (xs (i + 1)), .int (xs (i + 2))]) (aX11_sure_0 l g σ hI (xs (i + 1)) (xs (i + 2))) (oc_vh g) rfl gL_law_X11_sure rfl ⟨rfl, rfl⟩ rfl (by decide +kernel) ⟨Nat.le_of_ble_eq_true rfl, Nat.le_of_ble_eq_true rfl⟩ hl.1 rfl (Nat.le_of_ble_eq_true rfl) dL_law_618 ⟨Nat.le_of_ble_eq_true rfl, Nat.le_of_ble_eq_true rfl⟩ (fun r1 s1 H locs q1 h => ?_)
  obtain ⟨x1, hI1, f1⟩ := q1
  have hF1 := hF.call f1 (I := [(0, 40)]) (J := [(0, 93)]) rfl rfl
  refine lv_pop hx hb dL_law_621 rfl ?_
  refine lv_aload_n hx hb dL_law_622 rfl (lv_at hl 1 rfl) ?_
  refine lv_aload_n hx hb dL_law_623 rfl (lv_at hl 3 rfl) ?_
  refine lv_iload_n hx hb dL_law_624 rfl (lv_at hl 0 rfl) ?_
  refine lv_iconst (v := 1) hx hb dL_law_625 (by decide) ?_
  refine lv_iadd hx hb dL_law_626 ?_
  refine x_topI (v2 := nI (i + 1)) (nI_add i 1) ?_
  refine x_sld E h hX hbl hbA (i := nI (i + 1)) (j := (i + 1)) (vp_in_nI (by omega) (by omega)) (nI_clamp (by omega)) dL_law_627 ?_
  refine lv_aload_n hx hb dL_law_628 rfl (lv_at hl 3 rfl) ?_
  refine lv_iload_n hx hb dL_law_629 rfl (lv_at hl 0 rfl) ?_
  refine lv_iconst (v := 2) hx hb dL_law_630 (by decide) ?_
  refine lv_iadd hx hb dL_law_631 ?_
  refine x_topI (v2 := nI (i + 2)) (nI_add i 2) ?_
  refine x_sld E h hX hbl hbA (i := nI (i + 2)) (j := (i + 2)) (vp_in_nI (by omega) (by omega)) (nI_clamp (by omega)) dL_law_632 ?_
  refine x_vi E h (na := 2) (As := [.int (xs (i + 1)), .int (xs (i + 2))]) (aX12_sure_0 l g s1 hI1 (xs (i + 1)) (xs (i + 2))) (oc_mo g) rfl gL_law_X12_sure rfl ⟨rfl, rfl⟩ rfl (by decide +kernel) ⟨Nat.le_of_ble_eq_true rfl, Nat.le_of_ble_eq_true rfl⟩ hl.1 rfl (Nat.le_of_ble_eq_true rfl) dL_law_633 ⟨Nat.le_of_ble_eq_true rfl, Nat.le_of_ble_eq_true rfl⟩ (fun r2 s2 H locs q2 h => ?_)
  obtain ⟨x2, hI2, f2⟩ := q2
  have hF2 := hF1.call f2 (I := [(0, 40)]) (J := [(0, 93)]) rfl rfl
  refine lv_pop hx hb dL_law_636 rfl ?_
  refine lv_goto (tgt := 1065) hx hb dL_law_637 (by decide) ?_
  exact K s2 _ _ _ hI2 (jc_sure hJ hI x1 hI1 f1 x2 hI2 f2).1 h (lv_sub hl [0, 1, 2, 3] rfl)
set_option maxHeartbeats 4000000 in
set_option maxRecDepth 100000 in
theorem lawc_16 {p : Program} {e : Env} {s : State} {m : MethodId} {below : List Frame} {meth : Method} {c : Code} (l : Launch) {b L : Nat} {xs : Nat → Int32} {g : CX} {ret : Option FieldType} (E : EV p s m #[Value.ref b] meth c cL_law RL wsL_law 4 ret g) (hX : va_X b L xs s s.heap) (hbl : b < s.heap.size) (hbA : ¬ Aw g b) {H : Heap} {ls : Array Slot} {locs : List Loc} {σ : ST} (hI : INV σ) (hJ : JJ σ) {i : Nat} (hL : L ≤ 2560) (h : HW g σ s H locs) (hi : i + 5 ≤ L) (hl : lv_has ls 4 [(3, .int (nI i)), (2, .ref (g.2.1 79)), (1, .ref (g.2.1 0)), (0, .ref b)]) (K : ∀ (τ : ST) (H : Heap) (locs : List Loc) (ls : Array Slot), INV τ → JJ τ → HW g τ s H locs → lv_has ls 4 [(3, .int (nI i)), (2, .ref (g.2.1 79)), (1, .ref (g.2.1 0)), (0, .ref b)] → W p l e room_1 s m #[Value.ref b] below meth c H locs 108 7415 (lw_Z below #[Value.ref b] s) (F0 m 1065 ls [])) : W p l e room_1 s m #[Value.ref b] below meth c H locs 108 7415 (lw_Z below #[Value.ref b] s) (F0 m 640 ls []) := by
  have hx := E.1
  have hb := E.2.1
  have hown := E.2.2.2.1
  have hts := E.2.2.2.2.1
  have hF : Fr [(0, 40)] [(0, 93)] σ σ := Fr.refl σ
  refine lv_aload_n hx hb dL_law_640 rfl (lv_at hl 2 rfl) ?_
  refine lv_aload_n hx hb dL_law_641 rfl (lv_at hl 3 rfl) ?_
  refine lv_iload_n hx hb dL_law_642 rfl (lv_at hl 0 rfl) ?_
  refine lv_iconst (v := 1) hx hb dL_law_643 (by decide) ?_
  refine lv_iadd hx hb dL_law_644 ?_
  refine x_topI (v2 := nI (i + 1)) (nI_add i 1) ?_
  refine x_sld E h hX hbl hbA (i := nI (i + 1)) (j := (i + 1)) (vp_in_nI (by omega) (by omega)) (nI_clamp (by omega)) dL_law_645 ?_
  refine lv_aload_n hx hb dL_law_646 rfl (lv_at hl 3 rfl) ?_
  refine lv_iload_n hx hb dL_law_647 rfl (lv_at hl 0 rfl) ?_
  refine lv_iconst (v := 2) hx hb dL_law_648 (by decide) ?_
  refine lv_iadd hx hb dL_law_649 ?_
  refine x_topI (v2 := nI (i + 2)) (nI_add i 2) ?_
  refine x_sld E h hX hbl hbA (i := nI (i + 2)) (j := (i + 2)) (vp_in_nI (by omega) (by omega)) (nI_clamp (by omega)) dL_law_650 ?_
  refine x_vi E h (na := 2) (As := [.int (xs (i + 1)), .int (xs (i + 2))]) (aX11_middle_0 l g σ hI (xs (i + 1)) (xs (i + 2))) (oc_vh g) rfl gL_law_X11_middle rfl ⟨rfl, rfl⟩ rfl (by decide +kernel) ⟨Nat.le_of_ble_eq_true rfl, Nat.le_of_ble_eq_true rfl⟩ hl.1 rfl (Nat.le_of_ble_eq_true rfl) dL_law_651 ⟨Nat.le_of_ble_eq_true rfl, Nat.le_of_ble_eq_true rfl⟩ (fun r1 s1 H locs q1 h => ?_)
  obtain ⟨x1, hI1, f1⟩ := q1
  have hF1 := hF.call f1 (I := [(0, 40)]) (J := [(0, 93)]) rfl rfl
  refine lv_pop hx hb dL_law_654 rfl ?_
  refine lv_aload_n hx hb dL_law_655 rfl (lv_at hl 1 rfl) ?_
  refine lv_aload_n hx hb dL_law_656 rfl (lv_at hl 3 rfl) ?_
  refine lv_iload_n hx hb dL_law_657 rfl (lv_at hl 0 rfl) ?_
  refine lv_iconst (v := 1) hx hb dL_law_658 (by decide) ?_
  refine lv_iadd hx hb dL_law_659 ?_
  refine x_topI (v2 := nI (i + 1)) (nI_add i 1) ?_
  refine x_sld E h hX hbl hbA (i := nI (i + 1)) (j := (i + 1)) (vp_in_nI (by omega) (by omega)) (nI_clamp (by omega)) dL_law_660 ?_
  refine lv_aload_n hx hb dL_law_661 rfl (lv_at hl 3 rfl) ?_
  refine lv_iload_n hx hb dL_law_662 rfl (lv_at hl 0 rfl) ?_
  refine lv_iconst (v := 2) hx hb dL_law_663 (by decide) ?_
  refine lv_iadd hx hb dL_law_664 ?_
  refine x_topI (v2 := nI (i + 2)) (nI_add i 2) ?_
  refine x_sld E h hX hbl hbA (i := nI (i + 2)) (j := (i + 2)) (vp_in_nI (by omega) (by omega)) (nI_clamp (by omega)) dL_law_665 ?_
  refine x_vi E h (na := 2) (As := [.int (xs (i + 1)), .int (xs (i + 2))]) (aX12_middle_0 l g s1 hI1 (xs (i + 1)) (xs (i + 2))) (oc_mo g) rfl gL_law_X12_middle rfl ⟨rfl, rfl⟩ rfl (by decide +kernel) ⟨Nat.le_of_ble_eq_true rfl, Nat.le_of_ble_eq_true rfl⟩ hl.1 rfl (Nat.le_of_ble_eq_true rfl) dL_law_666 ⟨Nat.le_of_ble_eq_true rfl, Nat.le_of_ble_eq_true rfl⟩ (fun r2 s2 H locs q2 h => ?_)
  obtain ⟨x2, hI2, f2⟩ := q2
  have hF2 := hF1.call f2 (I := [(0, 40)]) (J := [(0, 93)]) rfl rfl
  refine lv_pop hx hb dL_law_669 rfl ?_
  refine lv_goto (tgt := 1065) hx hb dL_law_670 (by decide) ?_
  exact K s2 _ _ _ hI2 (jc_middle hJ hI x1 hI1 f1 x2 hI2 f2).1 h (lv_sub hl [0, 1, 2, 3] rfl)
set_option maxHeartbeats 4000000 in
set_option maxRecDepth 100000 in
theorem lawc_17 {p : Program} {e : Env} {s : State} {m : MethodId} {below : List Frame} {meth : Method} {c : Code} (l : Launch) {b L : Nat} {xs : Nat → Int32} {g : CX} {ret : Option FieldType} (E : EV p s m #[Value.ref b] meth c cL_law RL wsL_law 4 ret g) (hX : va_X b L xs s s.heap) (hbl : b < s.heap.size) (hbA : ¬ Aw g b) {H : Heap} {ls : Array Slot} {locs : List Loc} {σ : ST} (hI : INV σ) (hJ : JJ σ) {i : Nat} (hL : L ≤ 2560) (h : HW g σ s H locs) (hi : i + 5 ≤ L) (hl : lv_has ls 4 [(3, .int (nI i)), (2, .ref (g.2.1 79)), (1, .ref (g.2.1 0)), (0, .ref b)]) (K : ∀ (τ : ST) (H : Heap) (locs : List Loc) (ls : Array Slot), INV τ → JJ τ → HW g τ s H locs → lv_has ls 4 [(3, .int (nI i)), (2, .ref (g.2.1 79)), (1, .ref (g.2.1 0)), (0, .ref b)] → W p l e room_1 s m #[Value.ref b] below meth c H locs 108 7415 (lw_Z below #[Value.ref b] s) (F0 m 1065 ls [])) : W p l e room_1 s m #[Value.ref b] below meth c H locs 108 7415 (lw_Z below #[Value.ref b] s) (F0 m 673 ls []) := by
  have hx := E.1
  have hb := E.2.1
  have hown := E.2.2.2.1
  have hts := E.2.2.2.2.1
  have hF : Fr [(0, 40)] [(0, 93)] σ σ := Fr.refl σ
  refine lv_aload_n hx hb dL_law_673 rfl (lv_at hl 2 rfl) ?_
  refine lv_aload_n hx hb dL_law_674 rfl (lv_at hl 3 rfl) ?_
  refine lv_iload_n hx hb dL_law_675 rfl (lv_at hl 0 rfl) ?_
  refine lv_iconst (v := 1) hx hb dL_law_676 (by decide) ?_
  refine lv_iadd hx hb dL_law_677 ?_
  refine x_topI (v2 := nI (i + 1)) (nI_add i 1) ?_
  refine x_sld E h hX hbl hbA (i := nI (i + 1)) (j := (i + 1)) (vp_in_nI (by omega) (by omega)) (nI_clamp (by omega)) dL_law_678 ?_
  refine lv_aload_n hx hb dL_law_679 rfl (lv_at hl 3 rfl) ?_
  refine lv_iload_n hx hb dL_law_680 rfl (lv_at hl 0 rfl) ?_
  refine lv_iconst (v := 2) hx hb dL_law_681 (by decide) ?_
  refine lv_iadd hx hb dL_law_682 ?_
  refine x_topI (v2 := nI (i + 2)) (nI_add i 2) ?_
  refine x_sld E h hX hbl hbA (i := nI (i + 2)) (j := (i + 2)) (vp_in_nI (by omega) (by omega)) (nI_clamp (by omega)) dL_law_683 ?_
  refine x_vi E h (na := 2) (As := [.int (xs (i + 1)), .int (xs (i + 2))]) (aX11_twice_0 l g σ hI (xs (i + 1)) (xs (i + 2))) (oc_vh g) rfl gL_law_X11_twice rfl ⟨rfl, rfl⟩ rfl (by decide +kernel) ⟨Nat.le_of_ble_eq_true rfl, Nat.le_of_ble_eq_true rfl⟩ hl.1 rfl (Nat.le_of_ble_eq_true rfl) dL_law_684 ⟨Nat.le_of_ble_eq_true rfl, Nat.le_of_ble_eq_true rfl⟩ (fun r1 s1 H locs q1 h => ?_)
  obtain ⟨x1, hI1, f1⟩ := q1
  have hF1 := hF.call f1 (I := [(0, 40)]) (J := [(0, 93)]) rfl rfl
  refine lv_pop hx hb dL_law_687 rfl ?_
  refine lv_aload_n hx hb dL_law_688 rfl (lv_at hl 1 rfl) ?_
  refine lv_aload_n hx hb dL_law_689 rfl (lv_at hl 3 rfl) ?_
  refine lv_iload_n hx hb dL_law_690 rfl (lv_at hl 0 rfl) ?_
  refine lv_iconst (v := 1) hx hb dL_law_691 (by decide) ?_
  refine lv_iadd hx hb dL_law_692 ?_
  refine x_topI (v2 := nI (i + 1)) (nI_add i 1) ?_
  refine x_sld E h hX hbl hbA (i := nI (i + 1)) (j := (i + 1)) (vp_in_nI (by omega) (by omega)) (nI_clamp (by omega)) dL_law_693 ?_
  refine lv_aload_n hx hb dL_law_694 rfl (lv_at hl 3 rfl) ?_
  refine lv_iload_n hx hb dL_law_695 rfl (lv_at hl 0 rfl) ?_
  refine lv_iconst (v := 2) hx hb dL_law_696 (by decide) ?_
  refine lv_iadd hx hb dL_law_697 ?_
  refine x_topI (v2 := nI (i + 2)) (nI_add i 2) ?_
  refine x_sld E h hX hbl hbA (i := nI (i + 2)) (j := (i + 2)) (vp_in_nI (by omega) (by omega)) (nI_clamp (by omega)) dL_law_698 ?_
  refine x_vi E h (na := 2) (As := [.int (xs (i + 1)), .int (xs (i + 2))]) (aX12_twice_0 l g s1 hI1 (xs (i + 1)) (xs (i + 2))) (oc_mo g) rfl gL_law_X12_twice rfl ⟨rfl, rfl⟩ rfl (by decide +kernel) ⟨Nat.le_of_ble_eq_true rfl, Nat.le_of_ble_eq_true rfl⟩ hl.1 rfl (Nat.le_of_ble_eq_true rfl) dL_law_699 ⟨Nat.le_of_ble_eq_true rfl, Nat.le_of_ble_eq_true rfl⟩ (fun r2 s2 H locs q2 h => ?_)
  obtain ⟨x2, hI2, f2⟩ := q2
  have hF2 := hF1.call f2 (I := [(0, 40)]) (J := [(0, 93)]) rfl rfl
  refine lv_pop hx hb dL_law_702 rfl ?_
  refine lv_goto (tgt := 1065) hx hb dL_law_703 (by decide) ?_
  exact K s2 _ _ _ hI2 (jc_twice hJ hI x1 hI1 f1 x2 hI2 f2).1 h (lv_sub hl [0, 1, 2, 3] rfl)
set_option maxHeartbeats 4000000 in
set_option maxRecDepth 100000 in
theorem lawc_18 {p : Program} {e : Env} {s : State} {m : MethodId} {below : List Frame} {meth : Method} {c : Code} (l : Launch) {b L : Nat} {xs : Nat → Int32} {g : CX} {ret : Option FieldType} (E : EV p s m #[Value.ref b] meth c cL_law RL wsL_law 4 ret g) (hX : va_X b L xs s s.heap) (hbl : b < s.heap.size) (hbA : ¬ Aw g b) {H : Heap} {ls : Array Slot} {locs : List Loc} {σ : ST} (hI : INV σ) (hJ : JJ σ) {i : Nat} (hL : L ≤ 2560) (h : HW g σ s H locs) (hi : i + 5 ≤ L) (hl : lv_has ls 4 [(3, .int (nI i)), (2, .ref (g.2.1 79)), (1, .ref (g.2.1 0)), (0, .ref b)]) (K : ∀ (τ : ST) (H : Heap) (locs : List Loc) (ls : Array Slot), INV τ → JJ τ → HW g τ s H locs → lv_has ls 4 [(3, .int (nI i)), (2, .ref (g.2.1 79)), (1, .ref (g.2.1 0)), (0, .ref b)] → W p l e room_1 s m #[Value.ref b] below meth c H locs 108 7415 (lw_Z below #[Value.ref b] s) (F0 m 1065 ls [])) : W p l e room_1 s m #[Value.ref b] below meth c H locs 108 7415 (lw_Z below #[Value.ref b] s) (F0 m 706 ls []) := by
  have hx := E.1
  have hb := E.2.1
  have hown := E.2.2.2.1
  have hts := E.2.2.2.2.1
  have hF : Fr [(0, 40)] [(0, 93)] σ σ := Fr.refl σ
  refine lv_aload_n hx hb dL_law_706 rfl (lv_at hl 2 rfl) ?_
  refine lv_aload_n hx hb dL_law_707 rfl (lv_at hl 3 rfl) ?_
  refine lv_iload_n hx hb dL_law_708 rfl (lv_at hl 0 rfl) ?_
  refine lv_iconst (v := 1) hx hb dL_law_709 (by decide) ?_
  refine lv_iadd hx hb dL_law_710 ?_
  refine x_topI (v2 := nI (i + 1)) (nI_add i 1) ?_
  refine x_sld E h hX hbl hbA (i := nI (i + 1)) (j := (i + 1)) (vp_in_nI (by omega) (by omega)) (nI_clamp (by omega)) dL_law_711 ?_
  refine lv_aload_n hx hb dL_law_712 rfl (lv_at hl 3 rfl) ?_
  refine lv_iload_n hx hb dL_law_713 rfl (lv_at hl 0 rfl) ?_
  refine lv_iconst (v := 2) hx hb dL_law_714 (by decide) ?_
  refine lv_iadd hx hb dL_law_715 ?_
  refine x_topI (v2 := nI (i + 2)) (nI_add i 2) ?_
  refine x_sld E h hX hbl hbA (i := nI (i + 2)) (j := (i + 2)) (vp_in_nI (by omega) (by omega)) (nI_clamp (by omega)) dL_law_716 ?_
  refine x_vi E h (na := 2) (As := [.int (xs (i + 1)), .int (xs (i + 2))]) (aX11_keep_0 l g σ hI (xs (i + 1)) (xs (i + 2))) (oc_vh g) rfl gL_law_X11_keep rfl ⟨rfl, rfl⟩ rfl (by decide +kernel) ⟨Nat.le_of_ble_eq_true rfl, Nat.le_of_ble_eq_true rfl⟩ hl.1 rfl (Nat.le_of_ble_eq_true rfl) dL_law_717 ⟨Nat.le_of_ble_eq_true rfl, Nat.le_of_ble_eq_true rfl⟩ (fun r1 s1 H locs q1 h => ?_)
  obtain ⟨x1, hI1, f1⟩ := q1
  have hF1 := hF.call f1 (I := [(0, 40)]) (J := [(0, 93)]) rfl rfl
  refine lv_pop hx hb dL_law_720 rfl ?_
  refine lv_aload_n hx hb dL_law_721 rfl (lv_at hl 1 rfl) ?_
  refine lv_aload_n hx hb dL_law_722 rfl (lv_at hl 3 rfl) ?_
  refine lv_iload_n hx hb dL_law_723 rfl (lv_at hl 0 rfl) ?_
  refine lv_iconst (v := 1) hx hb dL_law_724 (by decide) ?_
  refine lv_iadd hx hb dL_law_725 ?_
  refine x_topI (v2 := nI (i + 1)) (nI_add i 1) ?_
  refine x_sld E h hX hbl hbA (i := nI (i + 1)) (j := (i + 1)) (vp_in_nI (by omega) (by omega)) (nI_clamp (by omega)) dL_law_726 ?_
  refine lv_aload_n hx hb dL_law_727 rfl (lv_at hl 3 rfl) ?_
  refine lv_iload_n hx hb dL_law_728 rfl (lv_at hl 0 rfl) ?_
  refine lv_iconst (v := 2) hx hb dL_law_729 (by decide) ?_
  refine lv_iadd hx hb dL_law_730 ?_
  refine x_topI (v2 := nI (i + 2)) (nI_add i 2) ?_
  refine x_sld E h hX hbl hbA (i := nI (i + 2)) (j := (i + 2)) (vp_in_nI (by omega) (by omega)) (nI_clamp (by omega)) dL_law_731 ?_
  refine x_vi E h (na := 2) (As := [.int (xs (i + 1)), .int (xs (i + 2))]) (aX12_keep_0 l g s1 hI1 (xs (i + 1)) (xs (i + 2))) (oc_mo g) rfl gL_law_X12_keep rfl ⟨rfl, rfl⟩ rfl (by decide +kernel) ⟨Nat.le_of_ble_eq_true rfl, Nat.le_of_ble_eq_true rfl⟩ hl.1 rfl (Nat.le_of_ble_eq_true rfl) dL_law_732 ⟨Nat.le_of_ble_eq_true rfl, Nat.le_of_ble_eq_true rfl⟩ (fun r2 s2 H locs q2 h => ?_)
  obtain ⟨x2, hI2, f2⟩ := q2
  have hF2 := hF1.call f2 (I := [(0, 40)]) (J := [(0, 93)]) rfl rfl
  refine lv_pop hx hb dL_law_735 rfl ?_
  refine lv_goto (tgt := 1065) hx hb dL_law_736 (by decide) ?_
  exact K s2 _ _ _ hI2 (jc_keep hJ hI x1 hI1 f1 x2 hI2 f2).1 h (lv_sub hl [0, 1, 2, 3] rfl)
set_option maxHeartbeats 4000000 in
set_option maxRecDepth 100000 in
theorem lawc_19 {p : Program} {e : Env} {s : State} {m : MethodId} {below : List Frame} {meth : Method} {c : Code} (l : Launch) {b L : Nat} {xs : Nat → Int32} {g : CX} {ret : Option FieldType} (E : EV p s m #[Value.ref b] meth c cL_law RL wsL_law 4 ret g) (hX : va_X b L xs s s.heap) (hbl : b < s.heap.size) (hbA : ¬ Aw g b) {H : Heap} {ls : Array Slot} {locs : List Loc} {σ : ST} (hI : INV σ) (hJ : JJ σ) {i : Nat} (hL : L ≤ 2560) (h : HW g σ s H locs) (hi : i + 5 ≤ L) (hl : lv_has ls 4 [(3, .int (nI i)), (2, .ref (g.2.1 79)), (1, .ref (g.2.1 0)), (0, .ref b)]) (K : ∀ (τ : ST) (H : Heap) (locs : List Loc) (ls : Array Slot), INV τ → JJ τ → HW g τ s H locs → lv_has ls 4 [(3, .int (nI i)), (2, .ref (g.2.1 79)), (1, .ref (g.2.1 0)), (0, .ref b)] → W p l e room_1 s m #[Value.ref b] below meth c H locs 108 7415 (lw_Z below #[Value.ref b] s) (F0 m 1065 ls [])) : W p l e room_1 s m #[Value.ref b] below meth c H locs 108 7415 (lw_Z below #[Value.ref b] s) (F0 m 739 ls []) := by
  have hx := E.1
  have hb := E.2.1
  have hown := E.2.2.2.1
  have hts := E.2.2.2.2.1
  have hF : Fr [(0, 40)] [(0, 93)] σ σ := Fr.refl σ
  refine lv_aload_n hx hb dL_law_739 rfl (lv_at hl 2 rfl) ?_
  refine lv_aload_n hx hb dL_law_740 rfl (lv_at hl 3 rfl) ?_
  refine lv_iload_n hx hb dL_law_741 rfl (lv_at hl 0 rfl) ?_
  refine lv_iconst (v := 1) hx hb dL_law_742 (by decide) ?_
  refine lv_iadd hx hb dL_law_743 ?_
  refine x_topI (v2 := nI (i + 1)) (nI_add i 1) ?_
  refine x_sld E h hX hbl hbA (i := nI (i + 1)) (j := (i + 1)) (vp_in_nI (by omega) (by omega)) (nI_clamp (by omega)) dL_law_744 ?_
  refine x_vi E h (na := 1) (As := [.int (xs (i + 1))]) (aX11_forget_0 l g σ hI (xs (i + 1))) (oc_vh g) rfl gL_law_X11_forget rfl ⟨rfl, rfl⟩ rfl (by decide +kernel) ⟨Nat.le_of_ble_eq_true rfl, Nat.le_of_ble_eq_true rfl⟩ hl.1 rfl (Nat.le_of_ble_eq_true rfl) dL_law_745 ⟨Nat.le_of_ble_eq_true rfl, Nat.le_of_ble_eq_true rfl⟩ (fun r1 s1 H locs q1 h => ?_)
  obtain ⟨x1, hI1, f1⟩ := q1
  have hF1 := hF.call f1 (I := [(0, 40)]) (J := [(0, 93)]) rfl rfl
  refine lv_pop hx hb dL_law_748 rfl ?_
  refine lv_aload_n hx hb dL_law_749 rfl (lv_at hl 1 rfl) ?_
  refine lv_aload_n hx hb dL_law_750 rfl (lv_at hl 3 rfl) ?_
  refine lv_iload_n hx hb dL_law_751 rfl (lv_at hl 0 rfl) ?_
  refine lv_iconst (v := 1) hx hb dL_law_752 (by decide) ?_
  refine lv_iadd hx hb dL_law_753 ?_
  refine x_topI (v2 := nI (i + 1)) (nI_add i 1) ?_
  refine x_sld E h hX hbl hbA (i := nI (i + 1)) (j := (i + 1)) (vp_in_nI (by omega) (by omega)) (nI_clamp (by omega)) dL_law_754 ?_
  refine x_vi E h (na := 1) (As := [.int (xs (i + 1))]) (aX12_forget_0 l g s1 hI1 (xs (i + 1))) (oc_mo g) rfl gL_law_X12_forget rfl ⟨rfl, rfl⟩ rfl (by decide +kernel) ⟨Nat.le_of_ble_eq_true rfl, Nat.le_of_ble_eq_true rfl⟩ hl.1 rfl (Nat.le_of_ble_eq_true rfl) dL_law_755 ⟨Nat.le_of_ble_eq_true rfl, Nat.le_of_ble_eq_true rfl⟩ (fun r2 s2 H locs q2 h => ?_)
  obtain ⟨x2, hI2, f2⟩ := q2
  have hF2 := hF1.call f2 (I := [(0, 40)]) (J := [(0, 93)]) rfl rfl
  refine lv_pop hx hb dL_law_758 rfl ?_
  refine lv_goto (tgt := 1065) hx hb dL_law_759 (by decide) ?_
  exact K s2 _ _ _ hI2 (jc_forget hJ hI x1 hI1 f1 x2 hI2 f2).1 h (lv_sub hl [0, 1, 2, 3] rfl)
set_option maxHeartbeats 4000000 in
set_option maxRecDepth 100000 in
theorem lawc_20 {p : Program} {e : Env} {s : State} {m : MethodId} {below : List Frame} {meth : Method} {c : Code} (l : Launch) {b L : Nat} {xs : Nat → Int32} {g : CX} {ret : Option FieldType} (E : EV p s m #[Value.ref b] meth c cL_law RL wsL_law 4 ret g) (hX : va_X b L xs s s.heap) (hbl : b < s.heap.size) (hbA : ¬ Aw g b) {H : Heap} {ls : Array Slot} {locs : List Loc} {σ : ST} (hI : INV σ) (hJ : JJ σ) {i : Nat} (hL : L ≤ 2560) (h : HW g σ s H locs) (hi : i + 5 ≤ L) (hl : lv_has ls 4 [(3, .int (nI i)), (2, .ref (g.2.1 79)), (1, .ref (g.2.1 0)), (0, .ref b)]) (K : ∀ (τ : ST) (H : Heap) (locs : List Loc) (ls : Array Slot), INV τ → JJ τ → HW g τ s H locs → lv_has ls 4 [(3, .int (nI i)), (2, .ref (g.2.1 79)), (1, .ref (g.2.1 0)), (0, .ref b)] → W p l e room_1 s m #[Value.ref b] below meth c H locs 108 7415 (lw_Z below #[Value.ref b] s) (F0 m 1065 ls [])) : W p l e room_1 s m #[Value.ref b] below meth c H locs 108 7415 (lw_Z below #[Value.ref b] s) (F0 m 762 ls []) := by
  have hx := E.1
  have hb := E.2.1
  have hown := E.2.2.2.1
  have hts := E.2.2.2.2.1
  have hF : Fr [(0, 40)] [(0, 93)] σ σ := Fr.refl σ
  refine lv_aload_n hx hb dL_law_762 rfl (lv_at hl 2 rfl) ?_
  refine lv_aload_n hx hb dL_law_763 rfl (lv_at hl 3 rfl) ?_
  refine lv_iload_n hx hb dL_law_764 rfl (lv_at hl 0 rfl) ?_
  refine lv_iconst (v := 1) hx hb dL_law_765 (by decide) ?_
  refine lv_iadd hx hb dL_law_766 ?_
  refine x_topI (v2 := nI (i + 1)) (nI_add i 1) ?_
  refine x_sld E h hX hbl hbA (i := nI (i + 1)) (j := (i + 1)) (vp_in_nI (by omega) (by omega)) (nI_clamp (by omega)) dL_law_767 ?_
  refine lv_aload_n hx hb dL_law_768 rfl (lv_at hl 3 rfl) ?_
  refine lv_iload_n hx hb dL_law_769 rfl (lv_at hl 0 rfl) ?_
  refine lv_iconst (v := 2) hx hb dL_law_770 (by decide) ?_
  refine lv_iadd hx hb dL_law_771 ?_
  refine x_topI (v2 := nI (i + 2)) (nI_add i 2) ?_
  refine x_sld E h hX hbl hbA (i := nI (i + 2)) (j := (i + 2)) (vp_in_nI (by omega) (by omega)) (nI_clamp (by omega)) dL_law_772 ?_
  refine x_vi E h (na := 2) (As := [.int (xs (i + 1)), .int (xs (i + 2))]) (aX11_back_0 l g σ hI (xs (i + 1)) (xs (i + 2))) (oc_vh g) rfl gL_law_X11_back rfl ⟨rfl, rfl⟩ rfl (by decide +kernel) ⟨Nat.le_of_ble_eq_true rfl, Nat.le_of_ble_eq_true rfl⟩ hl.1 rfl (Nat.le_of_ble_eq_true rfl) dL_law_773 ⟨Nat.le_of_ble_eq_true rfl, Nat.le_of_ble_eq_true rfl⟩ (fun r1 s1 H locs q1 h => ?_)
  obtain ⟨x1, hI1, f1⟩ := q1
  have hF1 := hF.call f1 (I := [(0, 40)]) (J := [(0, 93)]) rfl rfl
  refine lv_pop hx hb dL_law_776 rfl ?_
  refine lv_aload_n hx hb dL_law_777 rfl (lv_at hl 1 rfl) ?_
  refine lv_aload_n hx hb dL_law_778 rfl (lv_at hl 3 rfl) ?_
  refine lv_iload_n hx hb dL_law_779 rfl (lv_at hl 0 rfl) ?_
  refine lv_iconst (v := 1) hx hb dL_law_780 (by decide) ?_
  refine lv_iadd hx hb dL_law_781 ?_
  refine x_topI (v2 := nI (i + 1)) (nI_add i 1) ?_
  refine x_sld E h hX hbl hbA (i := nI (i + 1)) (j := (i + 1)) (vp_in_nI (by omega) (by omega)) (nI_clamp (by omega)) dL_law_782 ?_
  refine lv_aload_n hx hb dL_law_783 rfl (lv_at hl 3 rfl) ?_
  refine lv_iload_n hx hb dL_law_784 rfl (lv_at hl 0 rfl) ?_
  refine lv_iconst (v := 2) hx hb dL_law_785 (by decide) ?_
  refine lv_iadd hx hb dL_law_786 ?_
  refine x_topI (v2 := nI (i + 2)) (nI_add i 2) ?_
  refine x_sld E h hX hbl hbA (i := nI (i + 2)) (j := (i + 2)) (vp_in_nI (by omega) (by omega)) (nI_clamp (by omega)) dL_law_787 ?_
  refine x_vi E h (na := 2) (As := [.int (xs (i + 1)), .int (xs (i + 2))]) (aX12_back_0 l g s1 hI1 (xs (i + 1)) (xs (i + 2))) (oc_mo g) rfl gL_law_X12_back rfl ⟨rfl, rfl⟩ rfl (by decide +kernel) ⟨Nat.le_of_ble_eq_true rfl, Nat.le_of_ble_eq_true rfl⟩ hl.1 rfl (Nat.le_of_ble_eq_true rfl) dL_law_788 ⟨Nat.le_of_ble_eq_true rfl, Nat.le_of_ble_eq_true rfl⟩ (fun r2 s2 H locs q2 h => ?_)
  obtain ⟨x2, hI2, f2⟩ := q2
  have hF2 := hF1.call f2 (I := [(0, 40)]) (J := [(0, 93)]) rfl rfl
  refine lv_pop hx hb dL_law_791 rfl ?_
  refine lv_goto (tgt := 1065) hx hb dL_law_792 (by decide) ?_
  exact K s2 _ _ _ hI2 (jc_back hJ hI x1 hI1 f1 x2 hI2 f2).1 h (lv_sub hl [0, 1, 2, 3] rfl)
set_option maxHeartbeats 4000000 in
set_option maxRecDepth 100000 in
theorem lawc_21 {p : Program} {e : Env} {s : State} {m : MethodId} {below : List Frame} {meth : Method} {c : Code} (l : Launch) {b L : Nat} {xs : Nat → Int32} {g : CX} {ret : Option FieldType} (E : EV p s m #[Value.ref b] meth c cL_law RL wsL_law 4 ret g) (hX : va_X b L xs s s.heap) (hbl : b < s.heap.size) (hbA : ¬ Aw g b) {H : Heap} {ls : Array Slot} {locs : List Loc} {σ : ST} (hI : INV σ) (hJ : JJ σ) {i : Nat} (hL : L ≤ 2560) (h : HW g σ s H locs) (hi : i + 5 ≤ L) (hl : lv_has ls 4 [(3, .int (nI i)), (2, .ref (g.2.1 79)), (1, .ref (g.2.1 0)), (0, .ref b)]) (K : ∀ (τ : ST) (H : Heap) (locs : List Loc) (ls : Array Slot), INV τ → JJ τ → HW g τ s H locs → lv_has ls 4 [(3, .int (nI i)), (2, .ref (g.2.1 79)), (1, .ref (g.2.1 0)), (0, .ref b)] → W p l e room_1 s m #[Value.ref b] below meth c H locs 108 7415 (lw_Z below #[Value.ref b] s) (F0 m 1065 ls [])) : W p l e room_1 s m #[Value.ref b] below meth c H locs 108 7415 (lw_Z below #[Value.ref b] s) (F0 m 795 ls []) := by
  have hx := E.1
  have hb := E.2.1
  have hown := E.2.2.2.1
  have hts := E.2.2.2.2.1
  have hF : Fr [(0, 40)] [(0, 93)] σ σ := Fr.refl σ
  refine lv_aload_n hx hb dL_law_795 rfl (lv_at hl 2 rfl) ?_
  refine lv_aload_n hx hb dL_law_796 rfl (lv_at hl 3 rfl) ?_
  refine lv_iload_n hx hb dL_law_797 rfl (lv_at hl 0 rfl) ?_
  refine lv_iconst (v := 1) hx hb dL_law_798 (by decide) ?_
  refine lv_iadd hx hb dL_law_799 ?_
  refine x_topI (v2 := nI (i + 1)) (nI_add i 1) ?_
  refine x_sld E h hX hbl hbA (i := nI (i + 1)) (j := (i + 1)) (vp_in_nI (by omega) (by omega)) (nI_clamp (by omega)) dL_law_800 ?_
  refine lv_aload_n hx hb dL_law_801 rfl (lv_at hl 3 rfl) ?_
  refine lv_iload_n hx hb dL_law_802 rfl (lv_at hl 0 rfl) ?_
  refine lv_iconst (v := 2) hx hb dL_law_803 (by decide) ?_
  refine lv_iadd hx hb dL_law_804 ?_
  refine x_topI (v2 := nI (i + 2)) (nI_add i 2) ?_
  refine x_sld E h hX hbl hbA (i := nI (i + 2)) (j := (i + 2)) (vp_in_nI (by omega) (by omega)) (nI_clamp (by omega)) dL_law_805 ?_
  refine lv_aload_n hx hb dL_law_806 rfl (lv_at hl 3 rfl) ?_
  refine lv_iload_n hx hb dL_law_807 rfl (lv_at hl 0 rfl) ?_
  refine lv_iconst (v := 3) hx hb dL_law_808 (by decide) ?_
  refine lv_iadd hx hb dL_law_809 ?_
  refine x_topI (v2 := nI (i + 3)) (nI_add i 3) ?_
  refine x_sld E h hX hbl hbA (i := nI (i + 3)) (j := (i + 3)) (vp_in_nI (by omega) (by omega)) (nI_clamp (by omega)) dL_law_810 ?_
  refine x_vi E h (na := 3) (As := [.int (xs (i + 1)), .int (xs (i + 2)), .int (xs (i + 3))]) (aX11_odds_0 l g σ hI (xs (i + 1)) (xs (i + 2)) (xs (i + 3))) (oc_vh g) rfl gL_law_X11_odds rfl ⟨rfl, rfl⟩ rfl (by decide +kernel) ⟨Nat.le_of_ble_eq_true rfl, Nat.le_of_ble_eq_true rfl⟩ hl.1 rfl (Nat.le_of_ble_eq_true rfl) dL_law_811 ⟨Nat.le_of_ble_eq_true rfl, Nat.le_of_ble_eq_true rfl⟩ (fun r1 s1 H locs q1 h => ?_)
  obtain ⟨x1, hI1, f1⟩ := q1
  have hF1 := hF.call f1 (I := [(0, 40)]) (J := [(0, 93)]) rfl rfl
  refine lv_pop hx hb dL_law_814 rfl ?_
  refine lv_aload_n hx hb dL_law_815 rfl (lv_at hl 1 rfl) ?_
  refine lv_aload_n hx hb dL_law_816 rfl (lv_at hl 3 rfl) ?_
  refine lv_iload_n hx hb dL_law_817 rfl (lv_at hl 0 rfl) ?_
  refine lv_iconst (v := 1) hx hb dL_law_818 (by decide) ?_
  refine lv_iadd hx hb dL_law_819 ?_
  refine x_topI (v2 := nI (i + 1)) (nI_add i 1) ?_
  refine x_sld E h hX hbl hbA (i := nI (i + 1)) (j := (i + 1)) (vp_in_nI (by omega) (by omega)) (nI_clamp (by omega)) dL_law_820 ?_
  refine lv_aload_n hx hb dL_law_821 rfl (lv_at hl 3 rfl) ?_
  refine lv_iload_n hx hb dL_law_822 rfl (lv_at hl 0 rfl) ?_
  refine lv_iconst (v := 2) hx hb dL_law_823 (by decide) ?_
  refine lv_iadd hx hb dL_law_824 ?_
  refine x_topI (v2 := nI (i + 2)) (nI_add i 2) ?_
  refine x_sld E h hX hbl hbA (i := nI (i + 2)) (j := (i + 2)) (vp_in_nI (by omega) (by omega)) (nI_clamp (by omega)) dL_law_825 ?_
  refine lv_aload_n hx hb dL_law_826 rfl (lv_at hl 3 rfl) ?_
  refine lv_iload_n hx hb dL_law_827 rfl (lv_at hl 0 rfl) ?_
  refine lv_iconst (v := 3) hx hb dL_law_828 (by decide) ?_
  refine lv_iadd hx hb dL_law_829 ?_
  refine x_topI (v2 := nI (i + 3)) (nI_add i 3) ?_
  refine x_sld E h hX hbl hbA (i := nI (i + 3)) (j := (i + 3)) (vp_in_nI (by omega) (by omega)) (nI_clamp (by omega)) dL_law_830 ?_
  refine x_vi E h (na := 3) (As := [.int (xs (i + 1)), .int (xs (i + 2)), .int (xs (i + 3))]) (aX12_odds_0 l g s1 hI1 (xs (i + 1)) (xs (i + 2)) (xs (i + 3))) (oc_mo g) rfl gL_law_X12_odds rfl ⟨rfl, rfl⟩ rfl (by decide +kernel) ⟨Nat.le_of_ble_eq_true rfl, Nat.le_of_ble_eq_true rfl⟩ hl.1 rfl (Nat.le_of_ble_eq_true rfl) dL_law_831 ⟨Nat.le_of_ble_eq_true rfl, Nat.le_of_ble_eq_true rfl⟩ (fun r2 s2 H locs q2 h => ?_)
  obtain ⟨x2, hI2, f2⟩ := q2
  have hF2 := hF1.call f2 (I := [(0, 40)]) (J := [(0, 93)]) rfl rfl
  refine lv_pop hx hb dL_law_834 rfl ?_
  refine lv_goto (tgt := 1065) hx hb dL_law_835 (by decide) ?_
  exact K s2 _ _ _ hI2 (jc_odds hJ hI x1 hI1 f1 x2 hI2 f2).1 h (lv_sub hl [0, 1, 2, 3] rfl)
set_option maxHeartbeats 4000000 in
set_option maxRecDepth 100000 in
theorem lawc_22 {p : Program} {e : Env} {s : State} {m : MethodId} {below : List Frame} {meth : Method} {c : Code} (l : Launch) {b L : Nat} {xs : Nat → Int32} {g : CX} {ret : Option FieldType} (E : EV p s m #[Value.ref b] meth c cL_law RL wsL_law 4 ret g) (hX : va_X b L xs s s.heap) (hbl : b < s.heap.size) (hbA : ¬ Aw g b) {H : Heap} {ls : Array Slot} {locs : List Loc} {σ : ST} (hI : INV σ) (hJ : JJ σ) {i : Nat} (hL : L ≤ 2560) (h : HW g σ s H locs) (hi : i + 5 ≤ L) (hl : lv_has ls 4 [(3, .int (nI i)), (2, .ref (g.2.1 79)), (1, .ref (g.2.1 0)), (0, .ref b)]) (K : ∀ (τ : ST) (H : Heap) (locs : List Loc) (ls : Array Slot), INV τ → JJ τ → HW g τ s H locs → lv_has ls 4 [(3, .int (nI i)), (2, .ref (g.2.1 79)), (1, .ref (g.2.1 0)), (0, .ref b)] → W p l e room_1 s m #[Value.ref b] below meth c H locs 108 7415 (lw_Z below #[Value.ref b] s) (F0 m 1065 ls [])) : W p l e room_1 s m #[Value.ref b] below meth c H locs 108 7415 (lw_Z below #[Value.ref b] s) (F0 m 838 ls []) := by
  have hx := E.1
  have hb := E.2.1
  have hown := E.2.2.2.1
  have hts := E.2.2.2.2.1
  have hF : Fr [(0, 40)] [(0, 93)] σ σ := Fr.refl σ
  refine lv_aload_n hx hb dL_law_838 rfl (lv_at hl 2 rfl) ?_
  refine x_vi E h (na := 0) (As := []) (aX11_show_0 l g σ hI) (oc_vh g) rfl gL_law_X11_show rfl ⟨rfl, rfl⟩ rfl (by decide +kernel) ⟨Nat.le_of_ble_eq_true rfl, Nat.le_of_ble_eq_true rfl⟩ hl.1 rfl (Nat.le_of_ble_eq_true rfl) dL_law_839 ⟨Nat.le_of_ble_eq_true rfl, Nat.le_of_ble_eq_true rfl⟩ (fun r1 s1 H locs q1 h => ?_)
  obtain ⟨x1, hI1, f1⟩ := q1
  have hF1 := hF.call f1 (I := [(0, 40)]) (J := [(0, 93)]) rfl rfl
  refine lv_pop hx hb dL_law_842 rfl ?_
  refine lv_aload_n hx hb dL_law_843 rfl (lv_at hl 1 rfl) ?_
  refine x_vi E h (na := 0) (As := []) (aX12_show_0 l g s1 hI1) (oc_mo g) rfl gL_law_X12_show rfl ⟨rfl, rfl⟩ rfl (by decide +kernel) ⟨Nat.le_of_ble_eq_true rfl, Nat.le_of_ble_eq_true rfl⟩ hl.1 rfl (Nat.le_of_ble_eq_true rfl) dL_law_844 ⟨Nat.le_of_ble_eq_true rfl, Nat.le_of_ble_eq_true rfl⟩ (fun r2 s2 H locs q2 h => ?_)
  obtain ⟨x2, hI2, f2⟩ := q2
  have hF2 := hF1.call f2 (I := [(0, 40)]) (J := [(0, 93)]) rfl rfl
  refine lv_pop hx hb dL_law_847 rfl ?_
  refine lv_goto (tgt := 1065) hx hb dL_law_848 (by decide) ?_
  exact K s2 _ _ _ hI2 (jc_show hJ hI x1 hI1 f1 x2 hI2 f2).1 h (lv_sub hl [0, 1, 2, 3] rfl)
set_option maxHeartbeats 4000000 in
set_option maxRecDepth 100000 in
theorem lawc_23 {p : Program} {e : Env} {s : State} {m : MethodId} {below : List Frame} {meth : Method} {c : Code} (l : Launch) {b L : Nat} {xs : Nat → Int32} {g : CX} {ret : Option FieldType} (E : EV p s m #[Value.ref b] meth c cL_law RL wsL_law 4 ret g) (hX : va_X b L xs s s.heap) (hbl : b < s.heap.size) (hbA : ¬ Aw g b) {H : Heap} {ls : Array Slot} {locs : List Loc} {σ : ST} (hI : INV σ) (hJ : JJ σ) {i : Nat} (hL : L ≤ 2560) (h : HW g σ s H locs) (hi : i + 5 ≤ L) (hl : lv_has ls 4 [(3, .int (nI i)), (2, .ref (g.2.1 79)), (1, .ref (g.2.1 0)), (0, .ref b)]) (K : ∀ (τ : ST) (H : Heap) (locs : List Loc) (ls : Array Slot), INV τ → JJ τ → HW g τ s H locs → lv_has ls 4 [(3, .int (nI i)), (2, .ref (g.2.1 79)), (1, .ref (g.2.1 0)), (0, .ref b)] → W p l e room_1 s m #[Value.ref b] below meth c H locs 108 7415 (lw_Z below #[Value.ref b] s) (F0 m 1065 ls [])) : W p l e room_1 s m #[Value.ref b] below meth c H locs 108 7415 (lw_Z below #[Value.ref b] s) (F0 m 851 ls []) := by
  have hx := E.1
  have hb := E.2.1
  have hown := E.2.2.2.1
  have hts := E.2.2.2.2.1
  have hF : Fr [(0, 40)] [(0, 93)] σ σ := Fr.refl σ
  refine lv_aload_n hx hb dL_law_851 rfl (lv_at hl 2 rfl) ?_
  refine x_vi E h (na := 0) (As := []) (aX11_otherwise_0 l g σ hI) (oc_vh g) rfl gL_law_X11_otherwise rfl ⟨rfl, rfl⟩ rfl (by decide +kernel) ⟨Nat.le_of_ble_eq_true rfl, Nat.le_of_ble_eq_true rfl⟩ hl.1 rfl (Nat.le_of_ble_eq_true rfl) dL_law_852 ⟨Nat.le_of_ble_eq_true rfl, Nat.le_of_ble_eq_true rfl⟩ (fun r1 s1 H locs q1 h => ?_)
  obtain ⟨x1, hI1, f1⟩ := q1
  have hF1 := hF.call f1 (I := [(0, 40)]) (J := [(0, 93)]) rfl rfl
  refine lv_pop hx hb dL_law_855 rfl ?_
  refine lv_aload_n hx hb dL_law_856 rfl (lv_at hl 1 rfl) ?_
  refine x_vi E h (na := 0) (As := []) (aX12_otherwise_0 l g s1 hI1) (oc_mo g) rfl gL_law_X12_otherwise rfl ⟨rfl, rfl⟩ rfl (by decide +kernel) ⟨Nat.le_of_ble_eq_true rfl, Nat.le_of_ble_eq_true rfl⟩ hl.1 rfl (Nat.le_of_ble_eq_true rfl) dL_law_857 ⟨Nat.le_of_ble_eq_true rfl, Nat.le_of_ble_eq_true rfl⟩ (fun r2 s2 H locs q2 h => ?_)
  obtain ⟨x2, hI2, f2⟩ := q2
  have hF2 := hF1.call f2 (I := [(0, 40)]) (J := [(0, 93)]) rfl rfl
  refine lv_pop hx hb dL_law_860 rfl ?_
  refine lv_goto (tgt := 1065) hx hb dL_law_861 (by decide) ?_
  exact K s2 _ _ _ hI2 (jc_otherwise hJ hI x1 hI1 f1 x2 hI2 f2).1 h (lv_sub hl [0, 1, 2, 3] rfl)
set_option maxHeartbeats 4000000 in
set_option maxRecDepth 100000 in
theorem lawc_24 {p : Program} {e : Env} {s : State} {m : MethodId} {below : List Frame} {meth : Method} {c : Code} (l : Launch) {b L : Nat} {xs : Nat → Int32} {g : CX} {ret : Option FieldType} (E : EV p s m #[Value.ref b] meth c cL_law RL wsL_law 4 ret g) (hX : va_X b L xs s s.heap) (hbl : b < s.heap.size) (hbA : ¬ Aw g b) {H : Heap} {ls : Array Slot} {locs : List Loc} {σ : ST} (hI : INV σ) (hJ : JJ σ) {i : Nat} (hL : L ≤ 2560) (h : HW g σ s H locs) (hi : i + 5 ≤ L) (hl : lv_has ls 4 [(3, .int (nI i)), (2, .ref (g.2.1 79)), (1, .ref (g.2.1 0)), (0, .ref b)]) (K : ∀ (τ : ST) (H : Heap) (locs : List Loc) (ls : Array Slot), INV τ → JJ τ → HW g τ s H locs → lv_has ls 4 [(3, .int (nI i)), (2, .ref (g.2.1 79)), (1, .ref (g.2.1 0)), (0, .ref b)] → W p l e room_1 s m #[Value.ref b] below meth c H locs 108 7415 (lw_Z below #[Value.ref b] s) (F0 m 1065 ls [])) : W p l e room_1 s m #[Value.ref b] below meth c H locs 108 7415 (lw_Z below #[Value.ref b] s) (F0 m 864 ls []) := by
  have hx := E.1
  have hb := E.2.1
  have hown := E.2.2.2.1
  have hts := E.2.2.2.2.1
  have hF : Fr [(0, 40)] [(0, 93)] σ σ := Fr.refl σ
  refine lv_aload_n hx hb dL_law_864 rfl (lv_at hl 2 rfl) ?_
  refine lv_aload_n hx hb dL_law_865 rfl (lv_at hl 3 rfl) ?_
  refine lv_iload_n hx hb dL_law_866 rfl (lv_at hl 0 rfl) ?_
  refine lv_iconst (v := 1) hx hb dL_law_867 (by decide) ?_
  refine lv_iadd hx hb dL_law_868 ?_
  refine x_topI (v2 := nI (i + 1)) (nI_add i 1) ?_
  refine x_sld E h hX hbl hbA (i := nI (i + 1)) (j := (i + 1)) (vp_in_nI (by omega) (by omega)) (nI_clamp (by omega)) dL_law_869 ?_
  refine lv_aload_n hx hb dL_law_870 rfl (lv_at hl 3 rfl) ?_
  refine lv_iload_n hx hb dL_law_871 rfl (lv_at hl 0 rfl) ?_
  refine lv_iconst (v := 2) hx hb dL_law_872 (by decide) ?_
  refine lv_iadd hx hb dL_law_873 ?_
  refine x_topI (v2 := nI (i + 2)) (nI_add i 2) ?_
  refine x_sld E h hX hbl hbA (i := nI (i + 2)) (j := (i + 2)) (vp_in_nI (by omega) (by omega)) (nI_clamp (by omega)) dL_law_874 ?_
  refine x_vi E h (na := 2) (As := [.int (xs (i + 1)), .int (xs (i + 2))]) (aX11_word_0 l g σ hI (xs (i + 1)) (xs (i + 2))) (oc_vh g) rfl gL_law_X11_word rfl ⟨rfl, rfl⟩ rfl (by decide +kernel) ⟨Nat.le_of_ble_eq_true rfl, Nat.le_of_ble_eq_true rfl⟩ hl.1 rfl (Nat.le_of_ble_eq_true rfl) dL_law_875 ⟨Nat.le_of_ble_eq_true rfl, Nat.le_of_ble_eq_true rfl⟩ (fun r1 s1 H locs q1 h => ?_)
  obtain ⟨x1, hI1, f1⟩ := q1
  have hF1 := hF.call f1 (I := [(0, 40)]) (J := [(0, 93)]) rfl rfl
  refine lv_pop hx hb dL_law_878 rfl ?_
  refine lv_aload_n hx hb dL_law_879 rfl (lv_at hl 1 rfl) ?_
  refine lv_aload_n hx hb dL_law_880 rfl (lv_at hl 3 rfl) ?_
  refine lv_iload_n hx hb dL_law_881 rfl (lv_at hl 0 rfl) ?_
  refine lv_iconst (v := 1) hx hb dL_law_882 (by decide) ?_
  refine lv_iadd hx hb dL_law_883 ?_
  refine x_topI (v2 := nI (i + 1)) (nI_add i 1) ?_
  refine x_sld E h hX hbl hbA (i := nI (i + 1)) (j := (i + 1)) (vp_in_nI (by omega) (by omega)) (nI_clamp (by omega)) dL_law_884 ?_
  refine lv_aload_n hx hb dL_law_885 rfl (lv_at hl 3 rfl) ?_
  refine lv_iload_n hx hb dL_law_886 rfl (lv_at hl 0 rfl) ?_
  refine lv_iconst (v := 2) hx hb dL_law_887 (by decide) ?_
  refine lv_iadd hx hb dL_law_888 ?_
  refine x_topI (v2 := nI (i + 2)) (nI_add i 2) ?_
  refine x_sld E h hX hbl hbA (i := nI (i + 2)) (j := (i + 2)) (vp_in_nI (by omega) (by omega)) (nI_clamp (by omega)) dL_law_889 ?_
  refine x_vi E h (na := 2) (As := [.int (xs (i + 1)), .int (xs (i + 2))]) (aX12_word_0 l g s1 hI1 (xs (i + 1)) (xs (i + 2))) (oc_mo g) rfl gL_law_X12_word rfl ⟨rfl, rfl⟩ rfl (by decide +kernel) ⟨Nat.le_of_ble_eq_true rfl, Nat.le_of_ble_eq_true rfl⟩ hl.1 rfl (Nat.le_of_ble_eq_true rfl) dL_law_890 ⟨Nat.le_of_ble_eq_true rfl, Nat.le_of_ble_eq_true rfl⟩ (fun r2 s2 H locs q2 h => ?_)
  obtain ⟨x2, hI2, f2⟩ := q2
  have hF2 := hF1.call f2 (I := [(0, 40)]) (J := [(0, 93)]) rfl rfl
  refine lv_pop hx hb dL_law_893 rfl ?_
  refine lv_goto (tgt := 1065) hx hb dL_law_894 (by decide) ?_
  exact K s2 _ _ _ hI2 (jc_word hJ hI x1 hI1 f1 x2 hI2 f2).1 h (lv_sub hl [0, 1, 2, 3] rfl)
set_option maxHeartbeats 4000000 in
set_option maxRecDepth 100000 in
theorem lawc_25 {p : Program} {e : Env} {s : State} {m : MethodId} {below : List Frame} {meth : Method} {c : Code} (l : Launch) {b L : Nat} {xs : Nat → Int32} {g : CX} {ret : Option FieldType} (E : EV p s m #[Value.ref b] meth c cL_law RL wsL_law 4 ret g) (hX : va_X b L xs s s.heap) (hbl : b < s.heap.size) (hbA : ¬ Aw g b) {H : Heap} {ls : Array Slot} {locs : List Loc} {σ : ST} (hI : INV σ) (hJ : JJ σ) {i : Nat} (hL : L ≤ 2560) (h : HW g σ s H locs) (hi : i + 5 ≤ L) (hl : lv_has ls 4 [(3, .int (nI i)), (2, .ref (g.2.1 79)), (1, .ref (g.2.1 0)), (0, .ref b)]) (K : ∀ (τ : ST) (H : Heap) (locs : List Loc) (ls : Array Slot), INV τ → JJ τ → HW g τ s H locs → lv_has ls 4 [(3, .int (nI i)), (2, .ref (g.2.1 79)), (1, .ref (g.2.1 0)), (0, .ref b)] → W p l e room_1 s m #[Value.ref b] below meth c H locs 108 7415 (lw_Z below #[Value.ref b] s) (F0 m 1065 ls [])) : W p l e room_1 s m #[Value.ref b] below meth c H locs 108 7415 (lw_Z below #[Value.ref b] s) (F0 m 897 ls []) := by
  have hx := E.1
  have hb := E.2.1
  have hown := E.2.2.2.1
  have hts := E.2.2.2.2.1
  have hF : Fr [(0, 40)] [(0, 93)] σ σ := Fr.refl σ
  refine lv_aload_n hx hb dL_law_897 rfl (lv_at hl 2 rfl) ?_
  refine lv_aload_n hx hb dL_law_898 rfl (lv_at hl 3 rfl) ?_
  refine lv_iload_n hx hb dL_law_899 rfl (lv_at hl 0 rfl) ?_
  refine lv_iconst (v := 1) hx hb dL_law_900 (by decide) ?_
  refine lv_iadd hx hb dL_law_901 ?_
  refine x_topI (v2 := nI (i + 1)) (nI_add i 1) ?_
  refine x_sld E h hX hbl hbA (i := nI (i + 1)) (j := (i + 1)) (vp_in_nI (by omega) (by omega)) (nI_clamp (by omega)) dL_law_902 ?_
  refine lv_aload_n hx hb dL_law_903 rfl (lv_at hl 3 rfl) ?_
  refine lv_iload_n hx hb dL_law_904 rfl (lv_at hl 0 rfl) ?_
  refine lv_iconst (v := 2) hx hb dL_law_905 (by decide) ?_
  refine lv_iadd hx hb dL_law_906 ?_
  refine x_topI (v2 := nI (i + 2)) (nI_add i 2) ?_
  refine x_sld E h hX hbl hbA (i := nI (i + 2)) (j := (i + 2)) (vp_in_nI (by omega) (by omega)) (nI_clamp (by omega)) dL_law_907 ?_
  refine x_vi E h (na := 2) (As := [.int (xs (i + 1)), .int (xs (i + 2))]) (aX11_hung_0 l g σ hI (xs (i + 1)) (xs (i + 2))) (oc_vh g) rfl gL_law_X11_hung rfl ⟨rfl, rfl⟩ rfl (by decide +kernel) ⟨Nat.le_of_ble_eq_true rfl, Nat.le_of_ble_eq_true rfl⟩ hl.1 rfl (Nat.le_of_ble_eq_true rfl) dL_law_908 ⟨Nat.le_of_ble_eq_true rfl, Nat.le_of_ble_eq_true rfl⟩ (fun r1 s1 H locs q1 h => ?_)
  obtain ⟨x1, hI1, f1⟩ := q1
  have hF1 := hF.call f1 (I := [(0, 40)]) (J := [(0, 93)]) rfl rfl
  refine lv_pop hx hb dL_law_911 rfl ?_
  refine lv_aload_n hx hb dL_law_912 rfl (lv_at hl 1 rfl) ?_
  refine lv_aload_n hx hb dL_law_913 rfl (lv_at hl 3 rfl) ?_
  refine lv_iload_n hx hb dL_law_914 rfl (lv_at hl 0 rfl) ?_
  refine lv_iconst (v := 1) hx hb dL_law_915 (by decide) ?_
  refine lv_iadd hx hb dL_law_916 ?_
  refine x_topI (v2 := nI (i + 1)) (nI_add i 1) ?_
  refine x_sld E h hX hbl hbA (i := nI (i + 1)) (j := (i + 1)) (vp_in_nI (by omega) (by omega)) (nI_clamp (by omega)) dL_law_917 ?_
  refine lv_aload_n hx hb dL_law_918 rfl (lv_at hl 3 rfl) ?_
  refine lv_iload_n hx hb dL_law_919 rfl (lv_at hl 0 rfl) ?_
  refine lv_iconst (v := 2) hx hb dL_law_920 (by decide) ?_
  refine lv_iadd hx hb dL_law_921 ?_
  refine x_topI (v2 := nI (i + 2)) (nI_add i 2) ?_
  refine x_sld E h hX hbl hbA (i := nI (i + 2)) (j := (i + 2)) (vp_in_nI (by omega) (by omega)) (nI_clamp (by omega)) dL_law_922 ?_
  refine x_vi E h (na := 2) (As := [.int (xs (i + 1)), .int (xs (i + 2))]) (aX12_hung_0 l g s1 hI1 (xs (i + 1)) (xs (i + 2))) (oc_mo g) rfl gL_law_X12_hung rfl ⟨rfl, rfl⟩ rfl (by decide +kernel) ⟨Nat.le_of_ble_eq_true rfl, Nat.le_of_ble_eq_true rfl⟩ hl.1 rfl (Nat.le_of_ble_eq_true rfl) dL_law_923 ⟨Nat.le_of_ble_eq_true rfl, Nat.le_of_ble_eq_true rfl⟩ (fun r2 s2 H locs q2 h => ?_)
  obtain ⟨x2, hI2, f2⟩ := q2
  have hF2 := hF1.call f2 (I := [(0, 40)]) (J := [(0, 93)]) rfl rfl
  refine lv_pop hx hb dL_law_926 rfl ?_
  refine lv_goto (tgt := 1065) hx hb dL_law_927 (by decide) ?_
  exact K s2 _ _ _ hI2 (jc_hung hJ hI x1 hI1 f1 x2 hI2 f2).1 h (lv_sub hl [0, 1, 2, 3] rfl)
set_option maxHeartbeats 4000000 in
set_option maxRecDepth 100000 in
theorem lawc_26 {p : Program} {e : Env} {s : State} {m : MethodId} {below : List Frame} {meth : Method} {c : Code} (l : Launch) {b L : Nat} {xs : Nat → Int32} {g : CX} {ret : Option FieldType} (E : EV p s m #[Value.ref b] meth c cL_law RL wsL_law 4 ret g) (hX : va_X b L xs s s.heap) (hbl : b < s.heap.size) (hbA : ¬ Aw g b) {H : Heap} {ls : Array Slot} {locs : List Loc} {σ : ST} (hI : INV σ) (hJ : JJ σ) {i : Nat} (hL : L ≤ 2560) (h : HW g σ s H locs) (hi : i + 5 ≤ L) (hl : lv_has ls 4 [(3, .int (nI i)), (2, .ref (g.2.1 79)), (1, .ref (g.2.1 0)), (0, .ref b)]) (K : ∀ (τ : ST) (H : Heap) (locs : List Loc) (ls : Array Slot), INV τ → JJ τ → HW g τ s H locs → lv_has ls 4 [(3, .int (nI i)), (2, .ref (g.2.1 79)), (1, .ref (g.2.1 0)), (0, .ref b)] → W p l e room_1 s m #[Value.ref b] below meth c H locs 108 7415 (lw_Z below #[Value.ref b] s) (F0 m 1065 ls [])) : W p l e room_1 s m #[Value.ref b] below meth c H locs 108 7415 (lw_Z below #[Value.ref b] s) (F0 m 930 ls []) := by
  have hx := E.1
  have hb := E.2.1
  have hown := E.2.2.2.1
  have hts := E.2.2.2.2.1
  have hF : Fr [(0, 40)] [(0, 93)] σ σ := Fr.refl σ
  refine lv_aload_n hx hb dL_law_930 rfl (lv_at hl 2 rfl) ?_
  refine lv_aload_n hx hb dL_law_931 rfl (lv_at hl 3 rfl) ?_
  refine lv_iload_n hx hb dL_law_932 rfl (lv_at hl 0 rfl) ?_
  refine lv_iconst (v := 1) hx hb dL_law_933 (by decide) ?_
  refine lv_iadd hx hb dL_law_934 ?_
  refine x_topI (v2 := nI (i + 1)) (nI_add i 1) ?_
  refine x_sld E h hX hbl hbA (i := nI (i + 1)) (j := (i + 1)) (vp_in_nI (by omega) (by omega)) (nI_clamp (by omega)) dL_law_935 ?_
  refine lv_aload_n hx hb dL_law_936 rfl (lv_at hl 3 rfl) ?_
  refine lv_iload_n hx hb dL_law_937 rfl (lv_at hl 0 rfl) ?_
  refine lv_iconst (v := 2) hx hb dL_law_938 (by decide) ?_
  refine lv_iadd hx hb dL_law_939 ?_
  refine x_topI (v2 := nI (i + 2)) (nI_add i 2) ?_
  refine x_sld E h hX hbl hbA (i := nI (i + 2)) (j := (i + 2)) (vp_in_nI (by omega) (by omega)) (nI_clamp (by omega)) dL_law_940 ?_
  refine lv_aload_n hx hb dL_law_941 rfl (lv_at hl 3 rfl) ?_
  refine lv_iload_n hx hb dL_law_942 rfl (lv_at hl 0 rfl) ?_
  refine lv_iconst (v := 3) hx hb dL_law_943 (by decide) ?_
  refine lv_iadd hx hb dL_law_944 ?_
  refine x_topI (v2 := nI (i + 3)) (nI_add i 3) ?_
  refine x_sld E h hX hbl hbA (i := nI (i + 3)) (j := (i + 3)) (vp_in_nI (by omega) (by omega)) (nI_clamp (by omega)) dL_law_945 ?_
  refine x_vi E h (na := 3) (As := [.int (xs (i + 1)), .int (xs (i + 2)), .int (xs (i + 3))]) (aX11_truth_0 l g σ hI (xs (i + 1)) (xs (i + 2)) (xs (i + 3))) (oc_vh g) rfl gL_law_X11_truth rfl ⟨rfl, rfl⟩ rfl (by decide +kernel) ⟨Nat.le_of_ble_eq_true rfl, Nat.le_of_ble_eq_true rfl⟩ hl.1 rfl (Nat.le_of_ble_eq_true rfl) dL_law_946 ⟨Nat.le_of_ble_eq_true rfl, Nat.le_of_ble_eq_true rfl⟩ (fun r1 s1 H locs q1 h => ?_)
  obtain ⟨x1, hI1, f1⟩ := q1
  have hF1 := hF.call f1 (I := [(0, 40)]) (J := [(0, 93)]) rfl rfl
  refine lv_pop hx hb dL_law_949 rfl ?_
  refine lv_aload_n hx hb dL_law_950 rfl (lv_at hl 1 rfl) ?_
  refine lv_aload_n hx hb dL_law_951 rfl (lv_at hl 3 rfl) ?_
  refine lv_iload_n hx hb dL_law_952 rfl (lv_at hl 0 rfl) ?_
  refine lv_iconst (v := 1) hx hb dL_law_953 (by decide) ?_
  refine lv_iadd hx hb dL_law_954 ?_
  refine x_topI (v2 := nI (i + 1)) (nI_add i 1) ?_
  refine x_sld E h hX hbl hbA (i := nI (i + 1)) (j := (i + 1)) (vp_in_nI (by omega) (by omega)) (nI_clamp (by omega)) dL_law_955 ?_
  refine lv_aload_n hx hb dL_law_956 rfl (lv_at hl 3 rfl) ?_
  refine lv_iload_n hx hb dL_law_957 rfl (lv_at hl 0 rfl) ?_
  refine lv_iconst (v := 2) hx hb dL_law_958 (by decide) ?_
  refine lv_iadd hx hb dL_law_959 ?_
  refine x_topI (v2 := nI (i + 2)) (nI_add i 2) ?_
  refine x_sld E h hX hbl hbA (i := nI (i + 2)) (j := (i + 2)) (vp_in_nI (by omega) (by omega)) (nI_clamp (by omega)) dL_law_960 ?_
  refine lv_aload_n hx hb dL_law_961 rfl (lv_at hl 3 rfl) ?_
  refine lv_iload_n hx hb dL_law_962 rfl (lv_at hl 0 rfl) ?_
  refine lv_iconst (v := 3) hx hb dL_law_963 (by decide) ?_
  refine lv_iadd hx hb dL_law_964 ?_
  refine x_topI (v2 := nI (i + 3)) (nI_add i 3) ?_
  refine x_sld E h hX hbl hbA (i := nI (i + 3)) (j := (i + 3)) (vp_in_nI (by omega) (by omega)) (nI_clamp (by omega)) dL_law_965 ?_
  refine x_vi E h (na := 3) (As := [.int (xs (i + 1)), .int (xs (i + 2)), .int (xs (i + 3))]) (aX12_truth_0 l g s1 hI1 (xs (i + 1)) (xs (i + 2)) (xs (i + 3))) (oc_mo g) rfl gL_law_X12_truth rfl ⟨rfl, rfl⟩ rfl (by decide +kernel) ⟨Nat.le_of_ble_eq_true rfl, Nat.le_of_ble_eq_true rfl⟩ hl.1 rfl (Nat.le_of_ble_eq_true rfl) dL_law_966 ⟨Nat.le_of_ble_eq_true rfl, Nat.le_of_ble_eq_true rfl⟩ (fun r2 s2 H locs q2 h => ?_)
  obtain ⟨x2, hI2, f2⟩ := q2
  have hF2 := hF1.call f2 (I := [(0, 40)]) (J := [(0, 93)]) rfl rfl
  refine lv_pop hx hb dL_law_969 rfl ?_
  refine lv_goto (tgt := 1065) hx hb dL_law_970 (by decide) ?_
  exact K s2 _ _ _ hI2 (jc_truth hJ hI x1 hI1 f1 x2 hI2 f2).1 h (lv_sub hl [0, 1, 2, 3] rfl)
set_option maxHeartbeats 4000000 in
set_option maxRecDepth 100000 in
theorem lawc_27 {p : Program} {e : Env} {s : State} {m : MethodId} {below : List Frame} {meth : Method} {c : Code} (l : Launch) {b L : Nat} {xs : Nat → Int32} {g : CX} {ret : Option FieldType} (E : EV p s m #[Value.ref b] meth c cL_law RL wsL_law 4 ret g) (hX : va_X b L xs s s.heap) (hbl : b < s.heap.size) (hbA : ¬ Aw g b) {H : Heap} {ls : Array Slot} {locs : List Loc} {σ : ST} (hI : INV σ) (hJ : JJ σ) {i : Nat} (hL : L ≤ 2560) (h : HW g σ s H locs) (hi : i + 5 ≤ L) (hl : lv_has ls 4 [(3, .int (nI i)), (2, .ref (g.2.1 79)), (1, .ref (g.2.1 0)), (0, .ref b)]) (K : ∀ (τ : ST) (H : Heap) (locs : List Loc) (ls : Array Slot), INV τ → JJ τ → HW g τ s H locs → lv_has ls 4 [(3, .int (nI i)), (2, .ref (g.2.1 79)), (1, .ref (g.2.1 0)), (0, .ref b)] → W p l e room_1 s m #[Value.ref b] below meth c H locs 108 7415 (lw_Z below #[Value.ref b] s) (F0 m 1065 ls [])) : W p l e room_1 s m #[Value.ref b] below meth c H locs 108 7415 (lw_Z below #[Value.ref b] s) (F0 m 973 ls []) := by
  have hx := E.1
  have hb := E.2.1
  have hown := E.2.2.2.1
  have hts := E.2.2.2.2.1
  have hF : Fr [(0, 40)] [(0, 93)] σ σ := Fr.refl σ
  refine lv_aload_n hx hb dL_law_973 rfl (lv_at hl 2 rfl) ?_
  refine lv_aload_n hx hb dL_law_974 rfl (lv_at hl 3 rfl) ?_
  refine lv_iload_n hx hb dL_law_975 rfl (lv_at hl 0 rfl) ?_
  refine lv_iconst (v := 1) hx hb dL_law_976 (by decide) ?_
  refine lv_iadd hx hb dL_law_977 ?_
  refine x_topI (v2 := nI (i + 1)) (nI_add i 1) ?_
  refine x_sld E h hX hbl hbA (i := nI (i + 1)) (j := (i + 1)) (vp_in_nI (by omega) (by omega)) (nI_clamp (by omega)) dL_law_978 ?_
  refine x_vi E h (na := 1) (As := [.int (xs (i + 1))]) (aX11_errors_0 l g σ hI (xs (i + 1))) (oc_vh g) rfl gL_law_X11_errors rfl ⟨rfl, rfl⟩ rfl (by decide +kernel) ⟨Nat.le_of_ble_eq_true rfl, Nat.le_of_ble_eq_true rfl⟩ hl.1 rfl (Nat.le_of_ble_eq_true rfl) dL_law_979 ⟨Nat.le_of_ble_eq_true rfl, Nat.le_of_ble_eq_true rfl⟩ (fun r1 s1 H locs q1 h => ?_)
  obtain ⟨x1, hI1, f1⟩ := q1
  have hF1 := hF.call f1 (I := [(0, 40)]) (J := [(0, 93)]) rfl rfl
  refine lv_pop hx hb dL_law_982 rfl ?_
  refine lv_aload_n hx hb dL_law_983 rfl (lv_at hl 1 rfl) ?_
  refine lv_aload_n hx hb dL_law_984 rfl (lv_at hl 3 rfl) ?_
  refine lv_iload_n hx hb dL_law_985 rfl (lv_at hl 0 rfl) ?_
  refine lv_iconst (v := 1) hx hb dL_law_986 (by decide) ?_
  refine lv_iadd hx hb dL_law_987 ?_
  refine x_topI (v2 := nI (i + 1)) (nI_add i 1) ?_
  refine x_sld E h hX hbl hbA (i := nI (i + 1)) (j := (i + 1)) (vp_in_nI (by omega) (by omega)) (nI_clamp (by omega)) dL_law_988 ?_
  refine x_vi E h (na := 1) (As := [.int (xs (i + 1))]) (aX12_errors_0 l g s1 hI1 (xs (i + 1))) (oc_mo g) rfl gL_law_X12_errors rfl ⟨rfl, rfl⟩ rfl (by decide +kernel) ⟨Nat.le_of_ble_eq_true rfl, Nat.le_of_ble_eq_true rfl⟩ hl.1 rfl (Nat.le_of_ble_eq_true rfl) dL_law_989 ⟨Nat.le_of_ble_eq_true rfl, Nat.le_of_ble_eq_true rfl⟩ (fun r2 s2 H locs q2 h => ?_)
  obtain ⟨x2, hI2, f2⟩ := q2
  have hF2 := hF1.call f2 (I := [(0, 40)]) (J := [(0, 93)]) rfl rfl
  refine lv_pop hx hb dL_law_992 rfl ?_
  refine lv_goto (tgt := 1065) hx hb dL_law_993 (by decide) ?_
  exact K s2 _ _ _ hI2 (jc_errors hJ hI x1 hI1 f1 x2 hI2 f2).1 h (lv_sub hl [0, 1, 2, 3] rfl)
set_option maxHeartbeats 4000000 in
set_option maxRecDepth 100000 in
theorem lawc_28 {p : Program} {e : Env} {s : State} {m : MethodId} {below : List Frame} {meth : Method} {c : Code} (l : Launch) {b L : Nat} {xs : Nat → Int32} {g : CX} {ret : Option FieldType} (E : EV p s m #[Value.ref b] meth c cL_law RL wsL_law 4 ret g) (hX : va_X b L xs s s.heap) (hbl : b < s.heap.size) (hbA : ¬ Aw g b) {H : Heap} {ls : Array Slot} {locs : List Loc} {σ : ST} (hI : INV σ) (hJ : JJ σ) {i : Nat} (hL : L ≤ 2560) (h : HW g σ s H locs) (hi : i + 5 ≤ L) (hl : lv_has ls 4 [(3, .int (nI i)), (2, .ref (g.2.1 79)), (1, .ref (g.2.1 0)), (0, .ref b)]) (K : ∀ (τ : ST) (H : Heap) (locs : List Loc) (ls : Array Slot), INV τ → JJ τ → HW g τ s H locs → lv_has ls 4 [(3, .int (nI i)), (2, .ref (g.2.1 79)), (1, .ref (g.2.1 0)), (0, .ref b)] → W p l e room_1 s m #[Value.ref b] below meth c H locs 108 7415 (lw_Z below #[Value.ref b] s) (F0 m 1065 ls [])) : W p l e room_1 s m #[Value.ref b] below meth c H locs 108 7415 (lw_Z below #[Value.ref b] s) (F0 m 996 ls []) := by
  have hx := E.1
  have hb := E.2.1
  have hown := E.2.2.2.1
  have hts := E.2.2.2.2.1
  have hF : Fr [(0, 40)] [(0, 93)] σ σ := Fr.refl σ
  refine lv_aload_n hx hb dL_law_996 rfl (lv_at hl 2 rfl) ?_
  refine lv_aload_n hx hb dL_law_997 rfl (lv_at hl 3 rfl) ?_
  refine lv_iload_n hx hb dL_law_998 rfl (lv_at hl 0 rfl) ?_
  refine lv_iconst (v := 1) hx hb dL_law_999 (by decide) ?_
  refine lv_iadd hx hb dL_law_1000 ?_
  refine x_topI (v2 := nI (i + 1)) (nI_add i 1) ?_
  refine x_sld E h hX hbl hbA (i := nI (i + 1)) (j := (i + 1)) (vp_in_nI (by omega) (by omega)) (nI_clamp (by omega)) dL_law_1001 ?_
  refine lv_aload_n hx hb dL_law_1002 rfl (lv_at hl 3 rfl) ?_
  refine lv_iload_n hx hb dL_law_1003 rfl (lv_at hl 0 rfl) ?_
  refine lv_iconst (v := 2) hx hb dL_law_1004 (by decide) ?_
  refine lv_iadd hx hb dL_law_1005 ?_
  refine x_topI (v2 := nI (i + 2)) (nI_add i 2) ?_
  refine x_sld E h hX hbl hbA (i := nI (i + 2)) (j := (i + 2)) (vp_in_nI (by omega) (by omega)) (nI_clamp (by omega)) dL_law_1006 ?_
  refine x_vi E h (na := 2) (As := [.int (xs (i + 1)), .int (xs (i + 2))]) (aX11_weight_0 l g σ hI (xs (i + 1)) (xs (i + 2))) (oc_vh g) rfl gL_law_X11_weight rfl ⟨rfl, rfl⟩ rfl (by decide +kernel) ⟨Nat.le_of_ble_eq_true rfl, Nat.le_of_ble_eq_true rfl⟩ hl.1 rfl (Nat.le_of_ble_eq_true rfl) dL_law_1007 ⟨Nat.le_of_ble_eq_true rfl, Nat.le_of_ble_eq_true rfl⟩ (fun r1 s1 H locs q1 h => ?_)
  obtain ⟨x1, hI1, f1⟩ := q1
  have hF1 := hF.call f1 (I := [(0, 40)]) (J := [(0, 93)]) rfl rfl
  refine lv_pop hx hb dL_law_1010 rfl ?_
  refine lv_aload_n hx hb dL_law_1011 rfl (lv_at hl 1 rfl) ?_
  refine lv_aload_n hx hb dL_law_1012 rfl (lv_at hl 3 rfl) ?_
  refine lv_iload_n hx hb dL_law_1013 rfl (lv_at hl 0 rfl) ?_
  refine lv_iconst (v := 1) hx hb dL_law_1014 (by decide) ?_
  refine lv_iadd hx hb dL_law_1015 ?_
  refine x_topI (v2 := nI (i + 1)) (nI_add i 1) ?_
  refine x_sld E h hX hbl hbA (i := nI (i + 1)) (j := (i + 1)) (vp_in_nI (by omega) (by omega)) (nI_clamp (by omega)) dL_law_1016 ?_
  refine lv_aload_n hx hb dL_law_1017 rfl (lv_at hl 3 rfl) ?_
  refine lv_iload_n hx hb dL_law_1018 rfl (lv_at hl 0 rfl) ?_
  refine lv_iconst (v := 2) hx hb dL_law_1019 (by decide) ?_
  refine lv_iadd hx hb dL_law_1020 ?_
  refine x_topI (v2 := nI (i + 2)) (nI_add i 2) ?_
  refine x_sld E h hX hbl hbA (i := nI (i + 2)) (j := (i + 2)) (vp_in_nI (by omega) (by omega)) (nI_clamp (by omega)) dL_law_1021 ?_
  refine x_vi E h (na := 2) (As := [.int (xs (i + 1)), .int (xs (i + 2))]) (aX12_weight_0 l g s1 hI1 (xs (i + 1)) (xs (i + 2))) (oc_mo g) rfl gL_law_X12_weight rfl ⟨rfl, rfl⟩ rfl (by decide +kernel) ⟨Nat.le_of_ble_eq_true rfl, Nat.le_of_ble_eq_true rfl⟩ hl.1 rfl (Nat.le_of_ble_eq_true rfl) dL_law_1022 ⟨Nat.le_of_ble_eq_true rfl, Nat.le_of_ble_eq_true rfl⟩ (fun r2 s2 H locs q2 h => ?_)
  obtain ⟨x2, hI2, f2⟩ := q2
  have hF2 := hF1.call f2 (I := [(0, 40)]) (J := [(0, 93)]) rfl rfl
  refine lv_pop hx hb dL_law_1025 rfl ?_
  refine lv_goto (tgt := 1065) hx hb dL_law_1026 (by decide) ?_
  exact K s2 _ _ _ hI2 (jc_weight hJ hI x1 hI1 f1 x2 hI2 f2).1 h (lv_sub hl [0, 1, 2, 3] rfl)
set_option maxHeartbeats 4000000 in
set_option maxRecDepth 100000 in
theorem lawc_29 {p : Program} {e : Env} {s : State} {m : MethodId} {below : List Frame} {meth : Method} {c : Code} (l : Launch) {b L : Nat} {xs : Nat → Int32} {g : CX} {ret : Option FieldType} (E : EV p s m #[Value.ref b] meth c cL_law RL wsL_law 4 ret g) (hX : va_X b L xs s s.heap) (hbl : b < s.heap.size) (hbA : ¬ Aw g b) {H : Heap} {ls : Array Slot} {locs : List Loc} {σ : ST} (hI : INV σ) (hJ : JJ σ) {i : Nat} (hL : L ≤ 2560) (h : HW g σ s H locs) (hi : i + 5 ≤ L) (hl : lv_has ls 4 [(3, .int (nI i)), (2, .ref (g.2.1 79)), (1, .ref (g.2.1 0)), (0, .ref b)]) (K : ∀ (τ : ST) (H : Heap) (locs : List Loc) (ls : Array Slot), INV τ → JJ τ → HW g τ s H locs → lv_has ls 4 [(3, .int (nI i)), (2, .ref (g.2.1 79)), (1, .ref (g.2.1 0)), (0, .ref b)] → W p l e room_1 s m #[Value.ref b] below meth c H locs 108 7415 (lw_Z below #[Value.ref b] s) (F0 m 1065 ls [])) : W p l e room_1 s m #[Value.ref b] below meth c H locs 108 7415 (lw_Z below #[Value.ref b] s) (F0 m 1029 ls []) := by
  have hx := E.1
  have hb := E.2.1
  have hown := E.2.2.2.1
  have hts := E.2.2.2.2.1
  have hF : Fr [(0, 40)] [(0, 93)] σ σ := Fr.refl σ
  refine lv_aload_n hx hb dL_law_1029 rfl (lv_at hl 2 rfl) ?_
  refine lv_aload_n hx hb dL_law_1030 rfl (lv_at hl 3 rfl) ?_
  refine lv_iload_n hx hb dL_law_1031 rfl (lv_at hl 0 rfl) ?_
  refine lv_iconst (v := 1) hx hb dL_law_1032 (by decide) ?_
  refine lv_iadd hx hb dL_law_1033 ?_
  refine x_topI (v2 := nI (i + 1)) (nI_add i 1) ?_
  refine x_sld E h hX hbl hbA (i := nI (i + 1)) (j := (i + 1)) (vp_in_nI (by omega) (by omega)) (nI_clamp (by omega)) dL_law_1034 ?_
  refine x_vi E h (na := 1) (As := [.int (xs (i + 1))]) (aX11_count_0 l g σ hI (xs (i + 1))) (oc_vh g) rfl gL_law_X11_count rfl ⟨rfl, rfl⟩ rfl (by decide +kernel) ⟨Nat.le_of_ble_eq_true rfl, Nat.le_of_ble_eq_true rfl⟩ hl.1 rfl (Nat.le_of_ble_eq_true rfl) dL_law_1035 ⟨Nat.le_of_ble_eq_true rfl, Nat.le_of_ble_eq_true rfl⟩ (fun r1 s1 H locs q1 h => ?_)
  obtain ⟨x1, rfl⟩ := q1
  refine lv_aload_n hx hb dL_law_1038 rfl (lv_at hl 1 rfl) ?_
  refine lv_aload_n hx hb dL_law_1039 rfl (lv_at hl 3 rfl) ?_
  refine lv_iload_n hx hb dL_law_1040 rfl (lv_at hl 0 rfl) ?_
  refine lv_iconst (v := 1) hx hb dL_law_1041 (by decide) ?_
  refine lv_iadd hx hb dL_law_1042 ?_
  refine x_topI (v2 := nI (i + 1)) (nI_add i 1) ?_
  refine x_sld E h hX hbl hbA (i := nI (i + 1)) (j := (i + 1)) (vp_in_nI (by omega) (by omega)) (nI_clamp (by omega)) dL_law_1043 ?_
  refine x_vi E h (na := 1) (As := [.int (xs (i + 1))]) (aX12_count_0 l g σ hI (xs (i + 1))) (oc_mo g) rfl gL_law_X12_count rfl ⟨rfl, rfl⟩ rfl (by decide +kernel) ⟨Nat.le_of_ble_eq_true rfl, Nat.le_of_ble_eq_true rfl⟩ hl.1 rfl (Nat.le_of_ble_eq_true rfl) dL_law_1044 ⟨Nat.le_of_ble_eq_true rfl, Nat.le_of_ble_eq_true rfl⟩ (fun r2 s2 H locs q2 h => ?_)
  obtain ⟨x2, rfl⟩ := q2
  refine lv_icmp_eq (tgt := 1065) hx hb dL_law_1047 (by decide) (fun _ => ?_) (fun c => absurd (jc_count hJ hI x1 x2).2 c)
  exact K σ _ _ _ hI (jc_count hJ hI x1 x2).1 h (lv_sub hl [0, 1, 2, 3] rfl)
set_option maxHeartbeats 4000000 in
set_option maxRecDepth 100000 in
theorem lawc_30 {p : Program} {e : Env} {s : State} {m : MethodId} {below : List Frame} {meth : Method} {c : Code} (l : Launch) {b L : Nat} {xs : Nat → Int32} {g : CX} {ret : Option FieldType} (E : EV p s m #[Value.ref b] meth c cL_law RL wsL_law 4 ret g) (hX : va_X b L xs s s.heap) (hbl : b < s.heap.size) (hbA : ¬ Aw g b) {H : Heap} {ls : Array Slot} {locs : List Loc} {σ : ST} (hI : INV σ) (hJ : JJ σ) {i : Nat} (hL : L ≤ 2560) (h : HW g σ s H locs) (hi : i + 5 ≤ L) (hl : lv_has ls 4 [(3, .int (nI i)), (2, .ref (g.2.1 79)), (1, .ref (g.2.1 0)), (0, .ref b)]) (K : ∀ (τ : ST) (H : Heap) (locs : List Loc) (ls : Array Slot), INV τ → JJ τ → HW g τ s H locs → lv_has ls 4 [(3, .int (nI i)), (2, .ref (g.2.1 79)), (1, .ref (g.2.1 0)), (0, .ref b)] → W p l e room_1 s m #[Value.ref b] below meth c H locs 108 7415 (lw_Z below #[Value.ref b] s) (F0 m 1065 ls [])) : W p l e room_1 s m #[Value.ref b] below meth c H locs 108 7415 (lw_Z below #[Value.ref b] s) (F0 m 1052 ls []) := by
  have hx := E.1
  have hb := E.2.1
  have hown := E.2.2.2.1
  have hts := E.2.2.2.2.1
  have hF : Fr [(0, 40)] [(0, 93)] σ σ := Fr.refl σ
  refine lv_aload_n hx hb dL_law_1052 rfl (lv_at hl 2 rfl) ?_
  refine x_vl E h (na := 0) (As := []) (aX11_trace_0 l g σ hI) (oc_vh g) rfl gL_law_X11_trace rfl ⟨rfl, rfl⟩ rfl (by decide +kernel) ⟨Nat.le_of_ble_eq_true rfl, Nat.le_of_ble_eq_true rfl⟩ hl.1 rfl (Nat.le_of_ble_eq_true rfl) dL_law_1053 ⟨Nat.le_of_ble_eq_true rfl, Nat.le_of_ble_eq_true rfl⟩ (fun r1 s1 H locs q1 h => ?_)
  obtain ⟨x1, rfl⟩ := q1
  refine lv_pop2_2 hx hb dL_law_1056 rfl ?_
  refine lv_aload_n hx hb dL_law_1057 rfl (lv_at hl 1 rfl) ?_
  refine x_vl E h (na := 0) (As := []) (aX12_trace_0 l g σ hI) (oc_mo g) rfl gL_law_X12_trace rfl ⟨rfl, rfl⟩ rfl (by decide +kernel) ⟨Nat.le_of_ble_eq_true rfl, Nat.le_of_ble_eq_true rfl⟩ hl.1 rfl (Nat.le_of_ble_eq_true rfl) dL_law_1058 ⟨Nat.le_of_ble_eq_true rfl, Nat.le_of_ble_eq_true rfl⟩ (fun r2 s2 H locs q2 h => ?_)
  obtain ⟨x2, rfl⟩ := q2
  refine lv_pop2_2 hx hb dL_law_1061 rfl ?_
  refine lv_goto (tgt := 1065) hx hb dL_law_1062 (by decide) ?_
  exact K σ _ _ _ hI (jc_trace hJ hI x1 x2).1 h (lv_sub hl [0, 1, 2, 3] rfl)
