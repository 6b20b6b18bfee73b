/-! the JDK members that the six words are asked; made by wip/gen/mkstr.py -/
section ZS
variable {p : Program} {l : Launch} {e : Env} {R : Room} {s : State} {m : MethodId} {args : Array Value} {below : List Frame} {meth : Method} {c : Code} {H : Heap} {locs : List Loc} {cells slots : Nat} {Q : State → Prop}
variable {cc : ByteArray} {pc : Nat} {ls : Array Slot} {rest : List Value} {own : String} {Ts : List Cond} {nL : Nat} {ret : Option FieldType} {g : CX} {σ : ST}
theorem EV.str (E : EV p s m args meth c cc own Ts nL ret g) : vk_S 6 lenS bytS (fun i => g.2.1 (210 + i)) (fun i => g.2.1 (220 + i)) (Aw g) s s.heap ∧ va_Z "java/lang/String" "COMPACT_STRINGS" "Z" (.int 1) (Aw g) s s.heap ∧ va_Zq "jdk/internal/util/Preconditions" "SIOOBE_FORMATTER" "Ljava/util/function/BiFunction;" (Aw g) s s.heap := E.2.2.2.2.2.1.2.2.2.2.2.2.2
theorem z_val (E : EV p s m args meth c cc own Ts nL ret g) (h : HW g σ s H locs) {i idx : Nat} (hi : i < 6) (hlink : Cond.fieldLink own idx "java/lang/String" "value" "[B" ∈ Ts) (hdg : decode cc pc = .ok (.getfield idx, 3))
    (kk : W p l e R s m args below meth c H locs cells slots Q (F0 m (pc + 3) ls (.ref (g.2.1 (220 + i)) :: rest))) : W p l e R s m args below meth c H locs cells slots Q (F0 m pc ls (.ref (g.2.1 (210 + i)) :: rest)) :=
  vk_getf E.1 E.2.1 (E.str.1.1 i hi).2.2.1 h.2 E.2.2.2.1 (E.2.2.2.2.1 _ hlink) (fun _ q => q) hdg kk
theorem z_cod (E : EV p s m args meth c cc own Ts nL ret g) (h : HW g σ s H locs) {i idx : Nat} (hi : i < 6) (hlink : Cond.fieldLink own idx "java/lang/String" "coder" "B" ∈ Ts) (hdg : decode cc pc = .ok (.getfield idx, 3))
    (kk : W p l e R s m args below meth c H locs cells slots Q (F0 m (pc + 3) ls (.int 0 :: rest))) : W p l e R s m args below meth c H locs cells slots Q (F0 m pc ls (.ref (g.2.1 (210 + i)) :: rest)) :=
  vk_getf E.1 E.2.1 (E.str.1.1 i hi).2.1 h.2 E.2.2.2.1 (E.2.2.2.2.1 _ hlink) (fun _ q => q) hdg kk
theorem z_cs (E : EV p s m args meth c cc own Ts nL ret g) (h : HW g σ s H locs) {idx : Nat} (hlink : Cond.fieldLink own idx "java/lang/String" "COMPACT_STRINGS" "Z" ∈ Ts) (hdg : decode cc pc = .ok (.getstatic idx, 3))
    (kk : W p l e R s m args below meth c H locs cells slots Q (F0 m (pc + 3) ls (.int 1 :: rest))) : W p l e R s m args below meth c H locs cells slots Q (F0 m pc ls rest) :=
  va_gets E.1 E.2.1 E.str.2.1 h.2 E.2.2.2.1 (E.2.2.2.2.1 _ hlink) (fun _ q => q) hdg kk
theorem z_len (E : EV p s m args meth c cc own Ts nL ret g) (h : HW g σ s H locs) {i : Nat} (hi : i < 6) (hdg : decode cc pc = .ok (.arraylength, 1))
    (kk : W p l e R s m args below meth c H locs cells slots Q (F0 m (pc + 1) ls (.int (nI (lenS.getD i 0)) :: rest))) : W p l e R s m args below meth c H locs cells slots Q (F0 m pc ls (.ref (g.2.1 (220 + i)) :: rest)) :=
  va_tlen E.1 E.2.1 (E.str.1.1 i hi).2.2.2 h.2 rfl hdg kk
theorem z_bld (E : EV p s m args meth c cc own Ts nL ret g) (h : HW g σ s H locs) {i k : Nat} (hi : i < 6) (hk : k < lenS.getD i 0) (hL : lenS.getD i 0 < 2 ^ 31) (hdg : decode cc pc = .ok (.baload, 1))
    (kk : W p l e R s m args below meth c H locs cells slots Q (F0 m (pc + 1) ls (.int ((bytS.getD i []).getD k 0) :: rest))) : W p l e R s m args below meth c H locs cells slots Q (F0 m pc ls (.int (nI k) :: .ref (g.2.1 (220 + i)) :: rest)) :=
  va_tb E.1 E.2.1 (E.str.1.1 i hi).2.2.2 h.2 (vp_in_nI hk hL) (congrArg (fun j => Value.int ((bytS.getD i []).getD j 0)) (nI_clamp (by omega))) hdg kk
theorem z_preV (E : EV p s m args meth c cc own Ts nL ret g) (h : HW g σ s H locs) {i : Nat} (hi : i < 6) (As : List Value) : PreV s H "java/lang/String" (g.2.1 (210 + i)) (XPre g (.ref (g.2.1 (210 + i)) :: As) σ) As :=
  ⟨XPre.blind, vk_recv (adK := fun i => g.2.1 (210 + i)) E.str.1 hi h.2, fun U hU hW => ⟨rfl, by rw [hU]; exact h.1, E.2.2.2.2.2.1.go h.2 hU hW⟩⟩
theorem z_vi {y : MethodName} {ws ws' : List Cond} {rm : Room} {As st0 : List Value} {bytes : ByteArray} {maxL idx : Nat} {rt : Option FieldType} {post : Int32 → ST → Prop} {i : Nat} (E : EV p s m args meth c cc own Ts nL ret g) (h : HW g σ s H locs) (hi : i < 6) (hM : XM l g y ws rm (.ref (g.2.1 (210 + i)) :: As) σ (XQi g post)) (hG : GoodIn Ts (wsV own idx "java/lang/String" y ws)) (hw : ws = Cond.code y bytes maxL rt :: ws') (hr0 : rm.cells = 0 ∧ rm.slots = 0) {na : Nat} (hna : As.length = na) (hd : y.cls = "java/lang/String" ∧ y.cls ≠ "java/lang/invoke/MethodHandle" ∧ y.cls ≠ "java/lang/invoke/VarHandle" ∧ (parseMethodDescriptor y.desc).map (fun d => d.parameters.length) = some na) (hR : rm.frames + 1 ≤ R.frames ∧ 8 + (maxL + 11) + rm.locals ≤ R.locals) (hls : ls.size = nL) (hst : st0 = As.reverse ++ .ref (g.2.1 (210 + i)) :: rest) (hW : (rest.map fun v => v.category).sum ≤ 8) (hdg : decode cc pc = .ok (.invokevirtual idx, 3)) (hroom : cells ≤ R.cells ∧ slots ≤ R.slots)
    (kk : ∀ (r : Int32) (σ' : ST) (H1 : Heap) (locs1 : List Loc), post r σ' → HW g σ' s H1 locs1 → W p l e R s m args below meth c H1 locs1 cells slots Q (F0 m (pc + 3) ls (.int r :: rest))) : W p l e R s m args below meth c H locs cells slots Q (F0 m pc ls st0) := by
  subst hst
  subst hna
  have hts := E.2.2.2.2.1
  refine va_calli (va_runV (As := As) (rest := rest) ⟨E.1, E.2.1, E.2.2.1, E.2.2.2.1, hts⟩ hM (cwV As.length hts hG hw hr0.1 hr0.2 hd hR) (z_preV E h hi As) rfl rfl hls rfl (lv_room hW) hdg hroom) h.2 (fun _ _ q => q) (fun _ q => q) (fun r u t H1 locs1 ht hvm hpost hB hz hk hS => ?_)
  rw [XB, ht] at hB
  exact kk r u H1 locs1 hpost ⟨hB, hS⟩
theorem z_ldc (E : EV p s m args meth c cc RX8 Ts nL ret g) {i : Nat} (hi : i < 6) {idx : Nat} (hidx : idx = 84 + 2 * i) (hdg : decode cc pc = .ok (.ldc idx, 2))
    (kk : W p l e R s m args below meth c H locs cells slots Q (F0 m (pc + 2) ls (.ref (g.2.1 (210 + i)) :: rest))) : W p l e R s m args below meth c H locs cells slots Q (F0 m pc ls rest) := by
  subst hidx
  exact va_ldcS E.1 E.2.1 E.2.2.2.1 (E.2.2.2.2.2.1.2.1.2.2 i hi) hdg kk
end ZS
set_option maxHeartbeats 4000000 in
set_option maxRecDepth 100000 in
theorem zJ0_coder_7d493 (l : Launch) (g : CX) (σ : ST) {i : Nat} (hi : i < 6) : XM l g yJ0_coder_7d493 wsJ0_coder_7d493 { frames := 0, cells := 0, slots := 0, locals := 0 } [.ref (g.2.1 (210 + i))] σ (XQi g (fun r σ' => 0 = r ∧ σ = σ')) := by
  refine x_met (own := RJ0) (cc := cJ0_coder_7d493) (maxL := 1) (ret := (some .byte)) (lv := [(0, .ref (g.2.1 (210 + i)))]) (by decide) rfl rfl (Nat.le_of_ble_eq_true rfl) rfl ?_
  intro p e s m args below meth c ls E h hl
  have hx := E.1
  have hb := E.2.1
  have hown := E.2.2.2.1
  have hts := E.2.2.2.2.1
  refine z_cs E h (by decide +kernel) dJ0_coder_7d493_0 ?_
  refine lv_if_eq (tgt := 13) hx hb dJ0_coder_7d493_3 (by decide) (fun c => absurd c (by decide)) (fun _ => ?_)
  refine lv_aload_n hx hb dJ0_coder_7d493_6 rfl (lv_at hl 0 rfl) ?_
  refine z_cod E h hi (by decide +kernel) dJ0_coder_7d493_7 ?_
  refine lv_goto (tgt := 14) hx hb dJ0_coder_7d493_10 (by decide) ?_
  exact x_zret E h rfl ⟨rfl, rfl⟩ dJ0_coder_7d493_14
set_option maxHeartbeats 4000000 in
set_option maxRecDepth 100000 in
theorem zJ0_isLatin1_aae02 (l : Launch) (g : CX) (σ : ST) {i : Nat} (hi : i < 6) : XM l g yJ0_isLatin1_aae02 wsJ0_isLatin1_aae02 { frames := 0, cells := 0, slots := 0, locals := 0 } [.ref (g.2.1 (210 + i))] σ (XQi g (fun r σ' => 1 = r ∧ σ = σ')) := by
  refine x_met (own := RJ0) (cc := cJ0_isLatin1_aae02) (maxL := 1) (ret := (some .boolean)) (lv := [(0, .ref (g.2.1 (210 + i)))]) (by decide) rfl rfl (Nat.le_of_ble_eq_true rfl) rfl ?_
  intro p e s m args below meth c ls E h hl
  have hx := E.1
  have hb := E.2.1
  have hown := E.2.2.2.1
  have hts := E.2.2.2.2.1
  refine z_cs E h (by decide +kernel) dJ0_isLatin1_aae02_0 ?_
  refine lv_if_eq (tgt := 17) hx hb dJ0_isLatin1_aae02_3 (by decide) (fun c => absurd c (by decide)) (fun _ => ?_)
  refine lv_aload_n hx hb dJ0_isLatin1_aae02_6 rfl (lv_at hl 0 rfl) ?_
  refine z_cod E h hi (by decide +kernel) dJ0_isLatin1_aae02_7 ?_
  refine lv_if_ne (tgt := 17) hx hb dJ0_isLatin1_aae02_10 (by decide) (fun c => absurd (by decide) c) (fun _ => ?_)
  refine lv_iconst (v := 1) hx hb dJ0_isLatin1_aae02_13 (by decide) ?_
  refine lv_goto (tgt := 18) hx hb dJ0_isLatin1_aae02_14 (by decide) ?_
  exact x_zret E h rfl ⟨rfl, rfl⟩ dJ0_isLatin1_aae02_18
theorem lenS_b : ∀ i, i < 6 → lenS.getD i 0 < 6 := by decide
set_option maxHeartbeats 4000000 in
set_option maxRecDepth 100000 in
theorem zJ0_length_8abf5 (l : Launch) (g : CX) (σ : ST) {i : Nat} (hi : i < 6) : XM l g yJ0_length_8abf5 wsJ0_length_8abf5 { frames := 1, cells := 0, slots := 0, locals := 20 } [.ref (g.2.1 (210 + i))] σ (XQi g (fun r σ' => nI (lenS.getD i 0) = r ∧ σ = σ')) := by
  refine x_met (own := RJ0) (cc := cJ0_length_8abf5) (maxL := 1) (ret := (some .int)) (lv := [(0, .ref (g.2.1 (210 + i)))]) (by decide) rfl rfl (Nat.le_of_ble_eq_true rfl) rfl ?_
  intro p e s m args below meth c ls E h hl
  have hx := E.1
  have hb := E.2.1
  have hown := E.2.2.2.1
  have hts := E.2.2.2.2.1
  have hL := lenS_b i hi
  refine lv_aload_n hx hb dJ0_length_8abf5_0 rfl (lv_at hl 0 rfl) ?_
  refine z_val E h hi (by decide +kernel) dJ0_length_8abf5_1 ?_
  refine z_len E h hi dJ0_length_8abf5_4 ?_
  refine lv_aload_n hx hb dJ0_length_8abf5_5 rfl (lv_at hl 0 rfl) ?_
  refine z_vi E h (na := 0) (As := []) hi (zJ0_coder_7d493 l g σ hi) gJ0_length_8abf5_J0_coder_7d493 rfl ⟨rfl, rfl⟩ rfl (by decide +kernel) ⟨Nat.le_of_ble_eq_true rfl, Nat.le_of_ble_eq_true rfl⟩ hl.1 rfl (Nat.le_of_ble_eq_true rfl) dJ0_length_8abf5_6 ⟨Nat.le_of_ble_eq_true rfl, Nat.le_of_ble_eq_true rfl⟩ (fun r s1 H locs q h => ?_)
  rcases q with ⟨rfl, rfl⟩
  refine lv_ishr hx hb dJ0_length_8abf5_9 ?_
  refine x_topI (v2 := nI (lenS.getD i 0)) (sc_shr0 (by omega)) ?_
  exact x_iret E h ⟨rfl, rfl⟩ dJ0_length_8abf5_10
set_option maxHeartbeats 4000000 in
set_option maxRecDepth 100000 in
theorem zJ3_checkIndex_8e157n (l : Launch) (g : CX) (σ : ST) {k L : Nat} (hk : k < L) (hL : L < 2 ^ 31) : XM l g yJ3_checkIndex_8e157 wsJ3_checkIndex_8e157 { frames := 0, cells := 0, slots := 0, locals := 0 } [.int (nI k), .int (nI L), .null] σ (XQi g (fun r σ' => σ = σ')) := by
  refine x_met (own := RJ3) (cc := cJ3_checkIndex_8e157) (maxL := 3) (ret := (some .int)) (lv := [(0, .int (nI k)), (1, .int (nI L)), (2, .null)]) (by decide) rfl rfl (Nat.le_of_ble_eq_true rfl) rfl ?_
  intro p e s m args below meth c ls E h hl
  have hx := E.1
  have hb := E.2.1
  have hown := E.2.2.2.1
  have hts := E.2.2.2.2.1
  refine lv_iload_n hx hb dJ3_checkIndex_8e157_0 rfl (lv_at hl 0 rfl) ?_
  refine lv_if_lt (tgt := 9) hx hb dJ3_checkIndex_8e157_1 (by decide) (fun c => absurd c (nI_pos (by omega))) (fun _ => ?_)
  refine lv_iload_n hx hb dJ3_checkIndex_8e157_4 rfl (lv_at hl 0 rfl) ?_
  refine lv_iload_n hx hb dJ3_checkIndex_8e157_5 rfl (lv_at hl 1 rfl) ?_
  refine lv_icmp_lt (tgt := 16) hx hb dJ3_checkIndex_8e157_6 (by decide) (fun _ => ?_) (fun c => absurd (nI_lt hk hL) c)
  refine lv_iload_n hx hb dJ3_checkIndex_8e157_16 rfl (lv_at hl 0 rfl) ?_
  exact x_iret E h rfl dJ3_checkIndex_8e157_17
set_option maxHeartbeats 4000000 in
set_option maxRecDepth 100000 in
theorem zJ3_checkIndex_8e157r (l : Launch) (g : CX) (σ : ST) {k L q : Nat} (hk : k < L) (hL : L < 2 ^ 31) : XM l g yJ3_checkIndex_8e157 wsJ3_checkIndex_8e157 { frames := 0, cells := 0, slots := 0, locals := 0 } [.int (nI k), .int (nI L), .ref q] σ (XQi g (fun r σ' => σ = σ')) := by
  refine x_met (own := RJ3) (cc := cJ3_checkIndex_8e157) (maxL := 3) (ret := (some .int)) (lv := [(0, .int (nI k)), (1, .int (nI L)), (2, .ref q)]) (by decide) rfl rfl (Nat.le_of_ble_eq_true rfl) rfl ?_
  intro p e s m args below meth c ls E h hl
  have hx := E.1
  have hb := E.2.1
  have hown := E.2.2.2.1
  have hts := E.2.2.2.2.1
  refine lv_iload_n hx hb dJ3_checkIndex_8e157_0 rfl (lv_at hl 0 rfl) ?_
  refine lv_if_lt (tgt := 9) hx hb dJ3_checkIndex_8e157_1 (by decide) (fun c => absurd c (nI_pos (by omega))) (fun _ => ?_)
  refine lv_iload_n hx hb dJ3_checkIndex_8e157_4 rfl (lv_at hl 0 rfl) ?_
  refine lv_iload_n hx hb dJ3_checkIndex_8e157_5 rfl (lv_at hl 1 rfl) ?_
  refine lv_icmp_lt (tgt := 16) hx hb dJ3_checkIndex_8e157_6 (by decide) (fun _ => ?_) (fun c => absurd (nI_lt hk hL) c)
  refine lv_iload_n hx hb dJ3_checkIndex_8e157_16 rfl (lv_at hl 0 rfl) ?_
  exact x_iret E h rfl dJ3_checkIndex_8e157_17
set_option maxHeartbeats 4000000 in
set_option maxRecDepth 100000 in
theorem zJ0_checkIndex_df160 (l : Launch) (g : CX) (σ : ST) {k L : Nat} (hk : k < L) (hL : L < 2 ^ 31) : XM l g yJ0_checkIndex_df160 wsJ0_checkIndex_df160 { frames := 1, cells := 0, slots := 0, locals := 22 } [.int (nI k), .int (nI L)] σ (XQv g (fun σ' => σ = σ')) := by
  refine x_met (own := RJ0) (cc := cJ0_checkIndex_df160) (maxL := 2) (ret := none) (lv := [(0, .int (nI k)), (1, .int (nI L))]) (by decide) rfl rfl (Nat.le_of_ble_eq_true rfl) rfl ?_
  intro p e s m args below meth c ls E h hl
  have hx := E.1
  have hb := E.2.1
  have hown := E.2.2.2.1
  have hts := E.2.2.2.2.1
  refine lv_iload_n hx hb dJ0_checkIndex_df160_0 rfl (lv_at hl 0 rfl) ?_
  refine lv_iload_n hx hb dJ0_checkIndex_df160_1 rfl (lv_at hl 1 rfl) ?_
  rcases E.str.2.2 with hz | ⟨t0, hz⟩
  · refine va_gets hx hb hz h.2 hown (hts _ (show Cond.fieldLink RJ0 1053 "jdk/internal/util/Preconditions" "SIOOBE_FORMATTER" "Ljava/util/function/BiFunction;" ∈ wsJ0_checkIndex_df160 by decide +kernel)) (fun _ q => q) dJ0_checkIndex_df160_2 ?_
    refine x_si E h (na := 3) (As := [.int (nI k), .int (nI L), .null]) (zJ3_checkIndex_8e157n l g σ hk hL) gJ0_checkIndex_df160_J3_checkIndex_8e157 rfl ⟨rfl, rfl⟩ rfl (by decide +kernel) ⟨Nat.le_of_ble_eq_true rfl, Nat.le_of_ble_eq_true rfl⟩ hl.1 rfl (Nat.le_of_ble_eq_true rfl) dJ0_checkIndex_df160_5 ⟨Nat.le_of_ble_eq_true rfl, Nat.le_of_ble_eq_true rfl⟩ (fun r s1 H locs q h => ?_)
    subst q
    refine lv_pop hx hb dJ0_checkIndex_df160_8 rfl ?_
    exact x_vret E h rfl dJ0_checkIndex_df160_9
  · refine va_gets hx hb hz h.2 hown (hts _ (show Cond.fieldLink RJ0 1053 "jdk/internal/util/Preconditions" "SIOOBE_FORMATTER" "Ljava/util/function/BiFunction;" ∈ wsJ0_checkIndex_df160 by decide +kernel)) (fun _ q => q) dJ0_checkIndex_df160_2 ?_
    refine x_si E h (na := 3) (As := [.int (nI k), .int (nI L), .ref t0]) (zJ3_checkIndex_8e157r l g σ hk hL) gJ0_checkIndex_df160_J3_checkIndex_8e157 rfl ⟨rfl, rfl⟩ rfl (by decide +kernel) ⟨Nat.le_of_ble_eq_true rfl, Nat.le_of_ble_eq_true rfl⟩ hl.1 rfl (Nat.le_of_ble_eq_true rfl) dJ0_checkIndex_df160_5 ⟨Nat.le_of_ble_eq_true rfl, Nat.le_of_ble_eq_true rfl⟩ (fun r s1 H locs q h => ?_)
    subst q
    refine lv_pop hx hb dJ0_checkIndex_df160_8 rfl ?_
    exact x_vret E h rfl dJ0_checkIndex_df160_9
set_option maxHeartbeats 4000000 in
set_option maxRecDepth 100000 in
theorem zJ1_charAt_3b067 (l : Launch) (g : CX) (σ : ST) {i k : Nat} (hi : i < 6) (hk : k < lenS.getD i 0) : XM l g yJ1_charAt_3b067 wsJ1_charAt_3b067 { frames := 2, cells := 0, slots := 0, locals := 43 } [.ref (g.2.1 (220 + i)), .int (nI k)] σ (XQi g (fun r σ' => (narrow .char (.int r) = .int r ∧ chS i k = r) ∧ σ = σ')) := by
  refine x_met (own := RJ1) (cc := cJ1_charAt_3b067) (maxL := 2) (ret := (some .char)) (lv := [(0, .ref (g.2.1 (220 + i))), (1, .int (nI k))]) (by decide) rfl rfl (Nat.le_of_ble_eq_true rfl) rfl ?_
  intro p e s m args below meth c ls E h hl
  have hx := E.1
  have hb := E.2.1
  have hown := E.2.2.2.1
  have hts := E.2.2.2.2.1
  have hL := lenS_b i hi
  refine lv_iload_n hx hb dJ1_charAt_3b067_0 rfl (lv_at hl 1 rfl) ?_
  refine lv_aload_n hx hb dJ1_charAt_3b067_1 rfl (lv_at hl 0 rfl) ?_
  refine z_len E h hi dJ1_charAt_3b067_2 ?_
  refine x_sv E h (na := 2) (As := [.int (nI k), .int (nI (lenS.getD i 0))]) (zJ0_checkIndex_df160 l g σ hk (by omega)) gJ1_charAt_3b067_J0_checkIndex_df160 rfl ⟨rfl, rfl⟩ rfl (by decide +kernel) ⟨Nat.le_of_ble_eq_true rfl, Nat.le_of_ble_eq_true rfl⟩ hl.1 rfl (Nat.le_of_ble_eq_true rfl) dJ1_charAt_3b067_3 ⟨Nat.le_of_ble_eq_true rfl, Nat.le_of_ble_eq_true rfl⟩ (fun s1 H locs q h => ?_)
  subst q
  refine lv_aload_n hx hb dJ1_charAt_3b067_6 rfl (lv_at hl 0 rfl) ?_
  refine lv_iload_n hx hb dJ1_charAt_3b067_7 rfl (lv_at hl 1 rfl) ?_
  refine z_bld E h hi hk (by omega) dJ1_charAt_3b067_8 ?_
  refine lv_sipush (v := 255) hx hb dJ1_charAt_3b067_9 (by decide) ?_
  refine lv_iand hx hb dJ1_charAt_3b067_12 ?_
  refine lv_i2c hx hb dJ1_charAt_3b067_13 rfl ?_
  exact x_zret E h (pk_nc _) ⟨⟨pk_nc _, chS_e hi hk⟩, rfl⟩ dJ1_charAt_3b067_14
set_option maxHeartbeats 4000000 in
set_option maxRecDepth 100000 in
theorem zJ0_charAt_5068e (l : Launch) (g : CX) (σ : ST) {i k : Nat} (hi : i < 6) (hk : k < lenS.getD i 0) : XM l g yJ0_charAt_5068e wsJ0_charAt_5068e { frames := 3, cells := 0, slots := 0, locals := 64 } [.ref (g.2.1 (210 + i)), .int (nI k)] σ (XQi g (fun r σ' => (narrow .char (.int r) = .int r ∧ chS i k = r) ∧ σ = σ')) := by
  refine x_met (own := RJ0) (cc := cJ0_charAt_5068e) (maxL := 2) (ret := (some .char)) (lv := [(0, .ref (g.2.1 (210 + i))), (1, .int (nI k))]) (by decide) rfl rfl (Nat.le_of_ble_eq_true rfl) rfl ?_
  intro p e s m args below meth c ls E h hl
  have hx := E.1
  have hb := E.2.1
  have hown := E.2.2.2.1
  have hts := E.2.2.2.2.1
  refine lv_aload_n hx hb dJ0_charAt_5068e_0 rfl (lv_at hl 0 rfl) ?_
  refine z_vi E h (na := 0) (As := []) hi (zJ0_isLatin1_aae02 l g σ hi) gJ0_charAt_5068e_J0_isLatin1_aae02 rfl ⟨rfl, rfl⟩ rfl (by decide +kernel) ⟨Nat.le_of_ble_eq_true rfl, Nat.le_of_ble_eq_true rfl⟩ hl.1 rfl (Nat.le_of_ble_eq_true rfl) dJ0_charAt_5068e_1 ⟨Nat.le_of_ble_eq_true rfl, Nat.le_of_ble_eq_true rfl⟩ (fun r s1 H locs q h => ?_)
  rcases q with ⟨rfl, rfl⟩
  refine lv_if_eq (tgt := 16) hx hb dJ0_charAt_5068e_4 (by decide) (fun c => absurd c (by decide)) (fun _ => ?_)
  refine lv_aload_n hx hb dJ0_charAt_5068e_7 rfl (lv_at hl 0 rfl) ?_
  refine z_val E h hi (by decide +kernel) dJ0_charAt_5068e_8 ?_
  refine lv_iload_n hx hb dJ0_charAt_5068e_11 rfl (lv_at hl 1 rfl) ?_
  refine x_si E h (na := 2) (As := [.ref (g.2.1 (220 + i)), .int (nI k)]) (zJ1_charAt_3b067 l g σ hi hk) gJ0_charAt_5068e_J1_charAt_3b067 rfl ⟨rfl, rfl⟩ rfl (by decide +kernel) ⟨Nat.le_of_ble_eq_true rfl, Nat.le_of_ble_eq_true rfl⟩ hl.1 rfl (Nat.le_of_ble_eq_true rfl) dJ0_charAt_5068e_12 ⟨Nat.le_of_ble_eq_true rfl, Nat.le_of_ble_eq_true rfl⟩ (fun r s1 H locs q h => ?_)
  obtain ⟨hn, rfl⟩ := q
  exact x_zret E h hn.1 ⟨hn, rfl⟩ dJ0_charAt_5068e_15
