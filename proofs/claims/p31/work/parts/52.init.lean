/-! constructors, by program (wip/gen/ctor.py) -/
set_option maxHeartbeats 4000000 in
set_option maxRecDepth 100000 in
theorem kf_atFirst (l : Launch) (D : va_G) (h0 q1 : Nat) (a1 : ClassId) (fs : List Value) (RR : va_W) (tys : List (ClassId × FieldType)) (hf : fs[1]? = some (.ref q1)) (h1 : RR[0]? = some (q1, .inl (a1, 12, .inl (fun _ => 0)))) {A0 : Nat → Prop} (hD : va_D A0 ((h0, .inr (12, fs)) :: RR)) (ht : tys[0]? = some (a1, .int)) : Met l yX12_atFirst wsX12_atFirst { frames := 0, cells := 0, slots := 0, locals := 0 } (FPre D h0 ((h0, .inr (12, fs)) :: RR) tys) (va_Qv (fun _ : Unit => True) (fun _ t => va_P D vwCl (((h0, .inr (12, fs)) :: RR).set 1 (q1, .inl (a1, 12, .inl ruleF))) t.heap) (fun z => z = q1)) 0 0 (fun z => z = q1) := by
  refine Met.ofW (cc := cX12_atFirst) (maxL := 2) (ret := none) (by decide) rfl ?_
  intro p e s m args below meth c s₁ B hml hv
  obtain ⟨rfl, hP, hK⟩ := hv
  have hx := B.exec
  have hb := B.bytes
  have hr := B.returns
  have hts := atoms_spec (ws := wsX12_atFirst) B.pre
  have hown : s.vm.findClass RX12 = some m.cls := findClass_of_methodNamed B.named
  have hlocks := B.notSynchronized
  have hwX12 : ∀ w ∈ wsX120, w ∈ wsX12_atFirst := by decide +kernel
  have hl := lv_entry ([.ref h0, .int 0]) (n := 2) (Nat.le_of_ble_eq_true rfl)
  rw [lg_entry_eq]
  generalize (lg_sl ([.ref h0, .int 0]) ++ List.replicate (2 - (lg_sl ([.ref h0, .int 0])).length) Slot.unset).toArray = ls at hl ⊢
  have hl : lv_has ls 2 [(0, .ref h0), (1, .int 0)] := hl
  have hj := va_f1 hD h1
  have hS : va_S (fun z => z = q1) s.heap s.heap [] := va_S.rf
  have hZ : (((h0, .inr (12, fs)) :: RR) : va_W)[1]? = some (q1, .inl (a1, 12, .inl (fun _ => 0))) := h1
  have hZ0 : (((h0, .inr (12, fs)) :: RR) : va_W)[0]? = some (h0, .inr (12, fs)) := rfl
  generalize hWS : (((h0, .inr (12, fs)) :: RR) : va_W) = WS at hP hD hZ hZ0 ⊢
  have hU : ∀ f : Nat → Int32, (WS.set 1 (q1, .inl (a1, 12, .inl f)))[0]? = some (h0, .inr (12, fs)) ∧ (WS.set 1 (q1, .inl (a1, 12, .inl f)))[1]? = some (q1, .inl (a1, 12, .inl f)) := fun f => ⟨by rw [List.getElem?_set_ne (by decide)]; exact hZ0, List.getElem?_set_self (List.getElem?_eq_some_iff.mp hZ).1⟩
  have h2 : ∀ (f g : Nat → Int32), (WS.set 1 (q1, .inl (a1, 12, .inl f))).set 1 (q1, .inl (a1, 12, .inl g)) = WS.set 1 (q1, .inl (a1, 12, .inl g)) := fun f g => List.set_set ..
  refine lv_aload_n hx hb dX12_atFirst_0 rfl (lv_at hl 0 rfl) ?_
  refine va_get (D := D) (ci := 12) (v := .ref q1) (C := RX12) (T := TX12) (N := 45) hx hb hts hwX12 hown hK hP 0 hZ0 rfl 1 (by decide) (hts (.fieldLink RX12 7 "VoiceHeapsModel" "rule" "[I") (by decide +kernel)) (fun _ h9 => h9) hf dX12_atFirst_1 ?_
  refine lv_iload_n hx hb dX12_atFirst_4 rfl (lv_at hl 1 rfl) ?_
  refine lv_iconst (v := 0) hx hb dX12_atFirst_5 (by decide) ?_
  refine lv_iadd hx hb dX12_atFirst_6 ?_
  refine x_topI (v2 := 0) (by decide) ?_
  refine lv_bipush (v := 20) hx hb dX12_atFirst_7 (by decide) ?_
  refine va_iastD (D := D) hx hb hK hP hD hS 1 0 hZ ht (i := 0) (by unfold vp_in; decide) (j := 0) (by decide) (f' := (upd (fun _ => 0) 0 20)) rfl dX12_atFirst_9 (fun H locs hP hS => ?_)
  refine lv_aload_n hx hb dX12_atFirst_10 rfl (lv_at hl 0 rfl) ?_
  refine va_get (D := D) (ci := 12) (v := .ref q1) (C := RX12) (T := TX12) (N := 45) hx hb hts hwX12 hown hK hP 0 (hU _).1 rfl 1 (by decide) (hts (.fieldLink RX12 7 "VoiceHeapsModel" "rule" "[I") (by decide +kernel)) (fun _ h9 => h9) hf dX12_atFirst_11 ?_
  refine lv_iload_n hx hb dX12_atFirst_14 rfl (lv_at hl 1 rfl) ?_
  refine lv_iconst (v := 1) hx hb dX12_atFirst_15 (by decide) ?_
  refine lv_iadd hx hb dX12_atFirst_16 ?_
  refine x_topI (v2 := 1) (by decide) ?_
  refine lv_bipush (v := 10) hx hb dX12_atFirst_17 (by decide) ?_
  refine va_iastD (D := D) hx hb hK hP (hD.set hZ) hS 1 0 (hU _).2 ht (i := 1) (by unfold vp_in; decide) (j := 1) (by decide) (f' := (upd (upd (fun _ => 0) 0 20) 1 10)) rfl dX12_atFirst_19 (fun H locs hP hS => ?_)
  rw [h2] at hP
  refine lv_aload_n hx hb dX12_atFirst_20 rfl (lv_at hl 0 rfl) ?_
  refine va_get (D := D) (ci := 12) (v := .ref q1) (C := RX12) (T := TX12) (N := 45) hx hb hts hwX12 hown hK hP 0 (hU _).1 rfl 1 (by decide) (hts (.fieldLink RX12 7 "VoiceHeapsModel" "rule" "[I") (by decide +kernel)) (fun _ h9 => h9) hf dX12_atFirst_21 ?_
  refine lv_iload_n hx hb dX12_atFirst_24 rfl (lv_at hl 1 rfl) ?_
  refine lv_iconst (v := 2) hx hb dX12_atFirst_25 (by decide) ?_
  refine lv_iadd hx hb dX12_atFirst_26 ?_
  refine x_topI (v2 := 2) (by decide) ?_
  refine lv_bipush (v := 40) hx hb dX12_atFirst_27 (by decide) ?_
  refine va_iastD (D := D) hx hb hK hP (hD.set hZ) hS 1 0 (hU _).2 ht (i := 2) (by unfold vp_in; decide) (j := 2) (by decide) (f' := (upd (upd (upd (fun _ => 0) 0 20) 1 10) 2 40)) rfl dX12_atFirst_29 (fun H locs hP hS => ?_)
  rw [h2] at hP
  refine lv_aload_n hx hb dX12_atFirst_30 rfl (lv_at hl 0 rfl) ?_
  refine va_get (D := D) (ci := 12) (v := .ref q1) (C := RX12) (T := TX12) (N := 45) hx hb hts hwX12 hown hK hP 0 (hU _).1 rfl 1 (by decide) (hts (.fieldLink RX12 7 "VoiceHeapsModel" "rule" "[I") (by decide +kernel)) (fun _ h9 => h9) hf dX12_atFirst_31 ?_
  refine lv_iload_n hx hb dX12_atFirst_34 rfl (lv_at hl 1 rfl) ?_
  refine lv_iconst (v := 3) hx hb dX12_atFirst_35 (by decide) ?_
  refine lv_iadd hx hb dX12_atFirst_36 ?_
  refine x_topI (v2 := 3) (by decide) ?_
  refine lv_iconst (v := 0) hx hb dX12_atFirst_37 (by decide) ?_
  refine va_iastD (D := D) hx hb hK hP (hD.set hZ) hS 1 0 (hU _).2 ht (i := 3) (by unfold vp_in; decide) (j := 3) (by decide) (f' := (upd (upd (upd (upd (fun _ => 0) 0 20) 1 10) 2 40) 3 0)) rfl dX12_atFirst_38 (fun H locs hP hS => ?_)
  rw [h2] at hP
  refine lv_aload_n hx hb dX12_atFirst_39 rfl (lv_at hl 0 rfl) ?_
  refine va_get (D := D) (ci := 12) (v := .ref q1) (C := RX12) (T := TX12) (N := 45) hx hb hts hwX12 hown hK hP 0 (hU _).1 rfl 1 (by decide) (hts (.fieldLink RX12 7 "VoiceHeapsModel" "rule" "[I") (by decide +kernel)) (fun _ h9 => h9) hf dX12_atFirst_40 ?_
  refine lv_iload_n hx hb dX12_atFirst_43 rfl (lv_at hl 1 rfl) ?_
  refine lv_iconst (v := 4) hx hb dX12_atFirst_44 (by decide) ?_
  refine lv_iadd hx hb dX12_atFirst_45 ?_
  refine x_topI (v2 := 4) (by decide) ?_
  refine lv_iconst (v := 0) hx hb dX12_atFirst_46 (by decide) ?_
  refine va_iastD (D := D) hx hb hK hP (hD.set hZ) hS 1 0 (hU _).2 ht (i := 4) (by unfold vp_in; decide) (j := 4) (by decide) (f' := (upd (upd (upd (upd (upd (fun _ => 0) 0 20) 1 10) 2 40) 3 0) 4 0)) rfl dX12_atFirst_47 (fun H locs hP hS => ?_)
  rw [h2] at hP
  refine lv_aload_n hx hb dX12_atFirst_48 rfl (lv_at hl 0 rfl) ?_
  refine va_get (D := D) (ci := 12) (v := .ref q1) (C := RX12) (T := TX12) (N := 45) hx hb hts hwX12 hown hK hP 0 (hU _).1 rfl 1 (by decide) (hts (.fieldLink RX12 7 "VoiceHeapsModel" "rule" "[I") (by decide +kernel)) (fun _ h9 => h9) hf dX12_atFirst_49 ?_
  refine lv_iload_n hx hb dX12_atFirst_52 rfl (lv_at hl 1 rfl) ?_
  refine lv_iconst (v := 5) hx hb dX12_atFirst_53 (by decide) ?_
  refine lv_iadd hx hb dX12_atFirst_54 ?_
  refine x_topI (v2 := 5) (by decide) ?_
  refine lv_bipush (v := 10) hx hb dX12_atFirst_55 (by decide) ?_
  refine va_iastD (D := D) hx hb hK hP (hD.set hZ) hS 1 0 (hU _).2 ht (i := 5) (by unfold vp_in; decide) (j := 5) (by decide) (f' := ruleF) rfl dX12_atFirst_57 (fun H locs hP hS => ?_)
  rw [h2] at hP
  exact W.vret hx hb hr (fun t ht9 hW => ⟨⟨(), rfl, trivial, by show va_P _ _ _ t.heap; rw [ht9]; exact hP⟩, hS.F ht9⟩) hS.2.2 dX12_atFirst_58
