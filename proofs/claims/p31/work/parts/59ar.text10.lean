/-! the bytes that type puts in are the same -/
theorem b_low (v : Int64) {i : Nat} (hi : i < 8) : (v >>> ((nI (8 * i)).toInt64 &&& 63)) &&& 255 = ((v.toUInt64 >>> ((nI (8 * i)).toInt64.toUInt64 &&& Int64.toUInt64 63)).toInt64) &&& 255 := by
  have hc : ((nI (8 * i)).toInt64 &&& 63).toBitVec.smod 64 = BitVec.ofNat 64 (8 * i) := (show ∀ i, i < 8 → ((nI (8 * i)).toInt64 &&& 63).toBitVec.smod 64 = BitVec.ofNat 64 (8 * i) by decide +kernel) i hi
  have hu : ((nI (8 * i)).toInt64.toUInt64 &&& Int64.toUInt64 63).toBitVec % 64 = BitVec.ofNat 64 (8 * i) := (show ∀ i, i < 8 → ((nI (8 * i)).toInt64.toUInt64 &&& Int64.toUInt64 63).toBitVec % 64 = BitVec.ofNat 64 (8 * i) by decide +kernel) i hi
  refine Int64.toBitVec_inj.mp (BitVec.eq_of_getLsbD_eq fun j hj => ?_)
  have e1 : (v >>> ((nI (8 * i)).toInt64 &&& 63)).toBitVec = v.toBitVec.sshiftRight (8 * i) := by
    show v.toBitVec.sshiftRight' (((nI (8 * i)).toInt64 &&& 63).toBitVec.smod 64) = _
    rw [hc, BitVec.sshiftRight_eq']
    congr 1
    exact (BitVec.toNat_ofNat (8 * i) 64).trans (Nat.mod_eq_of_lt (by omega))
  have e2 : ((v.toUInt64 >>> ((nI (8 * i)).toInt64.toUInt64 &&& Int64.toUInt64 63)).toInt64).toBitVec = v.toBitVec >>> (8 * i) := by
    show v.toBitVec >>> (((nI (8 * i)).toInt64.toUInt64 &&& Int64.toUInt64 63).toBitVec % 64) = _
    rw [hu]
    show v.toBitVec >>> (BitVec.ofNat 64 (8 * i)).toNat = _
    congr 1
    exact (BitVec.toNat_ofNat (8 * i) 64).trans (Nat.mod_eq_of_lt (by omega))
  show ((v >>> ((nI (8 * i)).toInt64 &&& 63)).toBitVec &&& (255 : Int64).toBitVec).getLsbD j = (((v.toUInt64 >>> ((nI (8 * i)).toInt64.toUInt64 &&& Int64.toUInt64 63)).toInt64).toBitVec &&& (255 : Int64).toBitVec).getLsbD j
  rw [e1, e2, BitVec.getLsbD_and, BitVec.getLsbD_and]
  by_cases c : j < 8
  · congr 1
    rw [BitVec.getLsbD_sshiftRight, BitVec.getLsbD_ushiftRight]
    have h1 : 8 * i + j < 64 := by omega
    simp [h1]
    omega
  · have h0 : (255 : Int64).toBitVec.getLsbD j = false := (show ∀ j, j < 64 → ¬ j < 8 → (255 : Int64).toBitVec.getLsbD j = false by decide +kernel) j hj c
    rw [h0, Bool.and_false, Bool.and_false]
theorem and255 (x : Int64) : ∃ b, b < 256 ∧ x &&& 255 = lN b ∧ x.toInt32 &&& 255 = nI b := by
  refine ⟨(x.toBitVec &&& 255#64).toNat, ?_, ?_, ?_⟩
  · rw [BitVec.toNat_and]
    exact Nat.lt_of_le_of_lt Nat.and_le_right (by decide)
  · refine Int64.toBitVec_inj.mp (BitVec.eq_of_toNat_eq ?_)
    show (x.toBitVec &&& 255#64).toNat = (BitVec.ofNat 64 (x.toBitVec &&& 255#64).toNat).toNat
    rw [BitVec.ofNat_toNat, BitVec.setWidth_eq]
  · refine Int32.toBitVec_inj.mp ?_
    have hs : x.toBitVec.signExtend 32 = x.toBitVec.setWidth 32 := by
      first
        | exact BitVec.signExtend_eq_setWidth_of_le _ (by decide)
        | exact BitVec.signExtend_eq_setWidth_of_lt _ (by decide)
        | simp [BitVec.signExtend_eq_setWidth_of_le]
    show (x.toBitVec.signExtend 32 &&& 255#32) = BitVec.ofNat 32 (x.toBitVec &&& 255#64).toNat
    rw [hs, BitVec.ofNat_toNat, BitVec.setWidth_and]
    rfl
theorem l_i32 {b : Nat} (h : b < 256) : (lN b).toInt32 = nI b := (show ∀ b, b < 256 → (lN b).toInt32 = nI b by decide +kernel) b h
theorem nar_b {b : Nat} (h : b < 256) : vp_nar .byte ((nI b).toInt8.toInt32) = sg b := (show ∀ b, b < 256 → vp_nar .byte ((nI b).toInt8.toInt32) = sg b by decide +kernel) b h
theorem byte_eq (v : Int64) {i : Nat} (hi : i < 8) : ∃ b, b < 256 ∧ ((v.toUInt64 >>> ((nI (8 * i)).toInt64.toUInt64 &&& Int64.toUInt64 63)).toInt64).toInt32 &&& 255 = nI b ∧ vp_nar .byte (((v >>> ((nI (8 * i)).toInt64 &&& 63)) &&& 255).toInt32.toInt8.toInt32) = sg b := by
  obtain ⟨b, h1, h2, h3⟩ := and255 ((v.toUInt64 >>> ((nI (8 * i)).toInt64.toUInt64 &&& Int64.toUInt64 63)).toInt64)
  refine ⟨b, h1, h3, ?_⟩
  rw [b_low v hi, h2, l_i32 h1, nar_b h1]
/-- the byte that type puts in -/
noncomputable def bt (v : Int64) (i : Nat) : Nat := @dite Nat (i < 8) (Nat.decLt i 8) (fun h => Classical.choose (byte_eq v h)) (fun _ => 0)
theorem bt_spec (v : Int64) {i : Nat} (hi : i < 8) : bt v i < 256 ∧ ((v.toUInt64 >>> ((nI (8 * i)).toInt64.toUInt64 &&& Int64.toUInt64 63)).toInt64).toInt32 &&& 255 = nI (bt v i) ∧ vp_nar .byte (((v >>> ((nI (8 * i)).toInt64 &&& 63)) &&& 255).toInt32.toInt8.toInt32) = sg (bt v i) := by
  unfold bt
  rw [dif_pos hi]
  exact Classical.choose_spec (byte_eq v hi)
/-- t with the lowest n bytes of v behind T -/
noncomputable def tyT (t : Nat → Nat) (v : Int64) (T n : Nat) : Nat → Nat := fun j => if j < T then t j else bt v (n - 1 - (j - T))
theorem app_X {v : Int64} : ∀ (fu : Nat) (τ : ST) (T i : Nat), τ.1 0 = nI T → T + i ≤ 200 → i ≤ 8 → i < fu → ∃ τ', fX8_append_0l23 fu v (nI i - 1) τ = (1, τ') ∧ τ'.1 0 = nI (T + i) ∧ (∀ j, j < T → τ'.2.2 0 j = τ.2.2 0 j) ∧ (∀ j, T ≤ j → j < T + i → τ'.2.2 0 j = nI (bt v (i - 1 - (j - T))))
  | 0, _, _, _, _, _, _, hf => absurd hf (Nat.not_lt_zero _)
  | fu + 1, τ, T, 0, h, h1, h2, hf => by
    have x : fX8_append_0l23 (fu + 1) v (nI 0 - 1) τ = (1, τ) := by
      show fX8_append_0b23 (fX8_append_0l23 fu) v (nI 0 - 1) τ = _
      unfold fX8_append_0b23 fX8_append_0b65
      rw [if_pos (show nI 0 - 1 < 0 by decide)]
    exact ⟨τ, x, h, fun j _ => rfl, fun j a b => by omega⟩
  | fu + 1, τ, T, i + 1, h, h1, h2, hf => by
    have hb := bt_spec v (i := i) (by omega)
    have x : fX8_append_0l23 (fu + 1) v (nI (i + 1) - 1) τ = fX8_append_0l23 fu v (nI i - 1) (sI (sA τ 0 (upd (τ.2.2 0) T (nI (bt v i)))) 0 (nI (T + 1))) := by
      show fX8_append_0b23 (fX8_append_0l23 fu) v (nI (i + 1) - 1) τ = _
      unfold fX8_append_0b23 fX8_append_0b28
      rw [nI_pred, if_neg (nI_pos (by omega))]
      simp only [bd_e, h, show (nI T).toNatClampNeg = T from nI_clamp (by omega), show 8 * nI i = nI (8 * i) from pk_mul 8 i, hb.2.1, sA_1, n_add1, y_m1]
    obtain ⟨τ', y0, y1, y2, y3⟩ := app_X fu (sI (sA τ 0 (upd (τ.2.2 0) T (nI (bt v i)))) 0 (nI (T + 1))) (T + 1) i rfl (by omega) (by omega) (by omega)
    have e0 : (sI (sA τ 0 (upd (τ.2.2 0) T (nI (bt v i)))) 0 (nI (T + 1))).2.2 0 = upd (τ.2.2 0) T (nI (bt v i)) := rfl
    rw [e0] at y2
    rw [x]
    refine ⟨τ', y0, by rw [y1, show T + 1 + i = T + (i + 1) by omega], fun j hj => ?_, fun j a b => ?_⟩
    · rw [y2 j (by omega), pk_un (by omega)]
    · rcases Nat.eq_or_lt_of_le a with c | c
      · subst c
        rw [y2 T (by omega), pk_us, show i + 1 - 1 - (T - T) = i by omega]
      · rw [y3 j c (by omega), show i - 1 - (j - (T + 1)) = i + 1 - 1 - (j - T) by omega]
theorem app_M {v : Int64} : ∀ (fu : Nat) (τ : ST) (T i : Nat), τ.1 25 = nI T → T + i ≤ 200 → i ≤ 8 → i < fu → ∃ τ', fX12_type_0l32 fu v (nI i - 1) τ = (nI (T + i), τ') ∧ τ'.1 25 = nI (T + i) ∧ (∀ j, j < T → τ'.2.2 67 j = τ.2.2 67 j) ∧ (∀ j, T ≤ j → j < T + i → τ'.2.2 67 j = sg (bt v (i - 1 - (j - T))))
  | 0, _, _, _, _, _, _, hf => absurd hf (Nat.not_lt_zero _)
  | fu + 1, τ, T, 0, h, h1, h2, hf => by
    have x : fX12_type_0l32 (fu + 1) v (nI 0 - 1) τ = (nI T, τ) := by
      show fX12_type_0b32 (fX12_type_0l32 fu) v (nI 0 - 1) τ = _
      unfold fX12_type_0b32 fX12_type_0b75
      rw [if_pos (show nI 0 - 1 < 0 by decide), bd_e, h]
    exact ⟨τ, x, h, fun j _ => rfl, fun j a b => by omega⟩
  | fu + 1, τ, T, i + 1, h, h1, h2, hf => by
    have hb := bt_spec v (i := i) (by omega)
    have x : fX12_type_0l32 (fu + 1) v (nI (i + 1) - 1) τ = fX12_type_0l32 fu v (nI i - 1) (sI (sA τ 67 (upd (τ.2.2 67) T (sg (bt v i)))) 25 (nI (T + 1))) := by
      show fX12_type_0b32 (fX12_type_0l32 fu) v (nI (i + 1) - 1) τ = _
      unfold fX12_type_0b32 fX12_type_0b37
      rw [nI_pred, if_neg (nI_pos (by omega))]
      simp only [bd_e, h, show (nI T).toNatClampNeg = T from nI_clamp (by omega), show 8 * nI i = nI (8 * i) from pk_mul 8 i, hb.2.2, sA_1, n_add1, y_m1]
    obtain ⟨τ', y0, y1, y2, y3⟩ := app_M fu (sI (sA τ 67 (upd (τ.2.2 67) T (sg (bt v i)))) 25 (nI (T + 1))) (T + 1) i rfl (by omega) (by omega) (by omega)
    have e0 : (sI (sA τ 67 (upd (τ.2.2 67) T (sg (bt v i)))) 25 (nI (T + 1))).2.2 67 = upd (τ.2.2 67) T (sg (bt v i)) := rfl
    rw [e0] at y2
    rw [x]
    refine ⟨τ', by rw [y0, show T + 1 + i = T + (i + 1) by omega], by rw [y1, show T + 1 + i = T + (i + 1) by omega], fun j hj => ?_, fun j a b => ?_⟩
    · rw [y2 j (by omega), pk_un (by omega)]
    · rcases Nat.eq_or_lt_of_le a with c | c
      · subst c
        rw [y2 T (by omega), pk_us, show i + 1 - 1 - (T - T) = i by omega]
      · rw [y3 j c (by omega), show i - 1 - (j - (T + 1)) = i + 1 - 1 - (j - T) by omega]
