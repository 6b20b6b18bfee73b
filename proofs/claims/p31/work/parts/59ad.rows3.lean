theorem le_nI {a b : Nat} (h : b < a) (ha : a ≤ 48) : ¬ nI a ≤ nI b := fun q => absurd (y_le (by omega) (by omega) q) (by omega)
theorem setOut_l {R t : Nat} (hR : R ≤ 48) (ht : t < R) {v : Int32} (hv : vp_nar .boolean v = v) : ∀ (fu : Nat) (τ : ST) (r c : Nat), τ.1 2 = nI R → r ≤ t + 1 → t + 1 - r < fu → ∃ τ', fX7_setOut_0l10 fu (nI t) v (nI c) (nI r) τ = (nI (c + cntN (τ.2.2 5) v r (t + 1 - r)), τ') ∧ τ'.2.2 5 = putN (τ.2.2 5) v r (t + 1 - r)
  | 0, _, _, _, _, _, hf => absurd hf (Nat.not_lt_zero _)
  | fu + 1, τ, r, c, h, hr, hf => by
    show ∃ τ', fX7_setOut_0b10 (fX7_setOut_0l10 fu) (nI t) v (nI c) (nI r) τ = _ ∧ _
    have e0 : (nI r).toNatClampNeg = r := nI_clamp (by omega)
    simp only [fX7_setOut_0, fX7_setOut_0b0, fX7_setOut_0b10, fX7_setOut_0b16, fX7_setOut_0b25, fX7_setOut_0b36, fX7_setOut_0b47, fX7_setOut_0b53, bd, h, e0, hv, n_add1]
    by_cases c1 : nI t < nI r
    · have h1 := y_lt (by omega) (by omega) c1
      obtain rfl : r = t + 1 := by omega
      rw [if_pos c1, show t + 1 - (t + 1) = 0 by omega]
      exact ⟨τ, rfl, (putN_0 _ _ _).symm⟩
    · have h1 := y_nlt (by omega) (by omega) c1
      rw [if_neg c1, if_neg (le_nI (by omega) hR)]
      obtain ⟨n, hn⟩ : ∃ n, t + 1 - r = n + 1 := ⟨t - r, by omega⟩
      have hn2 : t + 1 - (r + 1) = n := by omega
      rw [hn]
      by_cases c2 : τ.2.2 5 r = v
      · rw [if_pos c2]
        obtain ⟨τ', e1, e2⟩ := setOut_l hR ht hv fu τ (r + 1) c h (by omega) (by omega)
        rw [hn2] at e1 e2
        refine ⟨τ', ?_, by rw [e2, putN_same c2]⟩
        rw [e1]
        show _ = (nI (c + ((if τ.2.2 5 r = v then 0 else 1) + _)), τ')
        rw [if_pos c2, Nat.zero_add]
      · rw [if_neg c2]
        obtain ⟨τ', e1, e2⟩ := setOut_l hR ht hv fu (sA τ 5 (upd (τ.2.2 5) r v)) (r + 1) (c + 1) h (by omega) (by omega)
        rw [hn2, sA_eq] at e1 e2
        refine ⟨τ', ?_, by rw [e2, putN_step]⟩
        rw [e1, cntN_upd _ _ _ (by omega)]
        show _ = (nI (c + ((if τ.2.2 5 r = v then 0 else 1) + _)), τ')
        rw [if_neg c2, Nat.add_assoc]
theorem setTruth_l {R t : Nat} (hR : R ≤ 48) (ht : t < R) {v : Int32} : ∀ (fu : Nat) (τ : ST) (r c : Nat), τ.1 2 = nI R → r ≤ t + 1 → t + 1 - r < fu → ∃ τ', fX7_setTruth_0l10 fu (nI t) v (nI c) (nI r) τ = (nI (c + cntN (τ.2.2 6) v r (t + 1 - r)), τ') ∧ τ'.2.2 6 = putN (τ.2.2 6) v r (t + 1 - r)
  | 0, _, _, _, _, _, hf => absurd hf (Nat.not_lt_zero _)
  | fu + 1, τ, r, c, h, hr, hf => by
    show ∃ τ', fX7_setTruth_0b10 (fX7_setTruth_0l10 fu) (nI t) v (nI c) (nI r) τ = _ ∧ _
    have e0 : (nI r).toNatClampNeg = r := nI_clamp (by omega)
    simp only [fX7_setTruth_0, fX7_setTruth_0b0, fX7_setTruth_0b10, fX7_setTruth_0b16, fX7_setTruth_0b25, fX7_setTruth_0b36, fX7_setTruth_0b47, fX7_setTruth_0b53, bd, h, e0, n_add1]
    by_cases c1 : nI t < nI r
    · have h1 := y_lt (by omega) (by omega) c1
      obtain rfl : r = t + 1 := by omega
      rw [if_pos c1, show t + 1 - (t + 1) = 0 by omega]
      exact ⟨τ, rfl, (putN_0 _ _ _).symm⟩
    · have h1 := y_nlt (by omega) (by omega) c1
      rw [if_neg c1, if_neg (le_nI (by omega) hR)]
      obtain ⟨n, hn⟩ : ∃ n, t + 1 - r = n + 1 := ⟨t - r, by omega⟩
      have hn2 : t + 1 - (r + 1) = n := by omega
      rw [hn]
      by_cases c2 : τ.2.2 6 r = v
      · rw [if_pos c2]
        obtain ⟨τ', e1, e2⟩ := setTruth_l hR ht fu τ (r + 1) c h (by omega) (by omega)
        rw [hn2] at e1 e2
        refine ⟨τ', ?_, by rw [e2, putN_same c2]⟩
        rw [e1]
        show _ = (nI (c + ((if τ.2.2 6 r = v then 0 else 1) + _)), τ')
        rw [if_pos c2, Nat.zero_add]
      · rw [if_neg c2]
        obtain ⟨τ', e1, e2⟩ := setTruth_l hR ht fu (sA τ 6 (upd (τ.2.2 6) r v)) (r + 1) (c + 1) h (by omega) (by omega)
        rw [hn2, sA_eq] at e1 e2
        refine ⟨τ', ?_, by rw [e2, putN_step]⟩
        rw [e1, cntN_upd _ _ _ (by omega)]
        show _ = (nI (c + ((if τ.2.2 6 r = v then 0 else 1) + _)), τ')
        rw [if_neg c2, Nat.add_assoc]
theorem outM_l {t : Nat} (ht : t < 48) {o v : Int32} (hv : v = if o = 1 then 1 else 0) : ∀ (fu : Nat) (τ : ST) (r c : Nat), r ≤ t + 1 → t + 1 - r < fu → ∃ τ', fX12_out_0l26 fu (nI t) o (nI c) (nI r) τ = (nI (c + cntN (τ.2.2 70) v r (t + 1 - r)), τ') ∧ τ'.2.2 70 = putN (τ.2.2 70) v r (t + 1 - r)
  | 0, _, _, _, _, hf => absurd hf (Nat.not_lt_zero _)
  | fu + 1, τ, r, c, hr, hf => by
    show ∃ τ', fX12_out_0b26 (fX12_out_0l26 fu) (nI t) o (nI c) (nI r) τ = _ ∧ _
    have e0 : (nI r).toNatClampNeg = r := nI_clamp (by omega)
    have key : fX12_out_0b32 (fX12_out_0l26 fu) (nI t) o (nI c) (nI r) τ = fX12_out_0l26 fu (nI t) o (nI (c + if τ.2.2 70 r = v then 0 else 1)) (nI (r + 1)) (sA τ 70 (upd (τ.2.2 70) r v)) := by
      simp only [fX12_out_0, fX12_out_0b0, fX12_out_0b9, fX12_out_0b20, fX12_out_0b26, fX12_out_0b32, fX12_out_0b46, fX12_out_0b50, fX12_out_0b51, fX12_out_0b54, fX12_out_0b58, fX12_out_0b59, fX12_out_0b73, fX12_out_0b77, fX12_out_0b78, fX12_out_0b85, fX12_out_0b18, bd, e0, n_add1, nar1, nar0]
      subst hv
      by_cases c1 : o = 1
      · simp only [if_pos c1]
        by_cases c2 : τ.2.2 70 r = 1
        · simp only [if_pos c2]
          rw [show nI c + 0 = nI (c + 0) from nI_add c 0]
        · simp only [if_neg c2]
      · simp only [if_neg c1]
        by_cases c2 : τ.2.2 70 r = 0
        · simp only [if_pos c2]
          rw [show nI c + 0 = nI (c + 0) from nI_add c 0]
        · simp only [if_neg c2]
    unfold fX12_out_0b26
    by_cases c1 : nI t < nI r
    · have h1 := y_lt (by omega) (by omega) c1
      obtain rfl : r = t + 1 := by omega
      rw [if_pos c1, show t + 1 - (t + 1) = 0 by omega]
      exact ⟨τ, rfl, (putN_0 _ _ _).symm⟩
    · have h1 := y_nlt (by omega) (by omega) c1
      rw [if_neg c1, key]
      obtain ⟨n, hn⟩ : ∃ n, t + 1 - r = n + 1 := ⟨t - r, by omega⟩
      have hn2 : t + 1 - (r + 1) = n := by omega
      rw [hn]
      obtain ⟨τ', e1, e2⟩ := outM_l ht hv fu (sA τ 70 (upd (τ.2.2 70) r v)) (r + 1) (c + if τ.2.2 70 r = v then 0 else 1) (by omega) (by omega)
      rw [hn2, sA_eq] at e1 e2
      refine ⟨τ', ?_, by rw [e2, putN_step]⟩
      rw [e1, cntN_upd _ _ _ (by omega), Nat.add_assoc]
      rfl
theorem truthM_l {t : Nat} (ht : t < 48) {v : Int32} : ∀ (fu : Nat) (τ : ST) (r c : Nat), r ≤ t + 1 → t + 1 - r < fu → ∃ τ', fX12_truth_0l26 fu (nI t) v (nI c) (nI r) τ = (nI (c + cntN (τ.2.2 71) v r (t + 1 - r)), τ') ∧ τ'.2.2 71 = putN (τ.2.2 71) v r (t + 1 - r)
  | 0, _, _, _, _, hf => absurd hf (Nat.not_lt_zero _)
  | fu + 1, τ, r, c, hr, hf => by
    show ∃ τ', fX12_truth_0b26 (fX12_truth_0l26 fu) (nI t) v (nI c) (nI r) τ = _ ∧ _
    have e0 : (nI r).toNatClampNeg = r := nI_clamp (by omega)
    have key : fX12_truth_0b32 (fX12_truth_0l26 fu) (nI t) v (nI c) (nI r) τ = fX12_truth_0l26 fu (nI t) v (nI (c + if τ.2.2 71 r = v then 0 else 1)) (nI (r + 1)) (sA τ 71 (upd (τ.2.2 71) r v)) := by
      simp only [fX12_truth_0, fX12_truth_0b0, fX12_truth_0b9, fX12_truth_0b20, fX12_truth_0b26, fX12_truth_0b32, fX12_truth_0b45, fX12_truth_0b49, fX12_truth_0b50, fX12_truth_0b67, fX12_truth_0b18, bd, e0, n_add1]
      by_cases c2 : τ.2.2 71 r = v
      · simp only [if_pos c2]
        rw [show nI c + 0 = nI (c + 0) from nI_add c 0]
      · simp only [if_neg c2]
    unfold fX12_truth_0b26
    by_cases c1 : nI t < nI r
    · have h1 := y_lt (by omega) (by omega) c1
      obtain rfl : r = t + 1 := by omega
      rw [if_pos c1, show t + 1 - (t + 1) = 0 by omega]
      exact ⟨τ, rfl, (putN_0 _ _ _).symm⟩
    · have h1 := y_nlt (by omega) (by omega) c1
      rw [if_neg c1, key]
      obtain ⟨n, hn⟩ : ∃ n, t + 1 - r = n + 1 := ⟨t - r, by omega⟩
      have hn2 : t + 1 - (r + 1) = n := by omega
      rw [hn]
      obtain ⟨τ', e1, e2⟩ := truthM_l ht fu (sA τ 71 (upd (τ.2.2 71) r v)) (r + 1) (c + if τ.2.2 71 r = v then 0 else 1) (by omega) (by omega)
      rw [hn2, sA_eq] at e1 e2
      refine ⟨τ', ?_, by rw [e2, putN_step]⟩
      rw [e1, cntN_upd _ _ _ (by omega), Nat.add_assoc]
      rfl
