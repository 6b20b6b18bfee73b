/-! middle; voices kept -/
theorem a03n {a : Int32} (h : ¬ a < 0 ∧ ¬ 3 < a) : ∃ k : Nat, a = nI k ∧ k < 4 := by
  obtain ⟨n, hn, e⟩ := nI_of h.1
  have h2 := h.2
  subst e
  have h3 : n ≤ 3 := y_nlt (a := 3) (b := n) (by omega) hn h2
  exact ⟨n, rfl, by omega⟩
theorem middleOf_H {x k p : Nat} {s : ST} (h10 : s.1 10 = nI p) (hp : p ≤ 9) (hx : x < p) (hk : k < 4) : fX4_middleOf_0 (nI x) (nI k) s = s.2.2 43 (x * 4 + k) := by
  simp only [fX4_middleOf_0, fX4_middleOf_0b0, fX4_middleOf_0b4, fX4_middleOf_0b12, fX4_middleOf_0b16, fX4_middleOf_0b21, fX4_middleOf_0b34, fX4_middleOf_0b35, bd_e, h10, n_mul4, nI_add]
  rw [if_neg (nI_pos (by omega)), if_neg (fun q => absurd ((leN (by omega) (by omega)).mp q) (by omega)), if_neg (nI_pos (by omega)), if_neg (show ¬ 4 ≤ nI k from fun q => absurd ((leN (a := 4) (by omega) (by omega)).mp q) (by omega)), nI_clamp (by omega)]
theorem HPX.h10 {V : Nat → Nat} {H : Nat → Bool} {c N r2 r4 : Nat} {σ : ST} (h : HPX V H c N r2 r4 σ) : σ.1 10 = nI (HPc V H c N r2 r4) ∧ HPc V H c N r2 r4 ≤ 9 := ⟨(h.2.2.1.1 (BEST_t _ _)).2.1, Nat.le_trans (RG.le _ (BEST_RG _ _)) h.1⟩
theorem HPX.h41 {V : Nat → Nat} {H : Nat → Bool} {c N r2 r4 : Nat} {σ : ST} (h : HPX V H c N r2 r4 σ) {j : Nat} (hj : j < (CUT V H c N).1.1) : σ.2.2 41 j = nI ((BSc V H c N r2 r4).2.2 j) ∧ (BSc V H c N r2 r4).2.2 j < HPc V H c N r2 r4 := ⟨(h.2.2.1.1 (BEST_t _ _)).2.2 j hj, hpi_lt _ j hj⟩
theorem middle_X (h i : Int32) (σ : ST) : fX11_middle_0 h i σ = if HNo h ∧ ¬ i < 0 ∧ ¬ 3 < i then (if 0 ≤ (fX11_refusedHeap_0 h σ).1 then fX4_middleOf_0 h i (fX11_refusedHeap_0 h σ).2 else (fX11_refusedHeap_0 h σ).1, (fX11_refusedHeap_0 h σ).2) else (-1, σ) := by
  unfold fX11_middle_0 fX11_middle_0b0 fX11_middle_0b7 fX11_middle_0b16 fX11_middle_0b18 fX11_middle_0b28 fX11_middle_0b32 fX11_middle_0b44
  simp only [bd_e, bp_e, isHeapNumber_X, within_X, ite01]
  by_cases c : HNo h
  · rw [if_neg (fun w => w c)]
    by_cases d : ¬ i < 0 ∧ ¬ 3 < i
    · rw [if_neg (fun w => w d), if_pos (show HNo h ∧ ¬ i < 0 ∧ ¬ 3 < i from ⟨c, d⟩)]
      by_cases e : 0 ≤ (fX11_refusedHeap_0 h σ).1
      · rw [if_pos e, if_pos e]
      · rw [if_neg e, if_neg e]
    · rw [if_pos d, if_neg (fun w => d w.2)]
  · rw [if_pos c, if_neg (fun w => c w.1)]
theorem middle_M (h i : Int32) (σ : ST) : fX12_middle_0 h i σ = if ¬ i < 0 ∧ ¬ 3 < i then (if (fX12_wrong_0 h σ).1 = 0 then (fX12_wrong_0 h σ).2.2.2 89 (4 * h + i).toNatClampNeg else (fX12_wrong_0 h σ).1, (fX12_wrong_0 h σ).2) else (-1, σ) := by
  unfold fX12_middle_0 fX12_middle_0b0 fX12_middle_0b9 fX12_middle_0b17 fX12_middle_0b18 fX12_middle_0b23 fX12_middle_0b36 fX12_middle_0b37
  simp only [bd_e, bp_e, in_M, ite01]
  by_cases d : ¬ i < 0 ∧ ¬ 3 < i
  · rw [if_neg (fun w => w d), if_pos d]
    by_cases e : (fX12_wrong_0 h σ).1 = 0
    · rw [if_pos e, if_pos e]
    · rw [if_neg e, if_neg e]
  · rw [if_pos d, if_neg d, if_neg (show ¬ (-1 : Int32) = 0 by decide)]
theorem wrong_bad {h : Int32} (q : ¬ HNo h) (σ : ST) : fX12_wrong_0 h σ = (-1, σ) := by
  rw [wrong_M, if_neg q]
theorem middle_eq {V : Nat → Nat} {H : Nat → Bool} {c c1 N r2 r3 r4 r5 : Nat} {σ : ST} (hK : KH σ) (hB : FB V H c c1 N r2 r3 r4 r5 σ) (h i : Int32) : (fX11_middle_0 h i σ).1 = (fX12_middle_0 h i (fX11_middle_0 h i σ).2).1 := by
  rw [middle_X, middle_M]
  by_cases hi : ¬ i < 0 ∧ ¬ 3 < i
  · rw [if_pos hi]
    by_cases hh : HNo h
    · rw [if_pos ⟨hh, hi⟩]
      obtain ⟨v, a1, a2, a3, a4, a5, a6⟩ := refused_both hK hB h
      rw [a2]
      obtain ⟨τ', b1, b2, _, _⟩ := wrong_both a5 a4 a5.1.2.2.2.2.1 hh a1
      show _ = (if (fX12_wrong_0 h (fX11_heapNow_0 σ).2).1 = 0 then (fX12_wrong_0 h (fX11_heapNow_0 σ).2).2.2.2 89 (4 * h + i).toNatClampNeg else (fX12_wrong_0 h (fX11_heapNow_0 σ).2).1)
      rw [b1]
      rcases a1.cases with rfl | ⟨_, w2, w3⟩
      · rw [if_pos (show (0 : Int32) ≤ ((0 : Int32), (fX11_heapNow_0 σ).2).1 from (show (0 : Int32) ≤ 0 by decide)), if_pos rfl]
        obtain ⟨x, rfl, x1, x2, x3⟩ := a1.lt hh
        obtain ⟨k, rfl, hk⟩ := a03n hi
        have q := a3 x2
        show fX4_middleOf_0 (nI x) (nI k) (fX11_heapNow_0 σ).2 = τ'.2.2 89 (4 * nI x + nI k).toNatClampNeg
        rw [middleOf_H q.h10.1 q.h10.2 x1 hk, n_4mul, nI_add, nI_clamp (by omega), (b2 x2).1 x x1 k hk]
        exact q.2.2.2.1 x x1 k hk
      · rw [if_neg w2, if_neg w3]
    · rw [if_neg (fun w => hh w.1), wrong_bad hh, if_neg (show ¬ (-1 : Int32) = 0 by decide)]
  · rw [if_neg hi, if_neg (fun w => hi w.2)]
/-- both sides' voices -/
def JK (σ : ST) : Prop := ∃ K, K ≤ 6 ∧ σ.1 19 = nI K ∧ σ.1 40 = nI K ∧ ∀ v, v < K → σ.2.2 90 v = σ.2.2 49 v ∧ ∀ i, i < 4 → ∃ m, m ≤ 99 ∧ σ.2.2 50 (v * 4 + i) = nI m ∧ σ.2.2 91 (4 * v + i) = nI m
theorem JK.fr {I A : List (Nat × Nat)} {σ τ : ST} (h : JK σ) (f : Fr I A σ τ) (hh : ([19, 40].all (fun k => !inR I k) && [49, 50, 90, 91].all (fun k => !inR A k)) = true) : JK τ := by
  simp only [List.all_cons, List.all_nil, Bool.and_true, Bool.and_eq_true, Bool.not_eq_true'] at hh
  obtain ⟨⟨h1, h2⟩, h3, h4, h5, h6⟩ := hh
  unfold JK
  rw [f.1 _ h1, f.1 _ h2, f.2 _ h3, f.2 _ h4, f.2 _ h5, f.2 _ h6]
  exact h
theorem JK.start : JK σ0 := ⟨0, by omega, rfl, rfl, fun v h => absurd h (Nat.not_lt_zero _)⟩
theorem add29_l {x K p : Nat} {M : Nat → Nat} (hx : x < p) (hp : p ≤ 9) (hK : K < 6) : ∀ (fu d k : Nat) (τ : ST), k + d = 4 → d < fu → τ.1 10 = nI p → τ.1 19 = nI K → (∀ i, i < 4 → τ.2.2 43 (x * 4 + i) = nI (M i)) → (∀ i, i < k → τ.2.2 50 (K * 4 + i) = nI (M i)) → ∃ τ', fX5_add_0l29 fu (nI x) (nI K) (nI k) τ = (nI K, τ') ∧ τ'.1 19 = nI (K + 1) ∧ (∀ i, i < 4 → τ'.2.2 50 (K * 4 + i) = nI (M i)) ∧ (∀ j, j < K * 4 → τ'.2.2 50 j = τ.2.2 50 j) ∧ Fr [(19, 19)] [(50, 50)] τ τ'
  | 0, _, _, _, _, h, _, _, _, _ => absurd h (Nat.not_lt_zero _)
  | fu + 1, 0, k, τ, hd, _, h10, h19, hM, h0 => by
    have k4 : k = 4 := by omega
    subst k4
    refine ⟨sI τ 19 (nI (K + 1)), ?_, sI_eq _ _ _, h0, fun _ _ => rfl, (Fr.refl τ).putI rfl⟩
    show fX5_add_0b29 (fX5_add_0l29 fu) (nI x) (nI K) (nI 4) τ = _
    unfold fX5_add_0b29 fX5_add_0b60
    rw [if_pos (show 4 ≤ nI 4 by decide)]
    simp only [bd_e, h19, n_add1]
  | fu + 1, d + 1, k, τ, hd, hf, h10, h19, hM, h0 => by
    have f1 : Fr [(19, 19)] [(50, 50)] τ (sA τ 50 (upd (τ.2.2 50) (K * 4 + k) (nI (M k)))) := (Fr.refl τ).putA rfl
    obtain ⟨τ2, z1, z2, z3, z4, z5⟩ := add29_l hx hp hK fu d (k + 1) (sA τ 50 (upd (τ.2.2 50) (K * 4 + k) (nI (M k)))) (M := M) (by omega) (by omega) h10 h19 (fun i hi => by rw [sA_ne _ _ rfl]; exact hM i hi) (fun i hi => by
      rw [sA_eq]
      rcases Nat.eq_or_lt_of_le (Nat.le_of_lt_succ hi) with c | c
      · rw [c, pk_us]
      · rw [pk_un (by omega)]
        exact h0 i c)
    refine ⟨τ2, ?_, z2, z3, fun j hj => by rw [z4 j hj, sA_eq, pk_un (by omega)], f1.call z5 rfl rfl⟩
    rw [← z1]
    show fX5_add_0b29 (fX5_add_0l29 fu) (nI x) (nI K) (nI k) τ = _
    unfold fX5_add_0b29 fX5_add_0b35
    rw [if_neg (show ¬ 4 ≤ nI k from fun q => absurd ((leN (a := 4) (by omega) (by omega)).mp q) (by omega))]
    simp only [bd_e, n_mul4, nI_add, n_add1, middleOf_H h10 hp hx (show k < 4 by omega), hM k (by omega), show (nI (K * 4 + k)).toNatClampNeg = K * 4 + k from nI_clamp (by omega)]
theorem keep51_l {x K : Nat} {M : Nat → Nat} (hx : x < 9) (hK : K < 6) : ∀ (fu d k : Nat) (τ : ST), k + d = 4 → d < fu → τ.1 40 = nI K → (∀ i, i < 4 → τ.2.2 89 (4 * x + i) = nI (M i)) → (∀ i, i < k → τ.2.2 91 (4 * K + i) = nI (M i)) → ∃ τ', fX12_keep_0l51 fu (nI x) (nI k) τ = (nI K, τ') ∧ τ'.1 40 = nI (K + 1) ∧ (∀ i, i < 4 → τ'.2.2 91 (4 * K + i) = nI (M i)) ∧ (∀ j, j < 4 * K → τ'.2.2 91 j = τ.2.2 91 j) ∧ Fr [(40, 40)] [(91, 91)] τ τ'
  | 0, _, _, _, _, h, _, _, _ => absurd h (Nat.not_lt_zero _)
  | fu + 1, 0, k, τ, hd, _, h40, hM, h0 => by
    have k4 : k = 4 := by omega
    subst k4
    refine ⟨sI τ 40 (nI (K + 1)), ?_, sI_eq _ _ _, h0, fun _ _ => rfl, (Fr.refl τ).putI rfl⟩
    show fX12_keep_0b51 (fX12_keep_0l51 fu) (nI x) (nI 4) τ = _
    unfold fX12_keep_0b51 fX12_keep_0b88
    rw [if_pos (show 4 ≤ nI 4 by decide)]
    simp only [bd_e, h40, n_add1, sI_eq]
    rw [show nI (K + 1) - 1 = nI K from pk_sub (b := 1) (by omega)]
  | fu + 1, d + 1, k, τ, hd, hf, h40, hM, h0 => by
    have f1 : Fr [(40, 40)] [(91, 91)] τ (sA τ 91 (upd (τ.2.2 91) (4 * K + k) (nI (M k)))) := (Fr.refl τ).putA rfl
    obtain ⟨τ2, z1, z2, z3, z4, z5⟩ := keep51_l hx hK fu d (k + 1) (sA τ 91 (upd (τ.2.2 91) (4 * K + k) (nI (M k)))) (M := M) (by omega) (by omega) h40 (fun i hi => by rw [sA_ne _ _ rfl]; exact hM i hi) (fun i hi => by
      rw [sA_eq]
      rcases Nat.eq_or_lt_of_le (Nat.le_of_lt_succ hi) with c | c
      · rw [c, pk_us]
      · rw [pk_un (by omega)]
        exact h0 i c)
    refine ⟨τ2, ?_, z2, z3, fun j hj => by rw [z4 j hj, sA_eq, pk_un (by omega)], f1.call z5 rfl rfl⟩
    rw [← z1]
    show fX12_keep_0b51 (fX12_keep_0l51 fu) (nI x) (nI k) τ = _
    unfold fX12_keep_0b51 fX12_keep_0b57
    rw [if_neg (show ¬ 4 ≤ nI k from fun q => absurd ((leN (a := 4) (by omega) (by omega)).mp q) (by omega))]
    simp only [bd_e, h40, n_4mul, nI_add, n_add1, show (nI (4 * x + k)).toNatClampNeg = 4 * x + k from nI_clamp (by omega), hM k (by omega), show (nI (4 * K + k)).toNatClampNeg = 4 * K + k from nI_clamp (by omega)]
theorem keep_X (h a : Int32) (σ : ST) : fX11_keep_0 h a σ = if HNo h ∧ ¬ a < 1 ∧ ¬ 99 < a then (if 0 ≤ (fX11_refusedHeap_0 h σ).1 then fX5_add_0 h a (fX11_refusedHeap_0 h σ).2 else fX11_refusedHeap_0 h σ) else (-1, σ) := by
  unfold fX11_keep_0 fX11_keep_0b0 fX11_keep_0b7 fX11_keep_0b17 fX11_keep_0b19 fX11_keep_0b29 fX11_keep_0b31
  simp only [bd_e, bp_e, isHeapNumber_X, within_X, ite01]
  by_cases c : HNo h
  · rw [if_neg (fun w => w c)]
    by_cases d : ¬ a < 1 ∧ ¬ 99 < a
    · rw [if_neg (fun w => w d), if_pos (show HNo h ∧ ¬ a < 1 ∧ ¬ 99 < a from ⟨c, d⟩)]
    · rw [if_pos d, if_neg (fun w => d w.2)]
  · rw [if_pos c, if_neg (fun w => c w.1)]
theorem keep_M (h a : Int32) (σ : ST) : fX12_keep_0 h a σ = if ¬ a < 1 ∧ ¬ 99 < a then (if (fX12_wrong_0 h σ).1 = 0 then fX12_keep_0b26 h a (fX12_wrong_0 h σ).2 else fX12_wrong_0 h σ) else (-1, σ) := by
  unfold fX12_keep_0 fX12_keep_0b0 fX12_keep_0b10 fX12_keep_0b18 fX12_keep_0b19 fX12_keep_0b24
  simp only [bd_e, bp_e, in_M, ite01]
  by_cases d : ¬ a < 1 ∧ ¬ 99 < a
  · rw [if_neg (fun w => w d), if_pos d]
  · rw [if_pos d, if_neg d, if_neg (show ¬ (-1 : Int32) = 0 by decide)]
