/-! the middles of heaps, of the reference -/
theorem heapsIn2_M {a : Nat → Nat} {i : Nat} {τ : ST} (hi : i ≤ 9) (ha : ∀ j, j < i → τ.2.2 86 j = nI (a j) ∧ a j ≤ 9) : fX12_heapsIn_2 (nI i) τ = nI (hpi a i) := by
  have loop : ∀ (fu d j : Nat), j + d = i → d < fu → fX12_heapsIn_2l4 fu (nI i) (nI (hpi a j)) (nI j) τ = nI (hpi a i) := by
    intro fu
    induction fu with
    | zero =>
      intro d j _ h
      exact absurd h (Nat.not_lt_zero _)
    | succ fu ih =>
      intro d j hd hf
      cases d with
      | zero =>
        have ej : j = i := by omega
        subst ej
        show fX12_heapsIn_2b4 (fX12_heapsIn_2l4 fu) (nI j) (nI (hpi a j)) (nI j) τ = _
        unfold fX12_heapsIn_2b4 fX12_heapsIn_2b32
        rw [if_pos ((leN (by omega) (by omega)).mpr (Nat.le_refl _))]
      | succ d =>
        obtain ⟨b1, b2⟩ := ha j (by omega)
        have hp := hpi_le (a := a) j (fun k hk => (ha k (by omega)).2)
        rw [← ih d (j + 1) (by omega) (by omega)]
        show fX12_heapsIn_2b4 (fX12_heapsIn_2l4 fu) (nI i) (nI (hpi a j)) (nI j) τ = fX12_heapsIn_2l4 fu (nI i) (nI (max (hpi a j) (a j + 1))) (nI (j + 1)) τ
        unfold fX12_heapsIn_2b4 fX12_heapsIn_2b9 fX12_heapsIn_2b24 fX12_heapsIn_2b16 fX12_heapsIn_2b25
        simp only [bd_e, n_add1, show (nI j).toNatClampNeg = j from nI_clamp (by omega), b1, nI_ltI (a := a j) (b := hpi a j) (by omega) (by omega)]
        rw [if_neg (fun q => absurd ((leN (by omega) (by omega)).mp q) (by omega))]
        by_cases c : a j < hpi a j
        · rw [if_pos c, show max (hpi a j) (a j + 1) = hpi a j by omega]
        · rw [if_neg c, show max (hpi a j) (a j + 1) = a j + 1 by omega]
  have k := loop 4096 i 0 (by omega) (by omega)
  rw [← k, show hpi a 0 = 0 from rfl, nI_0]
  rfl
theorem heapsIn1_M {a : Nat → Nat} {i : Nat} {τ : ST} (hi : i ≤ 9) (ha : ∀ j, j < i → τ.2.2 87 j = nI (a j) ∧ a j ≤ 9) : fX12_heapsIn_1 (nI i) τ = nI (hpi a i) := by
  have loop : ∀ (fu d j : Nat), j + d = i → d < fu → fX12_heapsIn_1l4 fu (nI i) (nI (hpi a j)) (nI j) τ = nI (hpi a i) := by
    intro fu
    induction fu with
    | zero =>
      intro d j _ h
      exact absurd h (Nat.not_lt_zero _)
    | succ fu ih =>
      intro d j hd hf
      cases d with
      | zero =>
        have ej : j = i := by omega
        subst ej
        show fX12_heapsIn_1b4 (fX12_heapsIn_1l4 fu) (nI j) (nI (hpi a j)) (nI j) τ = _
        unfold fX12_heapsIn_1b4 fX12_heapsIn_1b32
        rw [if_pos ((leN (by omega) (by omega)).mpr (Nat.le_refl _))]
      | succ d =>
        obtain ⟨b1, b2⟩ := ha j (by omega)
        have hp := hpi_le (a := a) j (fun k hk => (ha k (by omega)).2)
        rw [← ih d (j + 1) (by omega) (by omega)]
        show fX12_heapsIn_1b4 (fX12_heapsIn_1l4 fu) (nI i) (nI (hpi a j)) (nI j) τ = fX12_heapsIn_1l4 fu (nI i) (nI (max (hpi a j) (a j + 1))) (nI (j + 1)) τ
        unfold fX12_heapsIn_1b4 fX12_heapsIn_1b9 fX12_heapsIn_1b24 fX12_heapsIn_1b16 fX12_heapsIn_1b25
        simp only [bd_e, n_add1, show (nI j).toNatClampNeg = j from nI_clamp (by omega), b1, nI_ltI (a := a j) (b := hpi a j) (by omega) (by omega)]
        rw [if_neg (fun q => absurd ((leN (by omega) (by omega)).mp q) (by omega))]
        by_cases c : a j < hpi a j
        · rw [if_pos c, show max (hpi a j) (a j + 1) = hpi a j by omega]
        · rw [if_neg c, show max (hpi a j) (a j + 1) = a j + 1 by omega]
  have k := loop 4096 i 0 (by omega) (by omega)
  rw [← k, show hpi a 0 = 0 from rfl, nI_0]
  rfl
/-- what findHeapMiddles stands on -/
def HMS (V : Nat → Nat) (H : Nat → Bool) (c N : Nat) (a : Nat → Nat) (τ : ST) : Prop := RWM V H c N τ ∧ (CUT V H c N).1.1 ≤ 9 ∧ τ.1 35 = nI (CUT V H c N).1.1 ∧ (∀ r, r < N → τ.2.2 77 r = (CUT V H c N).1.2.2 r) ∧ ∀ q, q < (CUT V H c N).1.1 → τ.2.2 86 q = nI (a q) ∧ a q ≤ 9
theorem HMS.fr {V : Nat → Nat} {H : Nat → Bool} {c N : Nat} {a : Nat → Nat} {I J : List (Nat × Nat)} {σ τ : ST} (h : HMS V H c N a σ) (f : Fr I J σ τ) (hh : ((!inR I 31 && [66, 68, 69, 70].all (fun k => !inR J k)) && !inR I 35 && !inR J 77 && !inR J 86) = true) : HMS V H c N a τ := by
  simp only [Bool.and_eq_true, Bool.not_eq_true'] at hh
  refine ⟨h.1.fr f ?_, h.2.1, by rw [f.1 _ hh.1.1.2]; exact h.2.2.1, by rw [f.2 _ hh.1.2]; exact h.2.2.2.1, by rw [f.2 _ hh.2]; exact h.2.2.2.2⟩
  simp only [Bool.and_eq_true, Bool.not_eq_true']
  exact hh.1.1.1
theorem fhm19_l {K : Int32 → ST → ST} {V : Nat → Nat} {H : Nat → Bool} {c N h : Nat} {a : Nat → Nat} (hh : h ≤ 9) : ∀ (fu m r : Nat) (τ : ST), r + m = N → m < fu → HMS V H c N a τ → (∀ j, j < r → τ.2.2 80 j = if HS (CUT V H c N).1 a h j = true then 1 else 0) → ∃ τ', fX12_findHeapMiddles_0l19 K fu (nI h) (nI r) τ = fX12_findHeapMiddles_0b70 K (nI h) τ' ∧ (∀ j, j < N → τ'.2.2 80 j = if HS (CUT V H c N).1 a h j = true then 1 else 0) ∧ Fr [] [(80, 80)] τ τ' := by
  intro fu
  induction fu with
  | zero =>
    intro m r τ _ h
    exact absurd h (Nat.not_lt_zero _)
  | succ fu ih =>
    intro m r τ hm hf hF h0
    have hN := hF.1.1
    have e0 : fX12_findHeapMiddles_0l19 K (fu + 1) (nI h) (nI r) τ = fX12_findHeapMiddles_0b19 K (fX12_findHeapMiddles_0l19 K fu) (nI h) (nI r) τ := rfl
    cases m with
    | zero =>
      have er : r = N := by omega
      subst er
      refine ⟨τ, ?_, h0, Fr.refl τ⟩
      rw [e0]
      unfold fX12_findHeapMiddles_0b19
      simp only [bd_e, hF.1.2.1]
      rw [if_pos ((leN (by omega) (by omega)).mpr (Nat.le_refl _))]
    | succ m =>
      have nr : (nI r).toNatClampNeg = r := nI_clamp (by omega)
      have e1 : fX12_findHeapMiddles_0l19 K (fu + 1) (nI h) (nI r) τ = fX12_findHeapMiddles_0l19 K fu (nI h) (nI (r + 1)) (sA τ 80 (upd (τ.2.2 80) r (if HS (CUT V H c N).1 a h r = true then 1 else 0))) := by
        rw [e0]
        unfold fX12_findHeapMiddles_0b19 fX12_findHeapMiddles_0b27 fX12_findHeapMiddles_0b43 fX12_findHeapMiddles_0b62 fX12_findHeapMiddles_0b58 fX12_findHeapMiddles_0b63
        simp only [bd_e, hF.1.2.1, nr, n_add1, hF.2.2.2.1 r (by omega), nar0, nar1]
        rw [if_neg (fun q => absurd ((leN (by omega) (by omega)).mp q) (by omega))]
        rcases CUT_po V H c N r with z | ⟨q, q1, q2, _, _⟩
        · have hn : ¬ HS (CUT V H c N).1 a h r = true := fun w => (of_decide_eq_true w).1 z
          rw [if_pos z, if_neg hn]
        · have h9 := hF.2.1
          obtain ⟨a1, a2⟩ := hF.2.2.2.2 q q1
          have hd : HS (CUT V H c N).1 a h r = true ↔ a q = h := by
            unfold HS
            rw [q2, nI_clamp (by omega)]
            exact ⟨fun w => (of_decide_eq_true w).2, fun w => decide_eq_true ⟨neg9_nI (by omega), w⟩⟩
          rw [q2, if_neg (neg9_nI (by omega)), show (nI q).toNatClampNeg = q from nI_clamp (by omega), a1]
          by_cases d : a q = h
          · rw [if_pos (hd.mpr d), if_pos (by rw [d])]
          · rw [if_neg (fun w => d (hd.mp w)), if_neg (fun w => d ((nI_eq (by omega) (by omega)).mp w))]
      have f1 : Fr [] [(80, 80)] τ (sA τ 80 (upd (τ.2.2 80) r (if HS (CUT V H c N).1 a h r = true then 1 else 0))) := (Fr.refl τ).putA rfl
      obtain ⟨τ2, z1, z2, z3⟩ := ih m (r + 1) _ (by omega) (by omega) (hF.fr f1 rfl) (fun j hj => by
        rw [sA_eq]
        rcases Nat.eq_or_lt_of_le (Nat.le_of_lt_succ hj) with d | d
        · rw [d, pk_us]
        · rw [pk_un (by omega)]
          exact h0 j d)
      exact ⟨τ2, e1.trans z1, z2, f1.call z3 rfl rfl⟩
theorem fhm76_l {K : Int32 → ST → ST} {h : Nat} {M : Nat → Nat} (hh : h < 9) : ∀ (fu m k : Nat) (τ : ST), k + m = 4 → m < fu → (∀ i, i < 4 → τ.2.2 81 i = nI (M i)) → (∀ i, i < k → τ.2.2 89 (4 * h + i) = nI (M i)) → ∃ τ', fX12_findHeapMiddles_0l76 K fu (nI h) (nI k) τ = K (nI (h + 1)) τ' ∧ (∀ i, i < 4 → τ'.2.2 89 (4 * h + i) = nI (M i)) ∧ (∀ j, j < 4 * h → τ'.2.2 89 j = τ.2.2 89 j) ∧ Fr [] [(89, 89)] τ τ'
  | 0, _, _, _, _, h, _, _ => absurd h (Nat.not_lt_zero _)
  | fu + 1, 0, k, τ, hk, _, _, hM => by
    have k4 : k = 4 := by omega
    subst k4
    refine ⟨τ, ?_, hM, fun _ _ => rfl, Fr.refl τ⟩
    show fX12_findHeapMiddles_0b76 K (fX12_findHeapMiddles_0l76 K fu) (nI h) (nI 4) τ = _
    unfold fX12_findHeapMiddles_0b76 fX12_findHeapMiddles_0b103
    rw [if_pos (show 4 ≤ nI 4 by decide)]
    simp only [bd_e, n_add1]
  | fu + 1, m + 1, k, τ, hk, hf, h81, hM => by
    have e0 : fX12_findHeapMiddles_0l76 K (fu + 1) (nI h) (nI k) τ = fX12_findHeapMiddles_0b76 K (fX12_findHeapMiddles_0l76 K fu) (nI h) (nI k) τ := rfl
    rw [e0]
    unfold fX12_findHeapMiddles_0b76 fX12_findHeapMiddles_0b81
    rw [if_neg (show ¬ 4 ≤ nI k from fun q => absurd ((leN (a := 4) (by omega) (by omega)).mp q) (by omega))]
    simp only [bd_e, n_4mul, nI_add, n_add1, show (nI k).toNatClampNeg = k from nI_clamp (by omega), show (nI (4 * h + k)).toNatClampNeg = 4 * h + k from nI_clamp (by omega), h81 k (by omega)]
    have f1 : Fr [] [(89, 89)] τ (sA τ 89 (upd (τ.2.2 89) (4 * h + k) (nI (M k)))) := (Fr.refl τ).putA rfl
    obtain ⟨τ2, z1, z2, z3, z4⟩ := fhm76_l hh fu m (k + 1) (sA τ 89 (upd (τ.2.2 89) (4 * h + k) (nI (M k)))) (K := K) (M := M) (by omega) (by omega) (fun i hi => by rw [f1.2 81 rfl]; exact h81 i hi) (fun i hi => by
      rw [sA_eq]
      rcases Nat.eq_or_lt_of_le (Nat.le_of_lt_succ hi) with c | c
      · rw [c, pk_us]
      · rw [pk_un (by omega)]
        exact hM i c)
    exact ⟨τ2, z1, z2, fun j hj => by rw [z3 j hj, sA_eq, pk_un (by omega)], f1.call z4 rfl rfl⟩
theorem fhm2_l {V : Nat → Nat} {H : Nat → Bool} {c N : Nat} {a : Nat → Nat} (hRG : RG a (CUT V H c N).1.1) : ∀ (fu m h : Nat) (τ : ST), h + m = hpi a (CUT V H c N).1.1 → m < fu → HMS V H c N a τ → (∀ x, x < h → ∀ k, k < 4 → τ.2.2 89 (4 * x + k) = nI (MH V (HS (CUT V H c N).1 a x) N k)) → ∃ τ', fX12_findHeapMiddles_0l2 fu (nI h) τ = τ' ∧ (∀ x, x < hpi a (CUT V H c N).1.1 → ∀ k, k < 4 → τ'.2.2 89 (4 * x + k) = nI (MH V (HS (CUT V H c N).1 a x) N k)) ∧ Fr [(38, 38)] [(80, 82), (89, 89)] τ τ' := by
  intro fu
  induction fu with
  | zero =>
    intro m h τ _ h
    exact absurd h (Nat.not_lt_zero _)
  | succ fu ih =>
    intro m h τ hm hf hF h0
    have hN := hF.1.1
    have h9 := hF.2.1
    have hp9 := RG.le _ hRG
    have eh := heapsIn2_M (a := a) (i := (CUT V H c N).1.1) (τ := τ) h9 hF.2.2.2.2
    cases m with
    | zero =>
      have eh0 : h = hpi a (CUT V H c N).1.1 := by omega
      refine ⟨τ, ?_, fun x hx => h0 x (by omega), Fr.refl τ⟩
      show fX12_findHeapMiddles_0b2 (fX12_findHeapMiddles_0l2 fu) (nI h) τ = _
      unfold fX12_findHeapMiddles_0b2 fX12_findHeapMiddles_0b109
      simp only [bd_e, hF.2.2.1, eh]
      rw [if_pos ((leN (by omega) (by omega)).mpr (by omega))]
    | succ m =>
      obtain ⟨τ1, y1, y2, y3⟩ := fhm19_l (K := fX12_findHeapMiddles_0l2 fu) (h := h) (by omega) 4096 N 0 τ (by omega) (by omega) hF (fun j hj => absurd hj (Nat.not_lt_zero _))
      have hF1 := hF.fr y3 rfl
      have hA : ASK (HS (CUT V H c N).1 a h) N (wH V (HS (CUT V H c N).1 a h) N) τ1 := by
        refine ⟨hN, hF1.1.2.1, y2, fun r hr hA k hk => ?_, fun k hk j hj => ?_⟩
        · rw [wH_e hr hA]
          exact (hF1.1.2.2.2.2 r hr (HS_heard hA) k hk).1
        · obtain ⟨m1, m2⟩ := nth_in N hj
          exact (hF1.1.2.2.2.2 _ m1 (HS_heard m2) k hk).2
      obtain ⟨m1, _, m3⟩ := mid_M hA
      obtain ⟨τ2, w1, w2, w3, w4⟩ := fhm76_l (K := fX12_findHeapMiddles_0l2 fu) (h := h) (M := fun k => MH V (HS (CUT V H c N).1 a h) N k) (by omega) 4096 4 0 (fX12_findMiddle_0 τ1) (by omega) (by omega) m1 (fun i hi => absurd hi (Nat.not_lt_zero _))
      have e0 : fX12_findHeapMiddles_0l2 (fu + 1) (nI h) τ = fX12_findHeapMiddles_0l2 fu (nI (h + 1)) τ2 := by
        have e1 : fX12_findHeapMiddles_0l2 (fu + 1) (nI h) τ = fX12_findHeapMiddles_0l19 (fX12_findHeapMiddles_0l2 fu) 4096 (nI h) (nI 0) τ := by
          show fX12_findHeapMiddles_0b2 (fX12_findHeapMiddles_0l2 fu) (nI h) τ = _
          unfold fX12_findHeapMiddles_0b2 fX12_findHeapMiddles_0b17
          simp only [bd_e, hF.2.2.1, eh, nI_0]
          rw [if_neg (fun q => absurd ((leN (by omega) (by omega)).mp q) (by omega))]
        rw [e1, y1, ← w1]
        unfold fX12_findHeapMiddles_0b70
        simp only [bd_e, nI_0]
      have f1 : Fr [(38, 38)] [(80, 82), (89, 89)] τ τ2 := ((y3.wide rfl rfl).call m3 rfl rfl).call w4 rfl rfl
      have f1' : Fr [(38, 38)] [(80, 82)] τ (fX12_findMiddle_0 τ1) := (y3.wide rfl rfl).call m3 rfl rfl
      obtain ⟨τ3, z1, z2, z3⟩ := ih m (h + 1) τ2 (by omega) (by omega) (hF.fr f1 rfl) (fun x hx k hk => by
        rcases Nat.eq_or_lt_of_le (Nat.le_of_lt_succ hx) with d | d
        · subst d
          exact w2 k hk
        · rw [w3 (4 * x + k) (by omega), f1'.2 89 rfl]
          exact h0 x d k hk)
      exact ⟨τ3, e0.trans z1, z2, f1.call z3 rfl rfl⟩
theorem heapMiddles_M {V : Nat → Nat} {H : Nat → Bool} {c N : Nat} {a : Nat → Nat} {τ : ST} (hRG : RG a (CUT V H c N).1.1) (hF : HMS V H c N a τ) : (∀ x, x < hpi a (CUT V H c N).1.1 → ∀ k, k < 4 → (fX12_findHeapMiddles_0 τ).2.2 89 (4 * x + k) = nI (MH V (HS (CUT V H c N).1 a x) N k)) ∧ Fr [(38, 38)] [(80, 82), (89, 89)] τ (fX12_findHeapMiddles_0 τ) := by
  have hp9 := RG.le _ hRG
  have h9 := hF.2.1
  obtain ⟨τ', y1, y2, y3⟩ := fhm2_l hRG 4096 (hpi a (CUT V H c N).1.1) 0 τ (by omega) (by omega) hF (fun x hx => absurd hx (Nat.not_lt_zero _))
  have e : fX12_findHeapMiddles_0 τ = τ' := by
    rw [← y1, nI_0]
    rfl
  rw [e]
  exact ⟨y2, y3⟩
