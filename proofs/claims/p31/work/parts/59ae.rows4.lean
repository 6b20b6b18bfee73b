theorem setOut_X {σ : ST} {R f t : Nat} (h : σ.1 2 = nI R) (hR : R ≤ 48) (h1 : f ≤ t) (h2 : t < R) {v : Int32} (hv : vp_nar .boolean v = v) : ∃ τ', fX7_setOut_0 (nI f) (nI t) v σ = (nI (cntN (σ.2.2 5) v f (t + 1 - f)), τ') ∧ τ'.2.2 5 = putN (σ.2.2 5) v f (t + 1 - f) := by
  obtain ⟨τ', e1, e2⟩ := setOut_l hR h2 hv 4096 σ f 0 h (by omega) (by omega)
  refine ⟨τ', ?_, e2⟩
  unfold fX7_setOut_0 fX7_setOut_0b0
  rw [if_neg (nI_pos (by omega))]
  rw [Nat.zero_add] at e1
  exact e1
theorem setTruth_X {σ : ST} {R f t : Nat} (h : σ.1 2 = nI R) (hR : R ≤ 48) (h1 : f ≤ t) (h2 : t < R) (v : Int32) : ∃ τ', fX7_setTruth_0 (nI f) (nI t) v σ = (nI (cntN (σ.2.2 6) v f (t + 1 - f)), τ') ∧ τ'.2.2 6 = putN (σ.2.2 6) v f (t + 1 - f) := by
  obtain ⟨τ', e1, e2⟩ := setTruth_l hR h2 (v := v) 4096 σ f 0 h (by omega) (by omega)
  refine ⟨τ', ?_, e2⟩
  unfold fX7_setTruth_0 fX7_setTruth_0b0
  rw [if_neg (nI_pos (by omega))]
  rw [Nat.zero_add] at e1
  exact e1
abbrev OUTv (o : Int32) : Int32 := if o = 1 then 1 else 0
theorem OUTv_n (o : Int32) : vp_nar .boolean (OUTv o) = OUTv o := by
  unfold OUTv
  split
  · exact nar1
  · exact nar0
theorem out_X {σ : ST} {R : Nat} (h : σ.1 2 = nI R) (hR : R ≤ 48) (a b o : Int32) : fX11_out_0 a b o σ = if AR a b R ∧ ¬ o < 0 ∧ ¬ 1 < o then ((fX7_setOut_0 a b (OUTv o) σ).1, if (fX7_setOut_0 a b (OUTv o) σ).1 ≤ 0 then (fX7_setOut_0 a b (OUTv o) σ).2 else fX11_nothingIsFound_0 (fX7_setOut_0 a b (OUTv o) σ).2) else (-1, σ) := by
  simp only [fX11_out_0, fX11_out_0b0, fX11_out_0b9, fX11_out_0b20, fX11_out_0b31, fX11_out_0b35, fX11_out_0b36, fX11_out_0b46, fX11_out_0b50, fX11_out_0b18, bd, bp, areRows_X h hR, within_X, ite01]
  by_cases h1 : AR a b R
  · by_cases h2 : ¬ o < 0 ∧ ¬ 1 < o
    · rw [if_neg (fun q => q h1), if_neg (fun q => q h2), if_pos (show AR a b R ∧ ¬ o < 0 ∧ ¬ 1 < o from ⟨h1, h2⟩)]
      unfold OUTv
      by_cases h3 : o = 1
      · simp only [if_pos h3]
        by_cases h4 : (fX7_setOut_0 a b 1 σ).1 ≤ 0
        · simp only [if_pos h4]
        · simp only [if_neg h4]
      · simp only [if_neg h3]
        by_cases h4 : (fX7_setOut_0 a b 0 σ).1 ≤ 0
        · simp only [if_pos h4]
        · simp only [if_neg h4]
    · rw [if_neg (fun q => q h1), if_pos h2, if_neg (fun q => h2 q.2)]
  · rw [if_pos h1, if_neg (fun q => h1 q.1)]
theorem out_M {σ : ST} {R : Nat} (h : σ.1 31 = nI R) (hR : R ≤ 48) (a b o : Int32) : fX12_out_0 a b o σ = if AR a b R ∧ ¬ o < 0 ∧ ¬ 1 < o then fX12_out_0l26 4096 b o 0 a σ else (-1, σ) := by
  simp only [fX12_out_0, fX12_out_0b0, fX12_out_0b9, fX12_out_0b20, fX12_out_0b26, fX12_out_0b32, fX12_out_0b46, fX12_out_0b50, fX12_out_0b51, fX12_out_0b54, fX12_out_0b58, fX12_out_0b59, fX12_out_0b73, fX12_out_0b77, fX12_out_0b78, fX12_out_0b85, fX12_out_0b18, bd, bp, areRows_M h hR, in_M, ite01]
  by_cases h1 : AR a b R
  · by_cases h2 : ¬ o < 0 ∧ ¬ 1 < o
    · rw [if_neg (fun q => q h1), if_neg (fun q => q h2), if_pos ⟨h1, h2⟩]
    · rw [if_neg (fun q => q h1), if_pos h2, if_neg (fun q => h2 q.2)]
  · rw [if_pos h1, if_neg (fun q => h1 q.1)]
theorem truth_X {σ : ST} {R : Nat} (h : σ.1 2 = nI R) (hR : R ≤ 48) (a b v : Int32) : fX11_truth_0 a b v σ = if AR a b R ∧ ¬ v < 0 ∧ ¬ 5 < v then fX7_setTruth_0 a b v σ else (-1, σ) := by
  simp only [fX11_truth_0, fX11_truth_0b0, fX11_truth_0b9, fX11_truth_0b18, fX11_truth_0b31, fX11_truth_0b32, bd, bp, areRows_X h hR, within_X, ite01]
  by_cases h1 : AR a b R
  · by_cases h2 : ¬ v < 0 ∧ ¬ 5 < v
    · rw [if_neg (fun q => q h1), if_neg (fun q => q h2), if_pos ⟨h1, h2⟩]
    · rw [if_neg (fun q => q h1), if_pos h2, if_neg (fun q => h2 q.2)]
  · rw [if_pos h1, if_neg (fun q => h1 q.1)]
theorem truth_M {σ : ST} {R : Nat} (h : σ.1 31 = nI R) (hR : R ≤ 48) (a b v : Int32) : fX12_truth_0 a b v σ = if AR a b R ∧ ¬ v < 0 ∧ ¬ 5 < v then fX12_truth_0l26 4096 b v 0 a σ else (-1, σ) := by
  simp only [fX12_truth_0, fX12_truth_0b0, fX12_truth_0b9, fX12_truth_0b20, fX12_truth_0b26, fX12_truth_0b32, fX12_truth_0b45, fX12_truth_0b49, fX12_truth_0b50, fX12_truth_0b67, fX12_truth_0b18, bd, bp, areRows_M h hR, in_M, ite01]
  by_cases h1 : AR a b R
  · by_cases h2 : ¬ v < 0 ∧ ¬ 5 < v
    · rw [if_neg (fun q => q h1), if_neg (fun q => q h2), if_pos ⟨h1, h2⟩]
    · rw [if_neg (fun q => q h1), if_pos h2, if_neg (fun q => h2 q.2)]
  · rw [if_pos h1, if_neg (fun q => h1 q.1)]
/-! the relation of both sides' rows and words -/
def RowEq (σ : ST) (r : Nat) : Prop := (σ.2.2 4 r = 0 ∨ σ.2.2 4 r = 1) ∧ σ.2.2 69 r = σ.2.2 4 r ∧ (σ.2.2 5 r = 0 ∨ σ.2.2 5 r = 1) ∧ σ.2.2 70 r = σ.2.2 5 r ∧ σ.2.2 71 r = σ.2.2 6 r ∧ (σ.2.2 4 r = 0 → ∀ i, i < 4 → σ.2.2 68 (4 * r + i) = σ.2.2 3 (4 * r + i) ∧ LD (σ.2.2 3 (4 * r + i)))
def JR (σ : ST) : Prop := ∃ R, R ≤ 48 ∧ σ.1 2 = nI R ∧ σ.1 31 = nI R ∧ ∀ r, r < R → RowEq σ r
def JW (σ : ST) : Prop := ∃ W, W ≤ 12 ∧ σ.1 20 = nI W ∧ σ.1 32 = nI W ∧ ∀ w, w < W → σ.2.2 72 w = σ.2.2 52 w ∧ σ.2.2 73 w = σ.2.2 53 w
/-- nothing that JR speaks of has changed -/
def SR (σ τ : ST) : Prop := τ.1 2 = σ.1 2 ∧ τ.1 31 = σ.1 31 ∧ τ.2.2 3 = σ.2.2 3 ∧ τ.2.2 4 = σ.2.2 4 ∧ τ.2.2 5 = σ.2.2 5 ∧ τ.2.2 6 = σ.2.2 6 ∧ τ.2.2 68 = σ.2.2 68 ∧ τ.2.2 69 = σ.2.2 69 ∧ τ.2.2 70 = σ.2.2 70 ∧ τ.2.2 71 = σ.2.2 71
def SW (σ τ : ST) : Prop := τ.1 20 = σ.1 20 ∧ τ.1 32 = σ.1 32 ∧ τ.2.2 52 = σ.2.2 52 ∧ τ.2.2 53 = σ.2.2 53 ∧ τ.2.2 72 = σ.2.2 72 ∧ τ.2.2 73 = σ.2.2 73
theorem JR.same {σ τ : ST} (h : JR σ) (s : SR σ τ) : JR τ := by
  obtain ⟨R, hR, e1, e2, hr⟩ := h
  obtain ⟨s1, s2, s3, s4, s5, s6, s7, s8, s9, s10⟩ := s
  refine ⟨R, hR, s1.trans e1, s2.trans e2, fun r hr' => ?_⟩
  unfold RowEq
  rw [s3, s4, s5, s6, s7, s8, s9, s10]
  exact hr r hr'
theorem JW.same {σ τ : ST} (h : JW σ) (s : SW σ τ) : JW τ := by
  obtain ⟨W, hW, e1, e2, hw⟩ := h
  obtain ⟨s1, s2, s3, s4, s5, s6⟩ := s
  refine ⟨W, hW, s1.trans e1, s2.trans e2, fun w hw' => ?_⟩
  rw [s3, s4, s5, s6]
  exact hw w hw'
theorem Fr.SR {I A : List (Nat × Nat)} {σ τ : ST} (f : Fr I A σ τ) (h : ([2, 31].all (fun k => !inR I k) && [3, 4, 5, 6, 68, 69, 70, 71].all (fun k => !inR A k)) = true) : SR σ τ := by
  simp only [List.all_cons, List.all_nil, Bool.and_true, Bool.and_eq_true, Bool.not_eq_true'] at h
  obtain ⟨⟨h1, h2⟩, h3, h4, h5, h6, h7, h8, h9, h10⟩ := h
  exact ⟨f.1 _ h1, f.1 _ h2, f.2 _ h3, f.2 _ h4, f.2 _ h5, f.2 _ h6, f.2 _ h7, f.2 _ h8, f.2 _ h9, f.2 _ h10⟩
theorem Fr.SW {I A : List (Nat × Nat)} {σ τ : ST} (f : Fr I A σ τ) (h : ([20, 32].all (fun k => !inR I k) && [52, 53, 72, 73].all (fun k => !inR A k)) = true) : SW σ τ := by
  simp only [List.all_cons, List.all_nil, Bool.and_true, Bool.and_eq_true, Bool.not_eq_true'] at h
  obtain ⟨⟨h1, h2⟩, h3, h4, h5, h6⟩ := h
  exact ⟨f.1 _ h1, f.1 _ h2, f.2 _ h3, f.2 _ h4, f.2 _ h5, f.2 _ h6⟩
