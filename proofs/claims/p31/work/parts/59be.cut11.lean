/-! pieces, piece, of, like: both sides answer as the cut says -/
/-- what both sides' rows and rules say -/
def FACT (V : Nat → Nat) (H : Nat → Bool) (c c1 N : Nat) (σ : ST) : Prop := c ≤ 999 ∧ c1 ≤ 999 ∧ σ.2.2 1 0 = nI c ∧ σ.2.2 1 1 = nI c1 ∧ RWX V H c1 N σ ∧ RWM V H c N σ
theorem LD_nat {x : Int32} (h : LD x) : x = nI x.toNatClampNeg ∧ x.toNatClampNeg ≤ 99 := by
  obtain ⟨n, hn, e⟩ := nI_of h.1
  have h2 := h.2
  subst e
  have h3 : n ≤ 99 := y_nlt (a := 99) (b := n) (by omega) hn h2
  rw [nI_clamp hn]
  exact ⟨rfl, h3⟩
theorem HX_HM {σ : ST} {r : Nat} (h : RowEq σ r) (c : Int32) : HM σ c r = HX σ c r := by
  unfold HM HX
  obtain ⟨_, h2, _, h4, _, h6⟩ := h
  rw [h2, h4]
  by_cases d : σ.2.2 4 r = 0
  · rw [(h6 d 0 (by omega)).1, (h6 d 1 (by omega)).1, (h6 d 2 (by omega)).1, (h6 d 3 (by omega)).1]
  · have e1 : ∀ P : Prop, ∀ i : Decidable (σ.2.2 4 r = 0 ∧ P), @decide (σ.2.2 4 r = 0 ∧ P) i = false := fun P i => decide_eq_false fun q => d q.1
    rw [e1, e1]
theorem fact_of {σ : ST} (hR : JR σ) (hU : JU σ) : ∃ V H c c1 N, FACT V H c c1 N σ := by
  obtain ⟨N, hN, h2, h31, hr⟩ := hR
  obtain ⟨c, hc, u1, u2⟩ := hU 0 (by omega)
  obtain ⟨c1, hc1, w1, w2⟩ := hU 1 (by omega)
  have hc' : c ≤ 999 := hc
  have hc1' : c1 ≤ 399 := hc1
  refine ⟨fun i => (σ.2.2 3 i).toNatClampNeg, HX σ (nI c1), c, c1, N, hc', by omega, u1, w1, ⟨hN, h2, fun r _ => rfl, fun r q hH k hk => ?_⟩, ⟨hN, h31, u2, fun r q => ?_, fun r q hH k hk => ?_⟩⟩
  · exact LD_nat ((hr r q).2.2.2.2.2 (of_decide_eq_true hH).1 k hk).2
  · rw [w2]
    exact HX_HM (hr r q) _
  · have z := (hr r q).2.2.2.2.2 (of_decide_eq_true hH).1 k hk
    rw [z.1]
    exact LD_nat z.2
theorem FACT.fr {V : Nat → Nat} {H : Nat → Bool} {c c1 N : Nat} {I J : List (Nat × Nat)} {σ τ : ST} (h : FACT V H c c1 N σ) (f : Fr I J σ τ) (hh : ([2, 31].all (fun k => !inR I k) && [1, 3, 4, 5, 66, 68, 69, 70].all (fun k => !inR J k)) = true) : FACT V H c c1 N τ := by
  simp only [List.all_cons, List.all_nil, Bool.and_true, Bool.and_eq_true, Bool.not_eq_true'] at hh
  obtain ⟨⟨h1, h2⟩, h3, h4, h5, h6, h7, h8, h9, h10⟩ := hh
  obtain ⟨k1, k2, k3, k4, k5, k6⟩ := h
  refine ⟨k1, k2, by rw [f.2 _ h3]; exact k3, by rw [f.2 _ h3]; exact k4, k5.fr f ?_, k6.fr f ?_⟩
  · simp only [List.all_cons, List.all_nil, h1, h4, h5, h6]
    rfl
  · simp only [List.all_cons, List.all_nil, h2, h7, h8, h9, h10]
    rfl
theorem kcu_of {σ : ST} (hR : JR σ) (hU : JU σ) (hC : JCUT σ) : KCU σ := by
  obtain ⟨V, H, c, c1, N, h1, h2, h3, h4, h5, _⟩ := fact_of hR hU
  exact ⟨⟨V, H, c, c1, N, h1, h2, h3, h4, h5⟩, hC⟩
/-- behind cutNow, and behind the reference's findPieces -/
theorem both_cut {V : Nat → Nat} {H : Nat → Bool} {c c1 N : Nat} {σ : ST} (h : KCU σ) (hF : FACT V H c c1 N σ) : CUTX V H c N (fX11_cutNow_0 σ) ∧ FACT V H c c1 N (fX11_cutNow_0 σ) := by
  obtain ⟨k1, k2, k3⟩ := cutNow_X h
  have hF' := hF.fr k3 rfl
  exact ⟨k1.2 k2 V H c c1 N hF'.1 hF'.2.2.1 hF'.2.2.2.1 hF'.2.2.2.2.1, hF'⟩
theorem cutNow_id {σ : ST} (h : σ.1 22 = 0) : fX11_cutNow_0 σ = σ := by
  unfold fX11_cutNow_0 fX11_cutNow_0b0 fX11_cutNow_0b43
  simp only [bd_e]
  rw [if_pos h]
theorem pieces_X (a : Int32) (σ : ST) : fX11_pieces_0 a σ = (if a = 0 then (fX11_cutNow_0 σ).1 5 else if a = 1 then (fX11_cutNow_0 σ).1 6 else if a = 2 then (fX11_cutNow_0 σ).1 7 else if a = 3 then (fX11_cutNow_0 σ).1 8 else -1, fX11_cutNow_0 σ) := by
  simp only [fX11_pieces_0, fX11_pieces_0b0, fX11_pieces_0b68, fX11_pieces_0b60, fX11_pieces_0b52, fX11_pieces_0b44, fX11_pieces_0b36, bd_e]
  by_cases h0 : a = 0
  · rw [if_pos h0, if_pos h0]
  · by_cases h1 : a = 1
    · rw [if_neg h0, if_neg h0, if_pos h1, if_pos h1]
    · by_cases h2 : a = 2
      · rw [if_neg h0, if_neg h0, if_neg h1, if_neg h1, if_pos h2, if_pos h2]
      · by_cases h3 : a = 3
        · rw [if_neg h0, if_neg h0, if_neg h1, if_neg h1, if_neg h2, if_neg h2, if_pos h3, if_pos h3]
        · rw [if_neg h0, if_neg h0, if_neg h1, if_neg h1, if_neg h2, if_neg h2, if_neg h3, if_neg h3]
theorem count_l {V : Nat → Nat} {H : Nat → Bool} {c N : Nat} {a : Int32} {σ : ST} (h : RWM V H c N σ) : ∀ (fu m r : Nat), r + m = N → m < fu → fX12_pieces_0l19 fu a (nI (cn H r)) (nI r) σ = fX12_pieces_0b49 a (nI (cn H N)) σ
  | 0, _, _, _, h => absurd h (Nat.not_lt_zero _)
  | fu + 1, 0, r, hr, _ => by
    have hN := h.1
    have r0 : r = N := by omega
    subst r0
    show fX12_pieces_0b19 (fX12_pieces_0l19 fu) a (nI (cn H r)) (nI r) σ = _
    unfold fX12_pieces_0b19
    simp only [bd_e, h.2.1]
    rw [if_pos ((leN (by omega) (by omega)).mpr (Nat.le_refl _))]
  | fu + 1, m + 1, r, hr, hf => by
    have hN := h.1
    show fX12_pieces_0b19 (fX12_pieces_0l19 fu) a (nI (cn H r)) (nI r) σ = _
    unfold fX12_pieces_0b19 fX12_pieces_0b27
    simp only [bd_e, h.2.1, h.heard (r := r) (by omega)]
    rw [if_neg (fun q => absurd ((leN (by omega) (by omega)).mp q) (by omega))]
    have ih := count_l h fu m (r + 1) (a := a) (by omega) (by omega)
    have cl : cn H (r + 1) = cn H r + (if H r = true then 1 else 0) := rfl
    by_cases d : H r = true
    · rw [if_pos d, if_neg (show ¬ (1 : Int32) = 0 by decide)]
      unfold fX12_pieces_0b36 fX12_pieces_0b41
      simp only [bd_e, n_add1]
      rw [cl, if_pos d] at ih
      exact ih
    · rw [if_neg d, if_pos rfl]
      unfold fX12_pieces_0b40 fX12_pieces_0b41
      simp only [bd_e, n_add1, Int32.add_zero]
      rw [cl, if_neg d] at ih
      exact ih
theorem pieces_M2 {V : Nat → Nat} {H : Nat → Bool} {c N : Nat} {σ : ST} (hc : c ≤ 999) (h : RWM V H c N σ) (a : Int32) : fX12_pieces_0 a σ = if ¬ a < 0 ∧ ¬ 3 < a then (if a = 0 then (fX12_findPieces_0 σ).1 35 else if a = 1 then (fX12_findPieces_0 σ).1 36 else if a = 2 then (fX12_findPieces_0 σ).1 37 else nI (cn H N), fX12_findPieces_0 σ) else (-1, σ) := by
  obtain ⟨_, f1⟩ := pieces_M hc h
  have h' := h.fr f1 rfl
  have hN := h.1
  have k := count_l h' 4096 N 0 (a := a) (by omega) (by omega)
  have z : cn H 0 = 0 := rfl
  rw [z, nI_0] at k
  simp only [fX12_pieces_0, fX12_pieces_0b0, fX12_pieces_0b9, fX12_pieces_0b11, fX12_pieces_0b19, fX12_pieces_0b27, fX12_pieces_0b36, fX12_pieces_0b40, fX12_pieces_0b41, fX12_pieces_0b49, fX12_pieces_0b53, fX12_pieces_0b60, fX12_pieces_0b65, fX12_pieces_0b72, fX12_pieces_0b77, fX12_pieces_0b84, fX12_pieces_0b85, bd_e, in_M, ite01] at k ⊢
  by_cases q : ¬ a < 0 ∧ ¬ 3 < a
  · rw [if_neg (fun w => w q), if_pos q, k]
    by_cases h0 : a = 0
    · rw [if_pos h0, if_pos h0]
    · by_cases h1 : a = 1
      · rw [if_neg h0, if_neg h0, if_pos h1, if_pos h1]
      · by_cases h2 : a = 2
        · rw [if_neg h0, if_neg h0, if_neg h1, if_neg h1, if_pos h2, if_pos h2]
        · rw [if_neg h0, if_neg h0, if_neg h1, if_neg h1, if_neg h2, if_neg h2]
  · rw [if_pos q, if_neg q]
theorem a03 {a : Int32} (h : ¬ a < 0 ∧ ¬ 3 < a) : a = 0 ∨ a = 1 ∨ a = 2 ∨ a = 3 := by
  obtain ⟨n, hn, e⟩ := nI_of h.1
  have h2 := h.2
  subst e
  have h3 : n ≤ 3 := y_nlt (a := 3) (b := n) (by omega) hn h2
  rcases (show n = 0 ∨ n = 1 ∨ n = 2 ∨ n = 3 by omega) with rfl | rfl | rfl | rfl
  · exact Or.inl nI_0
  · exact Or.inr (Or.inl rfl)
  · exact Or.inr (Or.inr (Or.inl rfl))
  · exact Or.inr (Or.inr (Or.inr rfl))
theorem pieces_eq {V : Nat → Nat} {H : Nat → Bool} {c c1 N : Nat} {σ : ST} (h : KCU σ) (hF : FACT V H c c1 N σ) (a : Int32) : (fX11_pieces_0 a σ).1 = (fX12_pieces_0 a (fX11_pieces_0 a σ).2).1 := by
  obtain ⟨g1, g2⟩ := both_cut h hF
  rw [pieces_X]
  show _ = (fX12_pieces_0 a (fX11_cutNow_0 σ)).1
  rw [pieces_M2 g2.1 g2.2.2.2.2.2]
  obtain ⟨p1, _⟩ := pieces_M g2.1 g2.2.2.2.2.2
  by_cases q : ¬ a < 0 ∧ ¬ 3 < a
  · rw [if_pos q]
    show (if a = 0 then (fX11_cutNow_0 σ).1 5 else if a = 1 then (fX11_cutNow_0 σ).1 6 else if a = 2 then (fX11_cutNow_0 σ).1 7 else if a = 3 then (fX11_cutNow_0 σ).1 8 else -1) = (if a = 0 then (fX12_findPieces_0 (fX11_cutNow_0 σ)).1 35 else if a = 1 then (fX12_findPieces_0 (fX11_cutNow_0 σ)).1 36 else if a = 2 then (fX12_findPieces_0 (fX11_cutNow_0 σ)).1 37 else nI (cn H N))
    rw [g1.1.1, g1.2.1, g1.2.2.1, g1.2.2.2.1, CUT_hd, p1.1.1, p1.2.1, p1.2.2.1]
    rcases a03 q with rfl | rfl | rfl | rfl
    · rw [if_pos rfl, if_pos rfl]
    · rfl
    · rfl
    · rfl
  · rw [if_neg q]
    have n0 : ¬ a = 0 := fun w => q (by rw [w]; decide)
    have n1 : ¬ a = 1 := fun w => q (by rw [w]; decide)
    have n2 : ¬ a = 2 := fun w => q (by rw [w]; decide)
    have n3 : ¬ a = 3 := fun w => q (by rw [w]; decide)
    show (if a = 0 then (fX11_cutNow_0 σ).1 5 else if a = 1 then (fX11_cutNow_0 σ).1 6 else if a = 2 then (fX11_cutNow_0 σ).1 7 else if a = 3 then (fX11_cutNow_0 σ).1 8 else -1) = -1
    rw [if_neg n0, if_neg n1, if_neg n2, if_neg n3]
