theorem putN_at {f : Nat → Int32} {v : Int32} {a n r : Nat} (h : a ≤ r ∧ r < a + n) : putN f v a n r = v := if_pos h
theorem putN_out {f : Nat → Int32} {v : Int32} {a n r : Nat} (h : ¬ (a ≤ r ∧ r < a + n)) : putN f v a n r = f r := if_neg h
theorem OUTv_01 (o : Int32) : OUTv o = 0 ∨ OUTv o = 1 := by
  unfold OUTv
  split
  · exact Or.inr rfl
  · exact Or.inl rfl
theorem jr_out {σ σ1 σ2 : ST} {a b o r1 r2 : Int32} (hJ : JRW σ) (_hI : INV σ) (x1 : fX11_out_0 a b o σ = (r1, σ1)) (_hI1 : INV σ1) (f1 : Fr [(22, 24)] [(5, 5)] σ σ1) (x2 : fX12_out_0 a b o σ1 = (r2, σ2)) (_hI2 : INV σ2) (f2 : Fr [] [(70, 70)] σ1 σ2) : JRW σ2 ∧ r1 = r2 := by
  obtain ⟨⟨R, hR, e1, e2, hr⟩, hW⟩ := hJ
  have w2 := (hW.same (f1.SW rfl)).same (f2.SW rfl)
  have e3 : σ1.1 31 = nI R := (f1.1 31 rfl).trans e2
  rw [out_X e1 hR] at x1
  rw [out_M e3 hR] at x2
  by_cases c : AR a b R ∧ ¬ o < 0 ∧ ¬ 1 < o
  · rw [if_pos c] at x1 x2
    obtain ⟨f, t, rfl, rfl, hft, htR⟩ := AR.nat c.1 hR
    obtain ⟨τ, y1, y2⟩ := setOut_X e1 hR hft htR (OUTv_n o)
    obtain ⟨τ2, z1, z2⟩ := outM_l (t := t) (by omega) (o := o) (v := OUTv o) rfl 4096 σ1 f 0 (by omega) (by omega)
    rw [y1] at x1
    rw [nI_0] at z1
    rw [z1] at x2
    have p1 := pin1 x1
    have p2 := pin2 x1
    have p3 := pin1 x2
    have p4 := pin2 x2
    have a5 : σ1.2.2 5 = putN (σ.2.2 5) (OUTv o) f (t + 1 - f) := by
      rw [← p2, ← y2]
      by_cases c2 : (nI (cntN (σ.2.2 5) (OUTv o) f (t + 1 - f)), τ).1 ≤ 0
      · rw [if_pos c2]
      · rw [if_neg c2, (nf_X _).1]
    subst p4
    have b70 : σ1.2.2 70 = σ.2.2 70 := f1.2 70 rfl
    rw [b70] at z2
    have q : ∀ r, r < R → σ.2.2 70 r = σ.2.2 5 r := fun r hr' => (hr r hr').2.2.2.1
    have g5 : τ2.2.2 5 = σ1.2.2 5 := f2.2 5 rfl
    have e4 := OUTv_01 o
    refine ⟨⟨⟨R, hR, (f2.1 2 rfl).trans ((f1.1 2 rfl).trans e1), (f2.1 31 rfl).trans e3, fun r hr' => ?_⟩, w2⟩, ?_⟩
    · obtain ⟨h1, h2, h3, h4, h5, h6⟩ := hr r hr'
      unfold RowEq
      rw [g5, a5, z2, show τ2.2.2 4 = σ.2.2 4 from (f2.2 4 rfl).trans (f1.2 4 rfl), show τ2.2.2 69 = σ.2.2 69 from (f2.2 69 rfl).trans (f1.2 69 rfl), show τ2.2.2 71 = σ.2.2 71 from (f2.2 71 rfl).trans (f1.2 71 rfl), show τ2.2.2 6 = σ.2.2 6 from (f2.2 6 rfl).trans (f1.2 6 rfl), show τ2.2.2 68 = σ.2.2 68 from (f2.2 68 rfl).trans (f1.2 68 rfl), show τ2.2.2 3 = σ.2.2 3 from (f2.2 3 rfl).trans (f1.2 3 rfl)]
      refine ⟨h1, h2, ?_, ?_, h5, h6⟩
      · by_cases c2 : f ≤ r ∧ r < f + (t + 1 - f)
        · rw [putN_at c2]
          exact e4
        · rw [putN_out c2]
          exact h3
      · by_cases c2 : f ≤ r ∧ r < f + (t + 1 - f)
        · rw [putN_at c2, putN_at c2]
        · rw [putN_out c2, putN_out c2]
          exact h4
    · rw [← p1, ← p3, Nat.zero_add, b70]
      exact congrArg nI (cntN_eq q _ _ (by omega)).symm
  · rw [if_neg c] at x1 x2
    have p2 := pin2 x1
    have p4 := pin2 x2
    subst p2
    subst p4
    exact ⟨⟨⟨R, hR, e1, e2, hr⟩, w2⟩, (pin1 x1).symm.trans (pin1 x2)⟩
theorem jr_truth {σ σ1 σ2 : ST} {a b v r1 r2 : Int32} (hJ : JRW σ) (_hI : INV σ) (x1 : fX11_truth_0 a b v σ = (r1, σ1)) (_hI1 : INV σ1) (f1 : Fr [] [(6, 6)] σ σ1) (x2 : fX12_truth_0 a b v σ1 = (r2, σ2)) (_hI2 : INV σ2) (f2 : Fr [] [(71, 71)] σ1 σ2) : JRW σ2 ∧ r1 = r2 := by
  obtain ⟨⟨R, hR, e1, e2, hr⟩, hW⟩ := hJ
  have w2 := (hW.same (f1.SW rfl)).same (f2.SW rfl)
  have e3 : σ1.1 31 = nI R := (f1.1 31 rfl).trans e2
  rw [truth_X e1 hR] at x1
  rw [truth_M e3 hR] at x2
  by_cases c : AR a b R ∧ ¬ v < 0 ∧ ¬ 5 < v
  · rw [if_pos c] at x1 x2
    obtain ⟨f, t, rfl, rfl, hft, htR⟩ := AR.nat c.1 hR
    obtain ⟨τ, y1, y2⟩ := setTruth_X e1 hR hft htR v
    obtain ⟨τ2, z1, z2⟩ := truthM_l (t := t) (by omega) (v := v) 4096 σ1 f 0 (by omega) (by omega)
    rw [y1] at x1
    rw [nI_0] at z1
    rw [z1] at x2
    have p1 := pin1 x1
    have p2 := pin2 x1
    have p3 := pin1 x2
    have p4 := pin2 x2
    subst p2
    subst p4
    have b71 : τ.2.2 71 = σ.2.2 71 := f1.2 71 rfl
    rw [b71] at z2
    have q : ∀ r, r < R → σ.2.2 71 r = σ.2.2 6 r := fun r hr' => (hr r hr').2.2.2.2.1
    have g6 : τ2.2.2 6 = τ.2.2 6 := f2.2 6 rfl
    refine ⟨⟨⟨R, hR, (f2.1 2 rfl).trans ((f1.1 2 rfl).trans e1), (f2.1 31 rfl).trans e3, fun r hr' => ?_⟩, w2⟩, ?_⟩
    · obtain ⟨h1, h2, h3, h4, h5, h6⟩ := hr r hr'
      unfold RowEq
      rw [g6, y2, z2, show τ2.2.2 4 = σ.2.2 4 from (f2.2 4 rfl).trans (f1.2 4 rfl), show τ2.2.2 69 = σ.2.2 69 from (f2.2 69 rfl).trans (f1.2 69 rfl), show τ2.2.2 70 = σ.2.2 70 from (f2.2 70 rfl).trans (f1.2 70 rfl), show τ2.2.2 5 = σ.2.2 5 from (f2.2 5 rfl).trans (f1.2 5 rfl), show τ2.2.2 68 = σ.2.2 68 from (f2.2 68 rfl).trans (f1.2 68 rfl), show τ2.2.2 3 = σ.2.2 3 from (f2.2 3 rfl).trans (f1.2 3 rfl)]
      refine ⟨h1, h2, h3, h4, ?_, h6⟩
      by_cases c2 : f ≤ r ∧ r < f + (t + 1 - f)
      · rw [putN_at c2, putN_at c2]
      · rw [putN_out c2, putN_out c2]
        exact h5
    · rw [← p1, ← p3, Nat.zero_add, b71]
      exact congrArg nI (cntN_eq q _ _ (by omega)).symm
  · rw [if_neg c] at x1 x2
    have p2 := pin2 x1
    have p4 := pin2 x2
    subst p2
    subst p4
    exact ⟨⟨⟨R, hR, e1, e2, hr⟩, w2⟩, (pin1 x1).symm.trans (pin1 x2)⟩
theorem jr_hush {σ σ1 σ2 : ST} {r1 r2 : Int32} (hJ : JRW σ) (_hI : INV σ) (x1 : fX11_hush_0 σ = (r1, σ1)) (_hI1 : INV σ1) (f1 : Fr [(2, 2), (20, 24)] [] σ σ1) (x2 : fX12_hush_0 σ1 = (r2, σ2)) (_hI2 : INV σ2) (f2 : Fr [(31, 32), (34, 34)] [] σ1 σ2) : JRW σ2 ∧ r1 = r2 := by
  obtain ⟨⟨R, hR, e1, e2, hr⟩, hW⟩ := hJ
  have e3 : σ1.1 31 = nI R := (f1.1 31 rfl).trans e2
  simp only [fX11_hush_0, fX11_hush_0b0, bd] at x1
  simp only [fX12_hush_0, fX12_hush_0b0, bd] at x2
  have p1 := pin1 x1
  have p2 := pin2 x1
  have p3 := pin1 x2
  have p4 := pin2 x2
  have a2 : σ1.1 2 = nI 0 := by
    rw [← p2, (nf_X _).2 2 (by omega)]
    exact nI_0.symm
  have a20 : σ1.1 20 = nI 0 := by
    rw [← p2, (nf_X _).2 20 (by omega)]
    exact nI_0.symm
  have a31 : σ2.1 31 = nI 0 := by
    rw [← p4]
    exact nI_0.symm
  have a32 : σ2.1 32 = nI 0 := by
    rw [← p4]
    exact nI_0.symm
  refine ⟨⟨⟨0, by omega, (f2.1 2 rfl).trans a2, a31, fun r h => absurd h (Nat.not_lt_zero _)⟩, ⟨0, by omega, (f2.1 20 rfl).trans a20, a32, fun r h => absurd h (Nat.not_lt_zero _)⟩⟩, ?_⟩
  rw [← p1, ← p3, e1, e3]
theorem word_X {σ : ST} {R W : Nat} (h : σ.1 2 = nI R) (hR : R ≤ 48) (hw : σ.1 20 = nI W) (hW : W ≤ 12) (a b : Int32) : ∃ τ, fX11_word_0 a b σ = (if AR a b R then (if W < 12 then nI W else -3) else -1, τ) ∧ τ.1 20 = nI (if AR a b R ∧ W < 12 then W + 1 else W) ∧ τ.2.2 52 = (if AR a b R ∧ W < 12 then upd (σ.2.2 52) W a else σ.2.2 52) ∧ τ.2.2 53 = (if AR a b R ∧ W < 12 then upd (σ.2.2 53) W b else σ.2.2 53) := by
  have i0 : (nI W).toNatClampNeg = W := nI_clamp (by omega)
  generalize hx : fX11_word_0 a b σ = x
  simp only [fX11_word_0, fX11_word_0b0, fX11_word_0b9, fX11_word_0b21, fX11_word_0b22, fX10_add_0, fX10_add_0b0, fX10_add_0b9, fX10_add_0b12, bd, bp, areRows_X h hR, ite01] at hx
  by_cases c1 : AR a b R
  · rw [if_neg (fun q => q c1)] at hx
    by_cases c2 : W < 12
    · simp only [hw, if_pos (show nI W < 12 from (nI_ltI (a := W) (b := 12) (by omega) (by omega)).mpr c2), sA_1, i0, n_add1, sI_eq] at hx
      subst hx
      rw [if_pos c1, if_pos c2, if_pos (show AR a b R ∧ W < 12 from ⟨c1, c2⟩), if_pos (show AR a b R ∧ W < 12 from ⟨c1, c2⟩), if_pos (show AR a b R ∧ W < 12 from ⟨c1, c2⟩)]
      exact ⟨_, congrArg (fun z => (z, _)) (pk_sub (a := W + 1) (b := 1) (by omega)), rfl, rfl, rfl⟩
    · simp only [hw, if_neg (show ¬ nI W < 12 from fun q => c2 ((nI_ltI (a := W) (b := 12) (by omega) (by omega)).mp q))] at hx
      subst hx
      rw [if_pos c1, if_neg c2, if_neg (show ¬ (AR a b R ∧ W < 12) from fun q => c2 q.2), if_neg (show ¬ (AR a b R ∧ W < 12) from fun q => c2 q.2), if_neg (show ¬ (AR a b R ∧ W < 12) from fun q => c2 q.2)]
      exact ⟨_, rfl, hw, rfl, rfl⟩
  · rw [if_pos c1] at hx
    subst hx
    rw [if_neg c1, if_neg (show ¬ (AR a b R ∧ W < 12) from fun q => c1 q.1), if_neg (show ¬ (AR a b R ∧ W < 12) from fun q => c1 q.1), if_neg (show ¬ (AR a b R ∧ W < 12) from fun q => c1 q.1)]
    exact ⟨_, rfl, hw, rfl, rfl⟩
theorem word_M {σ : ST} {R W : Nat} (h : σ.1 31 = nI R) (hR : R ≤ 48) (hw : σ.1 32 = nI W) (hW : W ≤ 12) (a b : Int32) : ∃ τ, fX12_word_0 a b σ = (if AR a b R then (if W < 12 then nI W else -3) else -1, τ) ∧ τ.1 32 = nI (if AR a b R ∧ W < 12 then W + 1 else W) ∧ τ.2.2 72 = (if AR a b R ∧ W < 12 then upd (σ.2.2 72) W a else σ.2.2 72) ∧ τ.2.2 73 = (if AR a b R ∧ W < 12 then upd (σ.2.2 73) W b else σ.2.2 73) := by
  have i0 : (nI W).toNatClampNeg = W := nI_clamp (by omega)
  generalize hx : fX12_word_0 a b σ = x
  simp only [fX12_word_0, fX12_word_0b0, fX12_word_0b9, fX12_word_0b11, fX12_word_0b20, fX12_word_0b23, bd, bp, areRows_M h hR, ite01] at hx
  by_cases c1 : AR a b R
  · rw [if_neg (fun q => q c1)] at hx
    by_cases c2 : W < 12
    · simp only [hw, if_neg (show ¬ nI W = 12 from fun q => absurd (y_eq (a := W) (b := 12) (by omega) (by omega) q) (by omega)), sA_1, i0, n_add1, sI_eq] at hx
      subst hx
      rw [if_pos c1, if_pos c2, if_pos (show AR a b R ∧ W < 12 from ⟨c1, c2⟩), if_pos (show AR a b R ∧ W < 12 from ⟨c1, c2⟩), if_pos (show AR a b R ∧ W < 12 from ⟨c1, c2⟩)]
      exact ⟨_, congrArg (fun z => (z, _)) (pk_sub (a := W + 1) (b := 1) (by omega)), rfl, rfl, rfl⟩
    · obtain rfl : W = 12 := by omega
      simp only [hw] at hx
      rw [if_pos (show nI 12 = 12 from rfl)] at hx
      subst hx
      rw [if_pos c1, if_neg c2, if_neg (show ¬ (AR a b R ∧ 12 < 12) from fun q => c2 q.2), if_neg (show ¬ (AR a b R ∧ 12 < 12) from fun q => c2 q.2), if_neg (show ¬ (AR a b R ∧ 12 < 12) from fun q => c2 q.2)]
      exact ⟨_, rfl, hw, rfl, rfl⟩
  · rw [if_pos c1] at hx
    subst hx
    rw [if_neg c1, if_neg (show ¬ (AR a b R ∧ W < 12) from fun q => c1 q.1), if_neg (show ¬ (AR a b R ∧ W < 12) from fun q => c1 q.1), if_neg (show ¬ (AR a b R ∧ W < 12) from fun q => c1 q.1)]
    exact ⟨_, rfl, hw, rfl, rfl⟩
theorem jr_word {σ σ1 σ2 : ST} {a b r1 r2 : Int32} (hJ : JRW σ) (_hI : INV σ) (x1 : fX11_word_0 a b σ = (r1, σ1)) (_hI1 : INV σ1) (f1 : Fr [(20, 20)] [(52, 53)] σ σ1) (x2 : fX12_word_0 a b σ1 = (r2, σ2)) (_hI2 : INV σ2) (f2 : Fr [(32, 32)] [(72, 73)] σ1 σ2) : JRW σ2 ∧ r1 = r2 := by
  obtain ⟨hRR, W, hW, w1, w2, hw⟩ := hJ
  have s2 := (hRR.same (f1.SR rfl)).same (f2.SR rfl)
  obtain ⟨R, hR, e1, e2, hr⟩ := hRR
  obtain ⟨τ, y0, y1, y2, y3⟩ := word_X e1 hR w1 hW a b
  obtain ⟨τ2, z0, z1, z2, z3⟩ := word_M ((f1.1 31 rfl).trans e2) hR ((f1.1 32 rfl).trans w2) hW a b
  rw [y0] at x1
  rw [z0] at x2
  have p1 := pin1 x1
  have p2 := pin2 x1
  have p3 := pin1 x2
  have p4 := pin2 x2
  subst p2
  subst p4
  rw [show τ.2.2 72 = σ.2.2 72 from f1.2 72 rfl] at z2
  rw [show τ.2.2 73 = σ.2.2 73 from f1.2 73 rfl] at z3
  rw [← show τ2.1 20 = τ.1 20 from f2.1 20 rfl] at y1
  rw [← show τ2.2.2 52 = τ.2.2 52 from f2.2 52 rfl] at y2
  rw [← show τ2.2.2 53 = τ.2.2 53 from f2.2 53 rfl] at y3
  refine ⟨⟨s2, ?_⟩, p1.symm.trans p3⟩
  by_cases c : AR a b R ∧ W < 12
  · rw [if_pos c] at y1 y2 y3 z1 z2 z3
    refine ⟨W + 1, by omega, y1, z1, fun w hw' => ?_⟩
    rw [y2, y3, z2, z3]
    by_cases d : w = W
    · subst d
      rw [pk_us, pk_us, pk_us, pk_us]
      exact ⟨rfl, rfl⟩
    · rw [pk_un d, pk_un d, pk_un d, pk_un d]
      exact hw w (by omega)
  · rw [if_neg c] at y1 y2 y3 z1 z2 z3
    refine ⟨W, hW, y1, z1, fun w hw' => ?_⟩
    rw [y2, y3, z2, z3]
    exact hw w hw'
