/-! the relation of both sides' texts and rules -/
def JT (σ : ST) : Prop := ∃ t T, TX σ t T ∧ TM σ t T
def JU (σ : ST) : Prop := ∀ k, k < 6 → ∃ v, v ≤ MX k ∧ σ.2.2 1 k = nI v ∧ σ.2.2 66 k = nI v
abbrev JTU (σ : ST) : Prop := JT σ ∧ JU σ
theorem JT.same {σ τ : ST} (h : JT σ) (e0 : τ.1 0 = σ.1 0) (e25 : τ.1 25 = σ.1 25) (a0 : τ.2.2 0 = σ.2.2 0) (a67 : τ.2.2 67 = σ.2.2 67) : JT τ := by
  obtain ⟨t, T, hx, hm⟩ := h
  refine ⟨t, T, ⟨e0.trans hx.1, hx.2.1, ?_⟩, ⟨e25.trans hm.1, hm.2.1, ?_⟩⟩
  · rw [a0]
    exact hx.2.2
  · rw [a67]
    exact hm.2.2
theorem JU.same {σ τ : ST} (h : JU σ) (a1 : τ.2.2 1 = σ.2.2 1) (a66 : τ.2.2 66 = σ.2.2 66) : JU τ := by
  intro k hk
  rw [a1, a66]
  exact h k hk
theorem JTU.fr {I A : List (Nat × Nat)} {σ τ : ST} (h : JTU σ) (f : Fr I A σ τ) (hh : ([0, 25].all (fun k => !inR I k) && [0, 67, 1, 66].all (fun k => !inR A k)) = true) : JTU τ := by
  simp only [List.all_cons, List.all_nil, Bool.and_true, Bool.and_eq_true, Bool.not_eq_true'] at hh
  obtain ⟨⟨h1, h2⟩, h3, h4, h5, h6⟩ := hh
  exact ⟨h.1.same (f.1 _ h1) (f.1 _ h2) (f.2 _ h3) (f.2 _ h4), h.2.same (f.2 _ h5) (f.2 _ h6)⟩
theorem JTU.start : JTU σ0 := by
  refine ⟨⟨fun _ => 0, 0, ⟨rfl, by omega, fun j h => absurd h (Nat.not_lt_zero _)⟩, ⟨rfl, by omega, fun j h => absurd h (Nat.not_lt_zero _)⟩⟩, fun k hk => ?_⟩
  rcases (show k = 0 ∨ k = 1 ∨ k = 2 ∨ k = 3 ∨ k = 4 ∨ k = 5 by omega) with rfl | rfl | rfl | rfl | rfl | rfl
  · exact ⟨20, by decide, rfl, rfl⟩
  · exact ⟨10, by decide, rfl, rfl⟩
  · exact ⟨40, by decide, rfl, rfl⟩
  · exact ⟨0, by decide, rfl, rfl⟩
  · exact ⟨0, by decide, rfl, rfl⟩
  · exact ⟨10, by decide, rfl, rfl⟩
theorem ju_clear {σ σ1 σ2 : ST} {r1 r2 : Int32} (hJ : JTU σ) (_hI : INV σ) (x1 : fX11_clear_0 σ = (r1, σ1)) (_hI1 : INV σ1) (f1 : Fr [(0, 0)] [] σ σ1) (x2 : fX12_clear_0 σ1 = (r2, σ2)) (_hI2 : INV σ2) (f2 : Fr [(25, 25)] [] σ1 σ2) : JTU σ2 ∧ r1 = r2 := by
  obtain ⟨⟨t, T, hx, hm⟩, hU⟩ := hJ
  simp only [fX11_clear_0, fX11_clear_0b0, bd_e] at x1
  simp only [fX12_clear_0, fX12_clear_0b0, bd_e] at x2
  have p1 := pin1 x1
  have p2 := pin2 x1
  have p3 := pin1 x2
  have p4 := pin2 x2
  have e0 : σ1.1 0 = nI 0 := by
    rw [← p2, nI_0]
    rfl
  have e25 : σ2.1 25 = nI 0 := by
    rw [← p4, nI_0]
    rfl
  refine ⟨⟨⟨t, 0, ⟨(f2.1 0 rfl).trans e0, by omega, fun j h => absurd h (Nat.not_lt_zero _)⟩, ⟨e25, by omega, fun j h => absurd h (Nat.not_lt_zero _)⟩⟩, (hU.same (f1.2 1 rfl) (f1.2 66 rfl)).same (f2.2 1 rfl) (f2.2 66 rfl)⟩, ?_⟩
  rw [← p1, ← p3, hx.1, show σ1.1 25 = σ.1 25 from f1.1 25 rfl, hm.1]
abbrev TYi (x : Int32) : Prop := ¬ x < 1 ∧ ¬ 8 < x
theorem TYi.nat {x : Int32} (h : TYi x) : ∃ n : Nat, x = nI n ∧ 1 ≤ n ∧ n ≤ 8 := by
  have h0 : ¬ x < 0 := fun q => by
    have h1 := h.1
    rw [Int32.lt_iff_toInt_lt] at h1 q
    have z0 : (0 : Int32).toInt = 0 := rfl
    have z1 : (1 : Int32).toInt = 1 := rfl
    omega
  obtain ⟨n, hn, e⟩ := nI_of h0
  subst e
  exact ⟨n, rfl, y_nlt (a := n) (b := 1) hn (by omega) h.1, y_nlt (a := 8) (b := n) (by omega) hn h.2⟩
theorem type_X (v : Int64) (a : Int32) (σ : ST) : fX11_type_0 v a σ = if TYi a then (if (fX8_append_0 v a σ).1 = 0 then (-3, (fX8_append_0 v a σ).2) else ((fX8_append_0 v a σ).2.1 0, (fX8_append_0 v a σ).2)) else (-1, σ) := by
  simp only [fX11_type_0, fX11_type_0b0, fX11_type_0b10, fX11_type_0b12, fX11_type_0b24, fX11_type_0b34, fX11_type_0b36, bd_e, bp_e, within_X, ite01]
  by_cases h1 : TYi a
  · rw [if_neg (fun q => q h1), if_pos h1]
  · rw [if_pos h1, if_neg h1]
theorem append_X {v : Int64} {n T : Nat} {σ : ST} (h : σ.1 0 = nI T) (hT : T ≤ 200) (hn : n ≤ 8) : fX8_append_0 v (nI n) σ = if T + n ≤ 200 then fX8_append_0l23 4096 v (nI n - 1) σ else (0, σ) := by
  simp only [fX8_append_0, fX8_append_0b0, fX8_append_0b4, fX8_append_0b18, fX8_append_0b23, fX8_append_0b28, fX8_append_0b65, fX8_append_0b16, bd_e, h]
  rw [if_neg (nI_pos (n := n) (by omega)), show 200 - nI T = nI (200 - T) from pk_sub (a := 200) (b := T) hT]
  simp only [leN (a := n) (b := 200 - T) (by omega) (by omega)]
  by_cases c : T + n ≤ 200
  · rw [if_pos (show n ≤ 200 - T by omega), if_pos c]
  · rw [if_neg (show ¬ n ≤ 200 - T by omega), if_neg c]
theorem type_M (v : Int64) (a : Int32) (σ : ST) : fX12_type_0 v a σ = if TYi a then (if σ.1 25 + a ≤ 200 then fX12_type_0l32 4096 v (a - 1) σ else (-3, σ)) else (-1, σ) := by
  simp only [fX12_type_0, fX12_type_0b0, fX12_type_0b10, fX12_type_0b12, fX12_type_0b24, fX12_type_0b27, fX12_type_0b32, fX12_type_0b37, fX12_type_0b75, bd_e, bp_e, in_M, ite01]
  by_cases h1 : TYi a
  · rw [if_neg (fun q => q h1), if_pos h1]
  · rw [if_pos h1, if_neg h1]
theorem ju_type {σ σ1 σ2 : ST} {v : Int64} {a r1 r2 : Int32} (hJ : JTU σ) (_hI : INV σ) (x1 : fX11_type_0 v a σ = (r1, σ1)) (_hI1 : INV σ1) (f1 : Fr [(0, 0)] [(0, 0)] σ σ1) (x2 : fX12_type_0 v a σ1 = (r2, σ2)) (_hI2 : INV σ2) (f2 : Fr [(25, 25)] [(67, 67)] σ1 σ2) : JTU σ2 ∧ r1 = r2 := by
  obtain ⟨⟨t, T, hx, hm⟩, hU⟩ := hJ
  have hT := hx.2.1
  have u2 := (hU.same (f1.2 1 rfl) (f1.2 66 rfl)).same (f2.2 1 rfl) (f2.2 66 rfl)
  have m25 : σ1.1 25 = nI T := (f1.1 25 rfl).trans hm.1
  have m67 : σ1.2.2 67 = σ.2.2 67 := f1.2 67 rfl
  have done : ∀ x : Int32, (x, σ) = (r1, σ1) → (x, σ1) = (r2, σ2) → JTU σ2 ∧ r1 = r2 := by
    intro x y1 y2
    have q1 := pin2 y1
    have q2 := pin2 y2
    subst q1
    subst q2
    exact ⟨⟨⟨t, T, hx, hm⟩, hU⟩, (pin1 y1).symm.trans (pin1 y2)⟩
  rw [type_X] at x1
  rw [type_M] at x2
  by_cases c1 : TYi a
  · rw [if_pos c1] at x1 x2
    obtain ⟨n, rfl, hn1, hn8⟩ := c1.nat
    rw [append_X hx.1 hT hn8] at x1
    rw [m25, nI_add] at x2
    simp only [show nI (T + n) ≤ 200 ↔ T + n ≤ 200 from leN (b := 200) (by omega) (by omega)] at x2
    by_cases c2 : T + n ≤ 200
    · rw [if_pos c2] at x1 x2
      obtain ⟨τ, y0, y1, y2, y3⟩ := app_X (v := v) 4096 σ T n hx.1 c2 hn8 (by omega)
      obtain ⟨τ2, z0, z1, z2, z3⟩ := app_M (v := v) 4096 σ1 T n m25 c2 hn8 (by omega)
      rw [y0, if_neg (show ¬ ((1 : Int32), τ).1 = 0 from (by decide : ¬ (1 : Int32) = 0))] at x1
      rw [z0] at x2
      have p1 := pin1 x1
      have p2 := pin2 x1
      have p3 := pin1 x2
      have p4 := pin2 x2
      subst p2
      subst p4
      refine ⟨⟨⟨tyT t v T n, T + n, ⟨(f2.1 0 rfl).trans y1, c2, fun j hj => ?_⟩, ⟨z1, c2, fun j hj => ?_⟩⟩, u2⟩, p1.symm.trans (y1.trans p3)⟩
      · rw [show τ2.2.2 0 = τ.2.2 0 from f2.2 0 rfl]
        unfold tyT
        rcases Nat.lt_or_ge j T with c3 | c3
        · rw [if_pos c3, y2 j c3]
          exact hx.2.2 j c3
        · rw [if_neg (by omega), y3 j c3 hj]
          exact ⟨rfl, (bt_spec v (i := n - 1 - (j - T)) (by omega)).1⟩
      · unfold tyT
        rcases Nat.lt_or_ge j T with c3 | c3
        · rw [if_pos c3, z2 j c3, m67]
          exact hm.2.2 j c3
        · rw [if_neg (by omega), z3 j c3 hj]
          exact ⟨rfl, (bt_spec v (i := n - 1 - (j - T)) (by omega)).1⟩
    · rw [if_neg c2] at x1 x2
      rw [if_pos rfl] at x1
      exact done (-3) x1 x2
  · rw [if_neg c1] at x1 x2
    exact done (-1) x1 x2
theorem neg10 {a : Nat} (ha : a ≤ 200) : (-10 : Int32) - nI a < 0 := by
  rw [Int32.lt_iff_toInt_lt, Int32.toInt_sub, nI_toInt (by omega)]
  show ((-10 : Int) - (a : Int)).bmod (2 ^ 32) < 0
  rw [Int.bmod_eq_of_le (by omega) (by omega)]
  omega
theorem rules_X (σ : ST) : fX11_rules_0 σ = ((fX8_read_0 σ).1, if (fX8_read_0 σ).1 < 0 then (fX8_read_0 σ).2 else fX11_nothingIsFound_0 (fX8_read_0 σ).2) := by
  simp only [fX11_rules_0, fX11_rules_0b0, fX11_rules_0b12, fX11_rules_0b16, bd_e, bp_e]
  by_cases c : (fX8_read_0 σ).1 < 0
  · rw [if_pos c, if_pos c]
  · rw [if_neg c, if_neg c]
theorem ju_rules {σ σ1 σ2 : ST} {r1 r2 : Int32} (hJ : JTU σ) (_hI : INV σ) (x1 : fX11_rules_0 σ = (r1, σ1)) (_hI1 : INV σ1) (f1 : Fr [(0, 1), (22, 24)] [(1, 2)] σ σ1) (x2 : fX12_rules_0 σ1 = (r2, σ2)) (_hI2 : INV σ2) (f2 : Fr [(25, 30)] [(66, 66)] σ1 σ2) : JTU σ2 := by
  obtain ⟨⟨t, T, hx, hm⟩, hU⟩ := hJ
  have hT := hx.2.1
  have hm1 : TM σ1 t T := ⟨(f1.1 25 rfl).trans hm.1, hT, by rw [show σ1.2.2 67 = σ.2.2 67 from f1.2 67 rfl]; exact hm.2.2⟩
  have htd : ∀ k, k < 6 → (fun j : Nat => if j < 6 then (-1 : Int32) else σ.2.2 2 j) k = -1 := fun k hk => if_pos hk
  have rX := read_X hx
  have rM := rules_M hm1 htd
  rw [x2] at rM
  have p1 := x1
  rw [rules_X] at p1
  have q1 := pin2 p1
  have b66 : σ1.2.2 66 = σ.2.2 66 := f1.2 66 rfl
  have b1 : σ2.2.2 1 = σ1.2.2 1 := f2.2 1 rfl
  have b0 : σ2.1 0 = σ1.1 0 := f2.1 0 rfl
  have hv0 : TdV (fun j : Nat => if j < 6 then (-1 : Int32) else σ.2.2 2 j) := fun k hk => Or.inl (htd k hk)
  rcases rX with ⟨m, td', g1, g2, g3, g4, g5⟩ | ⟨g1, a, ha, g2, g3, g4⟩
  · have g1' := (POk_eq 300 0 _ _ _ _ (Nat.zero_le T)).mp g1
    have hv := g1.val _ _ _ _ _ _ hv0
    rcases rM with ⟨m2, td2, k1, k2, k3, k4⟩ | ⟨k1, _⟩
    · have e := (POk.un _ _ _ _ _ _ _ _ g1' k1).2
      subst e
      rw [g2, if_neg (nI_pos (by omega))] at q1
      have n1 := nf_X (fX8_read_0 σ).2
      have e0 : σ1.1 0 = nI 0 := by
        rw [← q1, n1.2 0 (by omega), g4]
        exact nI_0.symm
      refine ⟨⟨t, 0, ⟨b0.trans e0, by omega, fun j h => absurd h (Nat.not_lt_zero _)⟩, ⟨k3.trans nI_0.symm, by omega, fun j h => absurd h (Nat.not_lt_zero _)⟩⟩, fun k hk => ?_⟩
      have w1 : σ2.2.2 1 k = if td' k = -1 then nI (DFT k) else td' k := by
        rw [b1, ← q1, n1.1]
        exact g5 k hk
      have w2 : σ2.2.2 66 k = if td' k = -1 then nI (DFT k) else td' k := k4 k hk
      rcases hv k hk with c | ⟨v, c1, c2⟩
      · rw [if_pos c] at w1 w2
        exact ⟨DFT k, (tab1_MX hk).2.2.2, w1, w2⟩
      · have := (tab1_MX hk).2.1
        rw [c2, if_neg (neg1_nI (by omega))] at w1 w2
        exact ⟨v, c1, w1, w2⟩
    · exact absurd g1' (k1 m td')
  · rcases rM with ⟨m2, td2, k1, k2, k3, k4⟩ | ⟨k1, _, k3, k4⟩
    · exact absurd ((POk_eq 300 0 _ _ _ _ (Nat.zero_le T)).mpr k1) (g1 m2 td2)
    · rw [g2, if_pos (neg10 (by omega))] at q1
      refine ⟨⟨t, T, ⟨by rw [b0, ← q1, g3]; exact hx.1, hT, fun j hj => ?_⟩, ⟨k3.trans hm1.1, hT, fun j hj => ?_⟩⟩, fun k hk => ?_⟩
      · rw [show σ2.2.2 0 = σ1.2.2 0 from f2.2 0 rfl, show σ1.2.2 0 = σ.2.2 0 from f1.2 0 rfl]
        exact hx.2.2 j hj
      · rw [show σ2.2.2 67 = σ1.2.2 67 from f2.2 67 rfl]
        exact hm1.2.2 j hj
      · rw [b1, ← q1, g4, k4 k hk, b66]
        exact hU k hk
theorem ju_rule {σ : ST} {a r1 r2 : Int32} (hJ : JTU σ) (x1 : fX11_rule_0 a σ = r1) (x2 : fX12_rule_0 a σ = r2) : r1 = r2 := by
  simp only [fX11_rule_0, fX11_rule_0b0, fX11_rule_0b9, fX11_rule_0b20, fX11_rule_0b21, fX8_ruleNow_0, fX8_ruleNow_0b0, fX8_ruleNow_0b4, fX8_ruleNow_0b10, fX8_ruleNow_0b19, fX8_ruleNow_0b20, bd_e, within_X, ite01] at x1
  simp only [fX12_rule_0, fX12_rule_0b0, fX12_rule_0b9, fX12_rule_0b18, fX12_rule_0b19, bd_e, in_M, ite01] at x2
  by_cases c : ¬ a < 0 ∧ ¬ 5 < a
  · rw [if_neg (fun q => q c)] at x1 x2
    obtain ⟨n, hn, e⟩ := nI_of c.1
    subst e
    have h5 : n ≤ 5 := y_nlt (a := 5) (b := n) (by omega) hn c.2
    rw [if_neg c.1, if_neg (show ¬ 6 ≤ nI n from fun q => absurd ((leN (a := 6) (by omega) (by omega)).mp q) (by omega)), nI_clamp (by omega)] at x1
    rw [nI_clamp (by omega)] at x2
    obtain ⟨v, _, v1, v2⟩ := hJ.2 n (by omega)
    rw [← x1, ← x2, v1, v2]
  · rw [if_pos c] at x1 x2
    exact x1.symm.trans x2
