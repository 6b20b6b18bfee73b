theorem beq_f {a b : Nat} (h : a ≠ b) : Nat.beq a b = false := by
  cases c : Nat.beq a b
  · rfl
  · exact absurd (Nat.eq_of_beq_eq_true c) h
theorem addRow_X {τ : ST} {R : Nat} (h : τ.1 2 = nI R) (hR : R < 48) (a b c d : Int32) : ∃ τ', fX7_addRow_0 a b c d τ = (nI R, τ') ∧ τ'.1 2 = nI (R + 1) ∧ τ'.2.2 4 = upd (upd (τ.2.2 4) R 1) R 0 ∧ τ'.2.2 5 = upd (τ.2.2 5) R 0 ∧ τ'.2.2 6 = upd (τ.2.2 6) R 0 ∧ τ'.2.2 3 = upd (upd (upd (upd (τ.2.2 3) (R * 4) a) (R * 4 + 1) b) (R * 4 + 2) c) (R * 4 + 3) d := by
  obtain ⟨τ', y, y1, y2, y3, y4, y5⟩ := addDeaf_X h hR
  have i0 : (nI R).toNatClampNeg = R := nI_clamp (by omega)
  have i1 : (nI (R * 4)).toNatClampNeg = R * 4 := nI_clamp (by omega)
  have i2 : (nI (R * 4 + 1)).toNatClampNeg = R * 4 + 1 := nI_clamp (by omega)
  have i3 : (nI (R * 4 + 2)).toNatClampNeg = R * 4 + 2 := nI_clamp (by omega)
  have i4 : (nI (R * 4 + 3)).toNatClampNeg = R * 4 + 3 := nI_clamp (by omega)
  generalize hx : fX7_addRow_0 a b c d τ = x
  simp only [fX7_addRow_0, fX7_addRow_0b0, fX7_addRow_0b11, fX7_addRow_0b66, bd, bp, y, if_neg (nI_pos (n := R) (by omega)), i0, n_mul4, n_add1, n_add2, n_add3, i1, i2, i3, i4, nar0] at hx
  subst hx
  refine ⟨_, rfl, y1, ?_, y3, y4, ?_⟩
  · show upd (τ'.2.2 4) R 0 = _
    rw [y2]
  · show upd (upd (upd (upd (τ'.2.2 3) (R * 4) a) (R * 4 + 1) b) (R * 4 + 2) c) (R * 4 + 3) d = _
    rw [y5]
theorem addRow_M {τ : ST} {R : Nat} (h : τ.1 31 = nI R) (hR : R < 48) (a b c d e : Int32) : (fX12_addRow_0 a b c d e τ).1 31 = nI (R + 1) ∧ (fX12_addRow_0 a b c d e τ).2.2 69 = upd (τ.2.2 69) R (vp_nar .boolean e) ∧ (fX12_addRow_0 a b c d e τ).2.2 70 = upd (τ.2.2 70) R 0 ∧ (fX12_addRow_0 a b c d e τ).2.2 71 = upd (τ.2.2 71) R 0 ∧ (fX12_addRow_0 a b c d e τ).2.2 68 = upd (upd (upd (upd (τ.2.2 68) (4 * R) a) (4 * R + 1) b) (4 * R + 2) c) (4 * R + 3) d := by
  have i0 : (nI R).toNatClampNeg = R := nI_clamp (by omega)
  have i1 : (nI (4 * R)).toNatClampNeg = 4 * R := nI_clamp (by omega)
  have i2 : (nI (4 * R + 1)).toNatClampNeg = 4 * R + 1 := nI_clamp (by omega)
  have i3 : (nI (4 * R + 2)).toNatClampNeg = 4 * R + 2 := nI_clamp (by omega)
  have i4 : (nI (4 * R + 3)).toNatClampNeg = 4 * R + 3 := nI_clamp (by omega)
  generalize hx : fX12_addRow_0 a b c d e τ = x
  simp only [fX12_addRow_0, fX12_addRow_0b0, bd, bp, h, sA_1, i0, n_4mul, n_add1, n_add2, n_add3, i1, i2, i3, i4, nar0] at hx
  subst hx
  exact ⟨rfl, rfl, rfl, rfl, rfl⟩
theorem nf_X (σ : ST) : (fX11_nothingIsFound_0 σ).2.2 = σ.2.2 ∧ (∀ k, k < 22 → (fX11_nothingIsFound_0 σ).1 k = σ.1 k) := by
  generalize hx : fX11_nothingIsFound_0 σ = x
  simp only [fX11_nothingIsFound_0, fX11_nothingIsFound_0b0, bd] at hx
  subst hx
  refine ⟨rfl, fun k hk => ?_⟩
  rw [sI_ne _ _ (beq_f (show k ≠ 24 by omega)), sI_ne _ _ (beq_f (show k ≠ 23 by omega)), sI_ne _ _ (beq_f (show k ≠ 22 by omega))]
/-- a row that was there stays as it was -/
theorem RowEq.keep {σ τ : ST} {r : Nat} (h : RowEq σ r) (a4 : τ.2.2 4 r = σ.2.2 4 r) (a5 : τ.2.2 5 r = σ.2.2 5 r) (a6 : τ.2.2 6 r = σ.2.2 6 r) (a69 : τ.2.2 69 r = σ.2.2 69 r) (a70 : τ.2.2 70 r = σ.2.2 70 r) (a71 : τ.2.2 71 r = σ.2.2 71 r) (a3 : ∀ i, i < 4 → τ.2.2 3 (4 * r + i) = σ.2.2 3 (4 * r + i)) (a68 : ∀ i, i < 4 → τ.2.2 68 (4 * r + i) = σ.2.2 68 (4 * r + i)) : RowEq τ r := by
  obtain ⟨h1, h2, h3, h4, h5, h6⟩ := h
  unfold RowEq
  rw [a4, a5, a6, a69, a70, a71]
  refine ⟨h1, h2, h3, h4, h5, fun q i hi => ?_⟩
  rw [a3 i hi, a68 i hi]
  exact h6 q i hi
theorem upd4_lo {f : Nat → Int32} {x1 x2 x3 x4 : Int32} {k j : Nat} (h : j < k) : upd (upd (upd (upd f k x1) (k + 1) x2) (k + 2) x3) (k + 3) x4 j = f j := by
  rw [pk_un (by omega), pk_un (by omega), pk_un (by omega), pk_un (by omega)]
theorem upd4_at {f : Nat → Int32} {x1 x2 x3 x4 : Int32} {k i : Nat} (h : i < 4) : upd (upd (upd (upd f k x1) (k + 1) x2) (k + 2) x3) (k + 3) x4 (k + i) = if i = 0 then x1 else if i = 1 then x2 else if i = 2 then x3 else x4 := by
  rcases (show i = 0 ∨ i = 1 ∨ i = 2 ∨ i = 3 by omega) with rfl | rfl | rfl | rfl
  · rw [pk_un (by omega), pk_un (by omega), pk_un (by omega), Nat.add_zero, pk_us, if_pos rfl]
  · rw [pk_un (by omega), pk_un (by omega), pk_us, if_neg (by decide), if_pos rfl]
  · rw [pk_un (by omega), pk_us, if_neg (by decide), if_neg (by decide), if_pos rfl]
  · rw [pk_us, if_neg (by decide), if_neg (by decide), if_neg (by decide)]
abbrev JRW (σ : ST) : Prop := JR σ ∧ JW σ
theorem jr_row {σ σ1 σ2 : ST} {a b c d r1 r2 : Int32} (hJ : JRW σ) (_hI : INV σ) (x1 : fX11_row_0 a b c d σ = (r1, σ1)) (_hI1 : INV σ1) (f1 : Fr [(2, 2), (22, 24)] [(3, 6)] σ σ1) (x2 : fX12_row_0 a b c d σ1 = (r2, σ2)) (_hI2 : INV σ2) (f2 : Fr [(31, 31)] [(68, 71)] σ1 σ2) : JRW σ2 ∧ r1 = r2 := by
  obtain ⟨⟨R, hR, e1, e2, hr⟩, hW⟩ := hJ
  have w2 := (hW.same (f1.SW rfl)).same (f2.SW rfl)
  have e3 : σ1.1 31 = nI R := (f1.1 31 rfl).trans e2
  rw [row_X] at x1
  rw [row_M] at x2
  by_cases c1 : LD4 a b c d
  · rw [if_pos c1] at x1 x2
    by_cases c2 : R < 48
    · rw [e1, if_pos (lt48 c2)] at x1
      rw [e3, if_neg (show ¬ nI R = 48 from fun q => absurd (y_eq (a := R) (b := 48) (by omega) (by omega) q) (by omega))] at x2
      have n1 := nf_X σ
      obtain ⟨τ, y0, y1, y2, y3, y4, y5⟩ := addRow_X ((n1.2 2 (by omega)).trans e1) c2 a b c d
      obtain ⟨z1, z2, z3, z4, z5⟩ := addRow_M e3 c2 a b c d 0
      rw [y0] at x1
      have p1 := pin1 x1
      have p2 := pin2 x1
      have p3 := pin1 x2
      have p4 := pin2 x2
      rw [p4] at z1 z2 z3 z4 z5 p3
      rw [n1.1] at y2 y3 y4 y5
      subst p2
      have g2 : σ2.1 2 = τ.1 2 := f2.1 2 rfl
      have g3 : σ2.2.2 3 = τ.2.2 3 := f2.2 3 rfl
      have g4 : σ2.2.2 4 = τ.2.2 4 := f2.2 4 rfl
      have g5 : σ2.2.2 5 = τ.2.2 5 := f2.2 5 rfl
      have g6 : σ2.2.2 6 = τ.2.2 6 := f2.2 6 rfl
      rw [show τ.2.2 69 = σ.2.2 69 from f1.2 69 rfl] at z2
      rw [show τ.2.2 70 = σ.2.2 70 from f1.2 70 rfl] at z3
      rw [show τ.2.2 71 = σ.2.2 71 from f1.2 71 rfl] at z4
      rw [show τ.2.2 68 = σ.2.2 68 from f1.2 68 rfl] at z5
      refine ⟨⟨⟨R + 1, by omega, g2.trans y1, z1, fun r hr' => ?_⟩, w2⟩, ?_⟩
      · rcases Nat.lt_or_ge r R with c3 | c3
        · refine (hr r c3).keep ?_ ?_ ?_ ?_ ?_ ?_ (fun i hi => ?_) (fun i hi => ?_)
          · rw [g4, y2, pk_un (by omega), pk_un (by omega)]
          · rw [g5, y3, pk_un (by omega)]
          · rw [g6, y4, pk_un (by omega)]
          · rw [z2, pk_un (by omega)]
          · rw [z3, pk_un (by omega)]
          · rw [z4, pk_un (by omega)]
          · rw [g3, y5]
            exact upd4_lo (by omega)
          · rw [z5]
            exact upd4_lo (by omega)
        · obtain rfl : r = R := by omega
          unfold RowEq
          rw [g4, y2, g5, y3, g6, y4, z2, z3, z4, pk_us, pk_us, pk_us, pk_us, pk_us, pk_us, nar0]
          refine ⟨Or.inl rfl, rfl, Or.inl rfl, rfl, rfl, fun _ i hi => ?_⟩
          rw [z5, g3, y5, Nat.mul_comm r 4, upd4_at hi, upd4_at hi]
          refine ⟨rfl, ?_⟩
          split
          · exact c1.1
          · split
            · exact c1.2.1
            · split
              · exact c1.2.2.1
              · exact c1.2.2.2
      · rw [← p1, ← p3, z1]
        exact (pk_sub (a := R + 1) (b := 1) (by omega)).symm
    · obtain rfl : R = 48 := by omega
      rw [e1, if_neg (by decide)] at x1
      rw [e3, if_pos (show nI 48 = 48 from rfl)] at x2
      have p2 := pin2 x1
      have p4 := pin2 x2
      subst p2
      subst p4
      exact ⟨⟨⟨48, hR, e1, e2, hr⟩, w2⟩, (pin1 x1).symm.trans (pin1 x2)⟩
  · rw [if_neg c1] at x1 x2
    have p2 := pin2 x1
    have p4 := pin2 x2
    subst p2
    subst p4
    exact ⟨⟨⟨R, hR, e1, e2, hr⟩, w2⟩, (pin1 x1).symm.trans (pin1 x2)⟩
