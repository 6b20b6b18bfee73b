theorem deafX_l {R n : Nat} (hn : R + n ≤ 48) : ∀ (fu : Nat) (τ : ST) (k : Nat), τ.1 2 = nI (R + k) → k ≤ n → n - k < fu → ∃ τ', fX11_deaf_0l35 fu (nI n) (nI k) τ = (nI (R + n), τ') ∧ τ'.1 2 = nI (R + n) ∧ τ'.2.2 4 = putN (τ.2.2 4) 1 (R + k) (n - k) ∧ τ'.2.2 5 = putN (τ.2.2 5) 0 (R + k) (n - k) ∧ τ'.2.2 6 = putN (τ.2.2 6) 0 (R + k) (n - k) ∧ τ'.2.2 3 = τ.2.2 3
  | 0, _, _, _, _, hf => absurd hf (Nat.not_lt_zero _)
  | fu + 1, τ, k, h, hk, hf => by
    show ∃ τ', fX11_deaf_0b35 (fX11_deaf_0l35 fu) (nI n) (nI k) τ = _ ∧ _
    simp only [fX11_deaf_0, fX11_deaf_0b0, fX11_deaf_0b10, fX11_deaf_0b12, fX11_deaf_0b26, fX11_deaf_0b29, fX11_deaf_0b35, fX11_deaf_0b40, fX11_deaf_0b54, bd, bp, h, n_add1]
    by_cases c1 : nI n ≤ nI k
    · have h1 := y_le (by omega) (by omega) c1
      obtain rfl : k = n := by omega
      rw [if_pos c1, Nat.sub_self, putN_0, putN_0, putN_0]
      exact ⟨τ, rfl, h, rfl, rfl, rfl, rfl⟩
    · have h1 := y_nle (by omega) (by omega) c1
      rw [if_neg c1]
      obtain ⟨t1, y0, y1, y2, y3, y4, y5⟩ := addDeaf_X h (by omega)
      rw [y0]
      obtain ⟨τ', z0, z1, z2, z3, z4, z5⟩ := deafX_l hn fu t1 (k + 1) y1 (by omega) (by omega)
      obtain ⟨m, hm⟩ : ∃ m, n - k = m + 1 := ⟨n - k - 1, by omega⟩
      rw [show n - (k + 1) = m by omega, show R + (k + 1) = R + k + 1 by omega] at z2 z3 z4
      rw [y2, putN_step] at z2
      rw [y3, putN_step] at z3
      rw [y4, putN_step] at z4
      rw [hm]
      exact ⟨τ', z0, z1, z2, z3, z4, z5.trans y5⟩
theorem deafM_l {R n : Nat} (hn : R + n ≤ 48) : ∀ (fu : Nat) (τ : ST) (k : Nat), τ.1 31 = nI (R + k) → k ≤ n → n - k < fu → ∃ τ', fX12_deaf_0l28 fu (nI n) (nI k) τ = (nI (R + n), τ') ∧ τ'.1 31 = nI (R + n) ∧ τ'.2.2 69 = putN (τ.2.2 69) 1 (R + k) (n - k) ∧ τ'.2.2 70 = putN (τ.2.2 70) 0 (R + k) (n - k) ∧ τ'.2.2 71 = putN (τ.2.2 71) 0 (R + k) (n - k) ∧ ∀ j, j < 4 * R → τ'.2.2 68 j = τ.2.2 68 j
  | 0, _, _, _, _, hf => absurd hf (Nat.not_lt_zero _)
  | fu + 1, τ, k, h, hk, hf => by
    show ∃ τ', fX12_deaf_0b28 (fX12_deaf_0l28 fu) (nI n) (nI k) τ = _ ∧ _
    simp only [fX12_deaf_0, fX12_deaf_0b0, fX12_deaf_0b10, fX12_deaf_0b12, fX12_deaf_0b23, fX12_deaf_0b26, fX12_deaf_0b28, fX12_deaf_0b33, fX12_deaf_0b48, bd, bp, h, n_add1]
    by_cases c1 : nI n ≤ nI k
    · have h1 := y_le (by omega) (by omega) c1
      obtain rfl : k = n := by omega
      rw [if_pos c1, Nat.sub_self, putN_0, putN_0, putN_0]
      exact ⟨τ, rfl, h, rfl, rfl, rfl, fun _ _ => rfl⟩
    · have h1 := y_nle (by omega) (by omega) c1
      rw [if_neg c1]
      obtain ⟨y1, y2, y3, y4, y5⟩ := addRow_M h (by omega) 0 0 0 0 1
      obtain ⟨τ', z0, z1, z2, z3, z4, z5⟩ := deafM_l hn fu (fX12_addRow_0 0 0 0 0 1 τ) (k + 1) y1 (by omega) (by omega)
      obtain ⟨m, hm⟩ : ∃ m, n - k = m + 1 := ⟨n - k - 1, by omega⟩
      rw [show n - (k + 1) = m by omega, show R + (k + 1) = R + k + 1 by omega] at z2 z3 z4
      rw [y2, nar1, putN_step] at z2
      rw [y3, putN_step] at z3
      rw [y4, putN_step] at z4
      rw [hm]
      refine ⟨τ', z0, z1, z2, z3, z4, fun j hj => ?_⟩
      rw [z5 j hj, y5]
      exact upd4_lo (by omega)
abbrev DFi (x : Int32) : Prop := ¬ x < 1 ∧ ¬ 9 < x
theorem DFi.nat {x : Int32} (h : DFi x) : ∃ n : Nat, x = nI n ∧ 1 ≤ n ∧ n ≤ 9 := by
  have h0 : ¬ x < 0 := fun q => by
    have h1 := h.1
    rw [Int32.lt_iff_toInt_lt] at h1 q
    have z0 : (0 : Int32).toInt = 0 := rfl
    have z1 : (1 : Int32).toInt = 1 := rfl
    omega
  obtain ⟨n, hn, e⟩ := nI_of h0
  subst e
  exact ⟨n, rfl, y_nlt (a := n) (b := 1) hn (by omega) h.1, y_nlt (a := 9) (b := n) (by omega) hn h.2⟩
theorem deaf_X (a : Int32) (σ : ST) : fX11_deaf_0 a σ = if DFi a then (if σ.1 2 + a ≤ 48 then fX11_deaf_0l35 4096 a 0 (fX11_nothingIsFound_0 σ) else (-3, σ)) else (-1, σ) := by
  simp only [fX11_deaf_0, fX11_deaf_0b0, fX11_deaf_0b10, fX11_deaf_0b12, fX11_deaf_0b26, fX11_deaf_0b29, fX11_deaf_0b35, fX11_deaf_0b40, fX11_deaf_0b54, bd, bp, within_X, ite01]
  by_cases h1 : DFi a
  · rw [if_neg (fun q => q h1), if_pos h1]
  · rw [if_pos h1, if_neg h1]
theorem deaf_M (a : Int32) (σ : ST) : fX12_deaf_0 a σ = if DFi a then (if σ.1 31 + a ≤ 48 then fX12_deaf_0l28 4096 a 0 σ else (-3, σ)) else (-1, σ) := by
  simp only [fX12_deaf_0, fX12_deaf_0b0, fX12_deaf_0b10, fX12_deaf_0b12, fX12_deaf_0b23, fX12_deaf_0b26, fX12_deaf_0b28, fX12_deaf_0b33, fX12_deaf_0b48, bd, bp, in_M, ite01]
  by_cases h1 : DFi a
  · rw [if_neg (fun q => q h1), if_pos h1]
  · rw [if_pos h1, if_neg h1]
theorem jr_deaf {σ σ1 σ2 : ST} {a r1 r2 : Int32} (hJ : JRW σ) (_hI : INV σ) (x1 : fX11_deaf_0 a σ = (r1, σ1)) (_hI1 : INV σ1) (f1 : Fr [(2, 2), (22, 24)] [(4, 6)] σ σ1) (x2 : fX12_deaf_0 a σ1 = (r2, σ2)) (_hI2 : INV σ2) (f2 : Fr [(31, 31)] [(68, 71)] σ1 σ2) : JRW σ2 ∧ r1 = r2 := by
  obtain ⟨⟨R, hR, e1, e2, hr⟩, hW⟩ := hJ
  have w2 := (hW.same (f1.SW rfl)).same (f2.SW rfl)
  have e3 : σ1.1 31 = nI R := (f1.1 31 rfl).trans e2
  rw [deaf_X] at x1
  rw [deaf_M] at x2
  by_cases c1 : DFi a
  · rw [if_pos c1] at x1 x2
    obtain ⟨n, rfl, hn1, hn9⟩ := c1.nat
    rw [e1, nI_add] at x1
    rw [e3, nI_add] at x2
    by_cases c2 : R + n ≤ 48
    · rw [if_pos (show nI (R + n) ≤ 48 from nI_le (b := 48) c2 (by omega))] at x1 x2
      have n1 := nf_X σ
      obtain ⟨τ, y0, y1, y2, y3, y4, y5⟩ := deafX_l c2 4096 (fX11_nothingIsFound_0 σ) 0 ((n1.2 2 (by omega)).trans e1) (by omega) (by omega)
      obtain ⟨τ2, z0, z1, z2, z3, z4, z5⟩ := deafM_l c2 4096 σ1 0 e3 (by omega) (by omega)
      rw [nI_0] at y0 z0
      rw [y0] at x1
      rw [z0] at x2
      have p1 := pin1 x1
      have p2 := pin2 x1
      have p3 := pin1 x2
      have p4 := pin2 x2
      subst p2
      subst p4
      rw [n1.1, Nat.add_zero] at y2 y3 y4
      rw [n1.1] at y5
      rw [Nat.add_zero, show τ.2.2 69 = σ.2.2 69 from f1.2 69 rfl] at z2
      rw [Nat.add_zero, show τ.2.2 70 = σ.2.2 70 from f1.2 70 rfl] at z3
      rw [Nat.add_zero, show τ.2.2 71 = σ.2.2 71 from f1.2 71 rfl] at z4
      have b68 : τ.2.2 68 = σ.2.2 68 := f1.2 68 rfl
      have g3 : τ2.2.2 3 = τ.2.2 3 := f2.2 3 rfl
      have g4 : τ2.2.2 4 = τ.2.2 4 := f2.2 4 rfl
      have g5 : τ2.2.2 5 = τ.2.2 5 := f2.2 5 rfl
      have g6 : τ2.2.2 6 = τ.2.2 6 := f2.2 6 rfl
      refine ⟨⟨⟨R + n, c2, (f2.1 2 rfl).trans y1, z1, fun r hr' => ?_⟩, w2⟩, p1.symm.trans p3⟩
      rcases Nat.lt_or_ge r R with c3 | c3
      · have out : ¬ (R ≤ r ∧ r < R + (n - 0)) := fun q => by omega
        refine (hr r c3).keep ?_ ?_ ?_ ?_ ?_ ?_ (fun i hi => ?_) (fun i hi => ?_)
        · rw [g4, y2, putN_out out]
        · rw [g5, y3, putN_out out]
        · rw [g6, y4, putN_out out]
        · rw [z2, putN_out out]
        · rw [z3, putN_out out]
        · rw [z4, putN_out out]
        · rw [g3, y5]
        · rw [z5 _ (by omega), b68]
      · have at_ : R ≤ r ∧ r < R + (n - 0) := ⟨c3, by omega⟩
        unfold RowEq
        rw [g4, y2, g5, y3, g6, y4, z2, z3, z4, putN_at at_, putN_at at_, putN_at at_, putN_at at_, putN_at at_, putN_at at_]
        exact ⟨Or.inr rfl, rfl, Or.inl rfl, rfl, rfl, fun q => absurd q (by decide)⟩
    · have c3 : ¬ nI (R + n) ≤ 48 := fun q => c2 (y_le (a := R + n) (b := 48) (by omega) (by omega) q)
      rw [if_neg c3] at x1 x2
      have p2 := pin2 x1
      have p4 := pin2 x2
      subst p2
      subst p4
      exact ⟨⟨⟨R, hR, e1, e2, hr⟩, w2⟩, (pin1 x1).symm.trans (pin1 x2)⟩
  · rw [if_neg c1] at x1 x2
    have p2 := pin2 x1
    have p4 := pin2 x2
    subst p2
    subst p4
    exact ⟨⟨⟨R, hR, e1, e2, hr⟩, w2⟩, (pin1 x1).symm.trans (pin1 x2)⟩
theorem JRW.start : JRW σ0 := ⟨⟨0, by omega, rfl, rfl, fun r h => absurd h (Nat.not_lt_zero _)⟩, ⟨0, by omega, rfl, rfl, fun r h => absurd h (Nat.not_lt_zero _)⟩⟩
theorem JRW.fr {I A : List (Nat × Nat)} {σ τ : ST} (h : JRW σ) (f : Fr I A σ τ) (hh : (([2, 31].all (fun k => !inR I k) && [3, 4, 5, 6, 68, 69, 70, 71].all (fun k => !inR A k)) && ([20, 32].all (fun k => !inR I k) && [52, 53, 72, 73].all (fun k => !inR A k))) = true) : JRW τ := by
  rw [Bool.and_eq_true] at hh
  exact ⟨h.1.same (f.SR hh.1), h.2.same (f.SW hh.2)⟩
