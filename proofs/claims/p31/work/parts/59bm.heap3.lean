/-! the class's gains: by piece and set of pieces before it -/
/-- the links of i with the pieces of x below j -/
def gs (L : Nat → Nat → Int32) (i x : Nat) : Nat → Int32
  | 0 => 0
  | j + 1 => gs L i x j + (if x.testBit j = true then L j i else 0)
theorem gs_congr {L : Nat → Nat → Int32} {i x y : Nat} : ∀ j, (∀ k, k < j → x.testBit k = y.testBit k) → gs L i x j = gs L i y j
  | 0, _ => rfl
  | j + 1, h => by
    show gs L i x j + (if x.testBit j = true then L j i else 0) = gs L i y j + (if y.testBit j = true then L j i else 0)
    rw [gs_congr j (fun k hk => h k (by omega)), h j (by omega)]
theorem gs_lo {L : Nat → Nat → Int32} {i x j : Nat} (h : x < 2 ^ j) : gs L i x (j + 1) = gs L i x j := by
  show gs L i x j + (if x.testBit j = true then L j i else 0) = gs L i x j
  rw [Nat.testBit_lt_two_pow h, if_neg (by decide), Int32.add_zero]
theorem gs_hi {L : Nat → Nat → Int32} {i x j : Nat} (h : x < 2 ^ j) : gs L i (2 ^ j + x) (j + 1) = gs L i x j + L j i := by
  show gs L i (2 ^ j + x) j + (if (2 ^ j + x).testBit j = true then L j i else 0) = gs L i x j + L j i
  rw [Nat.testBit_two_pow_add_eq, Nat.testBit_lt_two_pow h, if_pos (show (!false) = true from rfl), gs_congr j (fun k hk => Nat.testBit_two_pow_add_gt hk x)]
theorem or_pow {i x : Nat} (h : x < 2 ^ i) : 2 ^ i ||| x = 2 ^ i + x := by
  have z := Nat.two_pow_add_eq_or_of_lt h 1
  rw [Nat.mul_one] at z
  exact z.symm
theorem pow9 {i : Nat} (h : i ≤ 9) : 2 ^ i ≤ 512 := (y_pow h).1
theorem fg26_l {K : Int32 → Int32 → Int32 → ST → ST} {L : Nat → Nat → Int32} {i j : Nat} (hi : i < 9) (hj : j < i) : ∀ (fu d m : Nat) (τ : ST), m + d = 2 ^ j → d < fu → τ.2.2 (21 + j) i = L j i → (∀ x, x < 2 ^ j → τ.2.2 40 (2 ^ i + x) = gs L i x j) → (∀ x, x < m → τ.2.2 40 (2 ^ i + (2 ^ j + x)) = gs L i x j + L j i) → ∃ τ', fX1_fillGains_0l26 K fu (nI i) (nI (2 ^ i)) (nI j) (nI (2 ^ j)) (nI m) τ = K (nI i) (nI (2 ^ i)) (nI (j + 1)) τ' ∧ (∀ x, x < 2 ^ (j + 1) → τ'.2.2 40 (2 ^ i + x) = gs L i x (j + 1)) ∧ (∀ x, x < 2 ^ i → τ'.2.2 40 x = τ.2.2 40 x) ∧ Fr [] [(40, 40)] τ τ' := by
  have pi := pow9 (show i ≤ 9 by omega)
  have pj : 2 ^ j * 2 ≤ 2 ^ i := by
    rw [← Nat.pow_succ]
    exact Nat.pow_le_pow_right (by omega) hj
  have nj : (nI j).toNatClampNeg = j := nI_clamp (by omega)
  have ni : (nI i).toNatClampNeg = i := nI_clamp (by omega)
  intro fu
  induction fu with
  | zero =>
    intro d m τ _ h
    exact absurd h (Nat.not_lt_zero _)
  | succ fu ih =>
    intro d m τ hd hf hL h0 h1
    cases d with
    | zero =>
      have em : m = 2 ^ j := by omega
      subst em
      refine ⟨τ, ?_, fun x hx => ?_, fun _ _ => rfl, Fr.refl τ⟩
      · show fX1_fillGains_0b26 K (fX1_fillGains_0l26 K fu) (nI i) (nI (2 ^ i)) (nI j) (nI (2 ^ j)) (nI (2 ^ j)) τ = _
        unfold fX1_fillGains_0b26 fX1_fillGains_0b69
        simp only [bd_e, n_add1]
        rw [if_pos ((leN (by omega) (by omega)).mpr (Nat.le_refl _))]
      · rw [Nat.pow_succ] at hx
        rcases Nat.lt_or_ge x (2 ^ j) with c | c
        · rw [gs_lo c]
          exact h0 x c
        · obtain ⟨y, rfl⟩ : ∃ y, x = 2 ^ j + y := ⟨x - 2 ^ j, by omega⟩
          rw [gs_hi (show y < 2 ^ j by omega)]
          exact h1 y (by omega)
    | succ d =>
      have o1 : nI (2 ^ i) ||| nI (2 ^ j) ||| nI m = nI (2 ^ i + (2 ^ j + m)) := by
        rw [y_or, y_or, Nat.or_assoc, or_pow (show m < 2 ^ j by omega), or_pow (show 2 ^ j + m < 2 ^ i by omega)]
      have o2 : nI (2 ^ i) ||| nI m = nI (2 ^ i + m) := by rw [y_or, or_pow (show m < 2 ^ i by omega)]
      have e0 : fX1_fillGains_0l26 K (fu + 1) (nI i) (nI (2 ^ i)) (nI j) (nI (2 ^ j)) (nI m) τ = fX1_fillGains_0l26 K fu (nI i) (nI (2 ^ i)) (nI j) (nI (2 ^ j)) (nI (m + 1)) (sA τ 40 (upd (τ.2.2 40) (2 ^ i + (2 ^ j + m)) (gs L i m j + L j i))) := by
        show fX1_fillGains_0b26 K (fX1_fillGains_0l26 K fu) (nI i) (nI (2 ^ i)) (nI j) (nI (2 ^ j)) (nI m) τ = _
        unfold fX1_fillGains_0b26 fX1_fillGains_0b33
        simp only [bd_e, n_add1, o1, o2, nj, ni, show (nI (2 ^ i + (2 ^ j + m))).toNatClampNeg = 2 ^ i + (2 ^ j + m) from nI_clamp (by omega), show (nI (2 ^ i + m)).toNatClampNeg = 2 ^ i + m from nI_clamp (by omega), hL, h0 m (by omega)]
        rw [if_neg (fun q => absurd ((leN (by omega) (by omega)).mp q) (by omega))]
      have f1 : Fr [] [(40, 40)] τ (sA τ 40 (upd (τ.2.2 40) (2 ^ i + (2 ^ j + m)) (gs L i m j + L j i))) := (Fr.refl τ).putA rfl
      have q21 : inR [(40, 40)] (21 + j) = false := by
        rcases (show j = 0 ∨ j = 1 ∨ j = 2 ∨ j = 3 ∨ j = 4 ∨ j = 5 ∨ j = 6 ∨ j = 7 by omega) with rfl | rfl | rfl | rfl | rfl | rfl | rfl | rfl <;> rfl
      obtain ⟨τ2, z1, z2, z3, z4⟩ := ih d (m + 1) (sA τ 40 (upd (τ.2.2 40) (2 ^ i + (2 ^ j + m)) (gs L i m j + L j i))) (by omega) (by omega) (by rw [f1.2 _ q21]; exact hL) (fun x hx => by
        rw [sA_eq, pk_un (by omega)]
        exact h0 x hx) (fun x hx => by
        rw [sA_eq]
        rcases Nat.eq_or_lt_of_le (Nat.le_of_lt_succ hx) with c | c
        · rw [c, pk_us]
        · rw [pk_un (by omega)]
          exact h1 x c)
      exact ⟨τ2, e0.trans z1, z2, fun x hx => by rw [z3 x hx, sA_eq, pk_un (by omega)], f1.call z4 rfl rfl⟩
theorem fg13_l {L : Nat → Nat → Int32} {i : Nat} (hi : i < 9) : ∀ (fu d j : Nat) (τ : ST), j + d = i → d < fu → (∀ k, k < i → τ.2.2 (21 + k) i = L k i) → (∀ x, x < 2 ^ j → τ.2.2 40 (2 ^ i + x) = gs L i x j) → ∃ τ', fX1_fillGains_0l13 fu (nI i) (nI (2 ^ i)) (nI j) τ = τ' ∧ (∀ x, x < 2 ^ i → τ'.2.2 40 (2 ^ i + x) = gs L i x i) ∧ (∀ x, x < 2 ^ i → τ'.2.2 40 x = τ.2.2 40 x) ∧ Fr [] [(40, 40)] τ τ' := by
  intro fu
  induction fu with
  | zero =>
    intro d j τ _ h
    exact absurd h (Nat.not_lt_zero _)
  | succ fu ih =>
    intro d j τ hd hf hL h0
    cases d with
    | zero =>
      have ej : j = i := by omega
      subst ej
      refine ⟨τ, ?_, h0, fun _ _ => rfl, Fr.refl τ⟩
      show fX1_fillGains_0b13 (fX1_fillGains_0l13 fu) (nI j) (nI (2 ^ j)) (nI j) τ = _
      unfold fX1_fillGains_0b13 fX1_fillGains_0b75
      rw [if_pos ((leN (by omega) (by omega)).mpr (Nat.le_refl _))]
    | succ d =>
      have hj : j < i := by omega
      have pj := pow9 (show j ≤ 9 by omega)
      obtain ⟨τ1, y1, y2, y3, y4⟩ := fg26_l hi hj 4096 (2 ^ j) 0 τ (K := fX1_fillGains_0l13 fu) (L := L) (by omega) (by omega) (hL j hj) h0 (fun x hx => absurd hx (Nat.not_lt_zero _))
      have e0 : fX1_fillGains_0l13 (fu + 1) (nI i) (nI (2 ^ i)) (nI j) τ = fX1_fillGains_0l26 (fX1_fillGains_0l13 fu) 4096 (nI i) (nI (2 ^ i)) (nI j) (nI (2 ^ j)) (nI 0) τ := by
        show fX1_fillGains_0b13 (fX1_fillGains_0l13 fu) (nI i) (nI (2 ^ i)) (nI j) τ = _
        unfold fX1_fillGains_0b13 fX1_fillGains_0b18
        simp only [bd_e, y_shl1 (show j < 31 by omega), nI_0]
        rw [if_neg (fun q => absurd ((leN (by omega) (by omega)).mp q) (by omega))]
      obtain ⟨τ2, z1, z2, z3, z4⟩ := ih d (j + 1) τ1 (by omega) (by omega) (fun k hk => by
        have q21 : inR [(40, 40)] (21 + k) = false := by
          rcases (show k = 0 ∨ k = 1 ∨ k = 2 ∨ k = 3 ∨ k = 4 ∨ k = 5 ∨ k = 6 ∨ k = 7 by omega) with rfl | rfl | rfl | rfl | rfl | rfl | rfl | rfl <;> rfl
        rw [y4.2 _ q21]
        exact hL k hk) y2
      exact ⟨τ2, (e0.trans y1).trans z1, z2, fun x hx => by rw [z3 x hx, y3 x hx], y4.call z4 rfl rfl⟩
theorem fillGains_X {L : Nat → Nat → Int32} {i : Nat} {σ : ST} (hi : i < 9) (hL : ∀ k, k < i → σ.2.2 (21 + k) i = L k i) : (∀ x, x < 2 ^ i → (fX1_fillGains_0 (nI i) σ).2.2 40 (2 ^ i + x) = gs L i x i) ∧ (∀ x, x < 2 ^ i → (fX1_fillGains_0 (nI i) σ).2.2 40 x = σ.2.2 40 x) ∧ Fr [] [(40, 40)] σ (fX1_fillGains_0 (nI i) σ) := by
  have pi := pow9 (show i ≤ 9 by omega)
  have f0 : Fr [] [(40, 40)] σ (sA σ 40 (upd (σ.2.2 40) (2 ^ i) 0)) := (Fr.refl σ).putA rfl
  obtain ⟨τ, y1, y2, y3, y4⟩ := fg13_l hi 4096 i 0 (sA σ 40 (upd (σ.2.2 40) (2 ^ i) 0)) (L := L) (by omega) (by omega) (fun k hk => by
    have q21 : inR [(40, 40)] (21 + k) = false := by
      rcases (show k = 0 ∨ k = 1 ∨ k = 2 ∨ k = 3 ∨ k = 4 ∨ k = 5 ∨ k = 6 ∨ k = 7 by omega) with rfl | rfl | rfl | rfl | rfl | rfl | rfl | rfl <;> rfl
    rw [f0.2 _ q21]
    exact hL k hk) (fun x hx => by
    have x0 : x = 0 := by
      have : 2 ^ 0 = 1 := rfl
      omega
    subst x0
    rw [sA_eq]
    exact pk_us)
  have e : fX1_fillGains_0 (nI i) σ = τ := by
    rw [← y1]
    unfold fX1_fillGains_0 fX1_fillGains_0b0
    simp only [bd_e, y_shl1 (show i < 31 by omega), show (nI (2 ^ i)).toNatClampNeg = 2 ^ i from nI_clamp (by omega), nI_0]
  rw [e]
  exact ⟨y2, fun x hx => by rw [y3 x hx, sA_eq, pk_un (by omega)], f0.call y4 rfl rfl⟩
