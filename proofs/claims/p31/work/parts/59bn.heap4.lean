/-! all gains of the class -/
theorem tie107_l {L : Nat → Nat → Int32} {n : Nat} (hn : n ≤ 9) : ∀ (fu d i : Nat) (τ : ST), i + d = n → d < fu → τ.1 9 = nI n → MTX L (fun x y => x < y ∧ y < n) τ → (∀ a, a < i → ∀ x, x < 2 ^ a → τ.2.2 40 (2 ^ a + x) = gs L a x a) → ∃ τ', fX1_tie_0l107 fu (nI i) τ = τ' ∧ (∀ a, a < n → ∀ x, x < 2 ^ a → τ'.2.2 40 (2 ^ a + x) = gs L a x a) ∧ Fr [] [(40, 40)] τ τ' := by
  intro fu
  induction fu with
  | zero =>
    intro d i τ _ h
    exact absurd h (Nat.not_lt_zero _)
  | succ fu ih =>
    intro d i τ hd hf h9 hM h0
    cases d with
    | zero =>
      have ei : i = n := by omega
      subst ei
      refine ⟨τ, ?_, h0, Fr.refl τ⟩
      show fX1_tie_0b107 (fX1_tie_0l107 fu) (nI i) τ = _
      unfold fX1_tie_0b107 fX1_tie_0b128
      simp only [bd_e, h9]
      rw [if_pos ((leN (by omega) (by omega)).mpr (Nat.le_refl _))]
    | succ d =>
      obtain ⟨g1, g2, g3⟩ := fillGains_X (σ := τ) (i := i) (L := L) (by omega) (fun k hk => (hM k i ⟨hk, by omega⟩).1)
      have e0 : fX1_tie_0l107 (fu + 1) (nI i) τ = fX1_tie_0l107 fu (nI (i + 1)) (fX1_fillGains_0 (nI i) τ) := by
        show fX1_tie_0b107 (fX1_tie_0l107 fu) (nI i) τ = _
        unfold fX1_tie_0b107 fX1_tie_0b116
        simp only [bd_e, h9, n_add1]
        rw [if_neg (fun q => absurd ((leN (by omega) (by omega)).mp q) (by omega))]
      obtain ⟨τ2, z1, z2, z3⟩ := ih d (i + 1) (fX1_fillGains_0 (nI i) τ) (by omega) (by omega) ((g3.1 9 rfl).trans h9) (fun x y h => by
        have q : ∀ x, x < 9 → inR [(40, 40)] (21 + x) = false := fun x hx => by
          rcases (show x = 0 ∨ x = 1 ∨ x = 2 ∨ x = 3 ∨ x = 4 ∨ x = 5 ∨ x = 6 ∨ x = 7 ∨ x = 8 by omega) with rfl | rfl | rfl | rfl | rfl | rfl | rfl | rfl | rfl <;> rfl
        have h1 := h.1
        have h2 := h.2
        rw [g3.2 _ (q x (by omega)), g3.2 _ (q y (by omega))]
        exact hM x y h) (fun a ha x hx => by
        rcases Nat.eq_or_lt_of_le (Nat.le_of_lt_succ ha) with c | c
        · subst c
          exact g1 x hx
        · have p : 2 ^ a * 2 ≤ 2 ^ i := by
            rw [← Nat.pow_succ]
            exact Nat.pow_le_pow_right (by omega) c
          rw [g2 (2 ^ a + x) (by omega)]
          exact h0 a c x hx)
      exact ⟨τ2, e0.trans z1, z2, g3.call z3 rfl rfl⟩
/-- behind tie: links and gains of n pieces -/
def TIED (L : Nat → Nat → Int32) (n : Nat) (σ : ST) : Prop := σ.1 9 = nI n ∧ MTX L (fun x y => x < y ∧ y < n) σ ∧ ∀ a, a < n → ∀ x, x < 2 ^ a → σ.2.2 40 (2 ^ a + x) = gs L a x a
theorem tie_X {r2 r4 : Int32} {n : Nat} {L : Nat → Nat → Int32} {σ : ST} (hn : n ≤ 9) (h5 : σ.1 5 = nI n) (hL : ∀ x y, x < n → y < n → LK r2 r4 σ x y = L x y) : TIED L n (fX1_tie_0 r2 r4 σ) ∧ Fr [(9, 9)] [(21, 29), (40, 40)] σ (fX1_tie_0 r2 r4 σ) := by
  have e9 : (if (9 : Int32) < nI n then 9 else nI n) = nI n := by
    rw [if_neg (show ¬ (9 : Int32) < nI n from fun z => absurd (y_lt (a := 9) (by omega) (by omega) z) (by omega))]
  have f0 : Fr [(9, 9)] [] σ (sI σ 9 (nI n)) := (Fr.refl σ).putI rfl
  obtain ⟨τ1, y1, y2, y3⟩ := tie16_l hn 4096 n 0 (sI σ 9 (nI n)) (r2 := r2) (r4 := r4) (L := L) (by omega) (by omega) (sI_eq _ _ _) (fun x y hx hy => by
    rw [← hL x y hx hy]
    unfold LK
    rw [lik_congr (by omega) (by omega) (f0.2 13 rfl) (f0.2 15 rfl), touch_congr (f0.2 16 rfl)]) (fun x y h => absurd h.2.2 (Nat.not_lt_zero _))
  obtain ⟨τ2, z1, z2, z3⟩ := tie107_l hn 4096 n 0 τ1 (L := L) (by omega) (by omega) ((y3.1 9 rfl).trans (sI_eq _ _ _)) y2 (fun a ha => absurd ha (Nat.not_lt_zero _))
  have e : fX1_tie_0 r2 r4 σ = τ2 := by
    rw [← z1]
    unfold fX1_tie_0 fX1_tie_0b0
    simp only [bd_e, h5, e9]
    rw [← nI_0, y1]
    unfold fX1_tie_0b104
    rw [nI_0]
  rw [e]
  refine ⟨⟨by rw [z3.1 9 rfl, y3.1 9 rfl, sI_eq], fun x y h => ?_, z2⟩, (((f0.wide rfl rfl).call y3 rfl rfl).call z3 rfl rfl)⟩
  have q : ∀ x, x < 9 → inR [(40, 40)] (21 + x) = false := fun x hx => by
    rcases (show x = 0 ∨ x = 1 ∨ x = 2 ∨ x = 3 ∨ x = 4 ∨ x = 5 ∨ x = 6 ∨ x = 7 ∨ x = 8 by omega) with rfl | rfl | rfl | rfl | rfl | rfl | rfl | rfl | rfl <;> rfl
  have h1 := h.1
  have h2 := h.2
  rw [z3.2 _ (q x (by omega)), z3.2 _ (q y (by omega))]
  exact y2 x y h
theorem gain_X {L : Nat → Nat → Int32} {n i x : Nat} {σ : ST} (h : TIED L n σ) (hn : n ≤ 9) (hi : i < n) (hx : x < 2 ^ i) : fX1_gainOf_0 (nI i) (nI x) σ = gs L i x i := by
  have p : 2 ^ i * 2 ≤ 512 := by
    rw [← Nat.pow_succ]
    exact pow9 (by omega)
  unfold fX1_gainOf_0 fX1_gainOf_0b0 fX1_gainOf_0b10 fX1_gainOf_0b19 fX1_gainOf_0b29
  simp only [bd_e, y_shl1 (show i < 31 by omega), y_or, or_pow hx]
  rw [if_neg (nI_pos (by omega)), if_neg (show ¬ 512 ≤ nI (2 ^ i + x) from fun z => absurd ((leN (a := 512) (by omega) (by omega)).mp z) (by omega)), nI_clamp (by omega)]
  exact h.2.2 i hi x hx
/-! the reference's links -/
def GNS (L : Nat → Nat → Int32) (n : Nat) (τ : ST) : Prop := ∀ x y, x < n → y < n → x ≠ y → τ.2.2 88 (9 * x + y) = L x y
theorem rlike_congr {σ τ : ST} {p q : Nat} (hp : p < 48) (hq : q < 48) (h66 : τ.2.2 66 = σ.2.2 66) (h76 : τ.2.2 76 = σ.2.2 76) (h78 : τ.2.2 78 = σ.2.2 78) : fX12_likeOf_0 (nI p) (nI q) τ = fX12_likeOf_0 (nI p) (nI q) σ := by
  have loop : ∀ (fu : Nat) (S k : Int32), fX12_likeOf_0l5 fu (nI p) (nI q) S k τ = fX12_likeOf_0l5 fu (nI p) (nI q) S k σ := by
    intro fu
    induction fu with
    | zero => intro S k; rfl
    | succ fu ih =>
      intro S k
      show fX12_likeOf_0b5 (fX12_likeOf_0l5 fu) (nI p) (nI q) S k τ = fX12_likeOf_0b5 (fX12_likeOf_0l5 fu) (nI p) (nI q) S k σ
      unfold fX12_likeOf_0b5 fX12_likeOf_0b11 fX12_likeOf_0b46 fX12_likeOf_0b78 fX12_likeOf_0b69 fX12_likeOf_0b84 fX12_size_0 fX12_size_0b0 fX12_size_0b9 fX12_size_0b4 fX12_size_0b10
      simp only [bd_e, h66, h76, h78]
      by_cases c : 4 ≤ k
      · rw [if_pos c, if_pos c]
      · rw [if_neg c, if_neg c, ih]
  exact loop 4096 0 0
theorem rtouch_congr {σ τ : ST} {p q : Int32} (h75 : τ.2.2 75 = σ.2.2 75) (h76 : τ.2.2 76 = σ.2.2 76) : fX12_touch_0 p q τ = fX12_touch_0 p q σ := by
  unfold fX12_touch_0 fX12_touch_0b0 fX12_touch_0b9 fX12_touch_0b5 fX12_touch_0b10 fX12_touch_0b21 fX12_touch_0b45 fX12_touch_0b49 fX12_touch_0b50 fX12_size_0 fX12_size_0b0 fX12_size_0b9 fX12_size_0b4 fX12_size_0b10
  simp only [bd_e, h75, h76]
noncomputable def RK (τ : ST) (i j : Nat) : Int32 := fX12_likeOf_0 (nI i) (nI j) τ - (if fX12_touch_0 (nI i) (nI j) τ = 0 then 0 else τ.2.2 66 4)
