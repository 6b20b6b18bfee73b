/-! OFFS of three kinds; back -/
theorem size_M {a b : Nat} (ha : a < 2 ^ 30) (hb : b < 2 ^ 30) (τ : ST) : fX12_size_0 (nI a - nI b) τ = nI (ad a b) := by
  have z := abs_v ha hb
  rw [Int32.zero_sub] at z
  unfold fX12_size_0 fX12_size_0b0 fX12_size_0b4 fX12_size_0b9 fX12_size_0b10
  simp only [bd_e]
  exact z
theorem off1_val {σ : ST} {p q : Nat} {f g : Nat → Nat} (hp : p < 48) (hq : q < 48) (hf : ∀ k, k < 4 → σ.2.2 15 (p * 4 + k) = nI (f k) ∧ f k ≤ 99) (hg : ∀ k, k < 4 → σ.2.2 43 (q * 4 + k) = nI (g k) ∧ g k ≤ 99) : ∀ (fu m k S : Nat), k + m = 4 → m < fu → fX11_off_1l32 fu (nI (p * 4)) (nI (q * 4)) (nI (S + sumTo (fun k => ad (f k) (g k)) k)) (nI k) σ = nI (S + sumTo (fun k => ad (f k) (g k)) 4) := by
  intro fu
  induction fu with
  | zero =>
    intro m k S _ h
    exact absurd h (Nat.not_lt_zero _)
  | succ fu ih =>
    intro m k S hk hfu
    cases m with
    | zero =>
      have k4 : k = 4 := by omega
      subst k4
      show fX11_off_1b32 (fX11_off_1l32 fu) (nI (p * 4)) (nI (q * 4)) _ (nI 4) σ = _
      unfold fX11_off_1b32 fX11_off_1b65
      rw [if_pos (show 4 ≤ nI 4 by decide)]
    | succ m =>
      obtain ⟨f1, f2⟩ := hf k (by omega)
      obtain ⟨g1, g2⟩ := hg k (by omega)
      rw [← ih m (k + 1) S (by omega) (by omega)]
      show fX11_off_1b32 (fX11_off_1l32 fu) (nI (p * 4)) (nI (q * 4)) (nI (S + sumTo (fun k => ad (f k) (g k)) k)) (nI k) σ = fX11_off_1l32 fu (nI (p * 4)) (nI (q * 4)) (nI (S + (sumTo (fun k => ad (f k) (g k)) k + ad (f k) (g k)))) (nI (k + 1)) σ
      unfold fX11_off_1b32 fX11_off_1b38
      rw [if_neg (show ¬ 4 ≤ nI k from fun z => absurd ((leN (a := 4) (by omega) (by omega)).mp z) (by omega))]
      simp only [bd_e, nI_add, n_add1, show (nI (p * 4 + k)).toNatClampNeg = p * 4 + k from nI_clamp (by omega), show (nI (q * 4 + k)).toNatClampNeg = q * 4 + k from nI_clamp (by omega), f1, g1, abs_v (a := f k) (b := g k) (by omega) (by omega), Nat.add_assoc]
theorem off1_in {σ : ST} {p q : Nat} (hp : p < 48) (hq : q < 9) : fX11_off_1 (nI (p * 4)) (nI (q * 4)) σ = fX11_off_1l32 4096 (nI (p * 4)) (nI (q * 4)) 0 0 σ := by
  unfold fX11_off_1 fX11_off_1b0 fX11_off_1b4 fX11_off_1b12 fX11_off_1b16 fX11_off_1b26
  simp only [bd_e]
  rw [if_neg (nI_pos (by omega)), if_neg (show ¬ 192 - 4 < nI (p * 4) from fun z => absurd (y_lt (a := 188) (by omega) (by omega) z) (by omega)), if_neg (nI_pos (by omega)), if_pos (show nI (q * 4) ≤ 36 - 4 from (leN (b := 32) (by omega) (by omega)).mpr (by omega))]
theorem off1_e {σ : ST} {p q : Nat} {f g : Nat → Nat} (hp : p < 48) (hq : q < 9) (hf : ∀ k, k < 4 → σ.2.2 15 (p * 4 + k) = nI (f k) ∧ f k ≤ 99) (hg : ∀ k, k < 4 → σ.2.2 43 (q * 4 + k) = nI (g k) ∧ g k ≤ 99) : fX11_off_1 (nI (p * 4)) (nI (q * 4)) σ = nI (sumTo (fun k => ad (f k) (g k)) 4) := by
  have ov := off1_val (σ := σ) (p := p) (q := q) (f := f) (g := g) (by omega) (by omega) hf hg 4096 4 0 0 (by omega) (by omega)
  have z0 : nI (0 + sumTo (fun k => ad (f k) (g k)) 0) = (0 : Int32) := nI_0
  rw [z0, Nat.zero_add, nI_0] at ov
  rw [off1_in hp hq]
  exact ov
theorem off1_le {f g : Nat → Nat} (hf : ∀ k, k < 4 → f k ≤ 99) (hg : ∀ k, k < 4 → g k ≤ 99) : sumTo (fun k => ad (f k) (g k)) 4 ≤ 396 := sumTo_le (b := 99) 4 fun k hk => by
  have a := hf k hk
  have b := hg k hk
  unfold ad
  omega
theorem off2_val {σ : ST} {p q : Nat} {f g : Nat → Nat} (hp : p < 48) (hq : q < 48) (hf : ∀ k, k < 4 → σ.2.2 50 (p * 4 + k) = nI (f k) ∧ f k ≤ 99) (hg : ∀ k, k < 4 → σ.2.2 43 (q * 4 + k) = nI (g k) ∧ g k ≤ 99) : ∀ (fu m k S : Nat), k + m = 4 → m < fu → fX11_off_2l32 fu (nI (p * 4)) (nI (q * 4)) (nI (S + sumTo (fun k => ad (f k) (g k)) k)) (nI k) σ = nI (S + sumTo (fun k => ad (f k) (g k)) 4) := by
  intro fu
  induction fu with
  | zero =>
    intro m k S _ h
    exact absurd h (Nat.not_lt_zero _)
  | succ fu ih =>
    intro m k S hk hfu
    cases m with
    | zero =>
      have k4 : k = 4 := by omega
      subst k4
      show fX11_off_2b32 (fX11_off_2l32 fu) (nI (p * 4)) (nI (q * 4)) _ (nI 4) σ = _
      unfold fX11_off_2b32 fX11_off_2b65
      rw [if_pos (show 4 ≤ nI 4 by decide)]
    | succ m =>
      obtain ⟨f1, f2⟩ := hf k (by omega)
      obtain ⟨g1, g2⟩ := hg k (by omega)
      rw [← ih m (k + 1) S (by omega) (by omega)]
      show fX11_off_2b32 (fX11_off_2l32 fu) (nI (p * 4)) (nI (q * 4)) (nI (S + sumTo (fun k => ad (f k) (g k)) k)) (nI k) σ = fX11_off_2l32 fu (nI (p * 4)) (nI (q * 4)) (nI (S + (sumTo (fun k => ad (f k) (g k)) k + ad (f k) (g k)))) (nI (k + 1)) σ
      unfold fX11_off_2b32 fX11_off_2b38
      rw [if_neg (show ¬ 4 ≤ nI k from fun z => absurd ((leN (a := 4) (by omega) (by omega)).mp z) (by omega))]
      simp only [bd_e, nI_add, n_add1, show (nI (p * 4 + k)).toNatClampNeg = p * 4 + k from nI_clamp (by omega), show (nI (q * 4 + k)).toNatClampNeg = q * 4 + k from nI_clamp (by omega), f1, g1, abs_v (a := f k) (b := g k) (by omega) (by omega), Nat.add_assoc]
theorem off2_in {σ : ST} {p q : Nat} (hp : p < 6) (hq : q < 9) : fX11_off_2 (nI (p * 4)) (nI (q * 4)) σ = fX11_off_2l32 4096 (nI (p * 4)) (nI (q * 4)) 0 0 σ := by
  unfold fX11_off_2 fX11_off_2b0 fX11_off_2b4 fX11_off_2b12 fX11_off_2b16 fX11_off_2b26
  simp only [bd_e]
  rw [if_neg (nI_pos (by omega)), if_neg (show ¬ 24 - 4 < nI (p * 4) from fun z => absurd (y_lt (a := 20) (by omega) (by omega) z) (by omega)), if_neg (nI_pos (by omega)), if_pos (show nI (q * 4) ≤ 36 - 4 from (leN (b := 32) (by omega) (by omega)).mpr (by omega))]
theorem off2_e {σ : ST} {p q : Nat} {f g : Nat → Nat} (hp : p < 6) (hq : q < 9) (hf : ∀ k, k < 4 → σ.2.2 50 (p * 4 + k) = nI (f k) ∧ f k ≤ 99) (hg : ∀ k, k < 4 → σ.2.2 43 (q * 4 + k) = nI (g k) ∧ g k ≤ 99) : fX11_off_2 (nI (p * 4)) (nI (q * 4)) σ = nI (sumTo (fun k => ad (f k) (g k)) 4) := by
  have ov := off2_val (σ := σ) (p := p) (q := q) (f := f) (g := g) (by omega) (by omega) hf hg 4096 4 0 0 (by omega) (by omega)
  have z0 : nI (0 + sumTo (fun k => ad (f k) (g k)) 0) = (0 : Int32) := nI_0
  rw [z0, Nat.zero_add, nI_0] at ov
  rw [off2_in hp hq]
  exact ov
theorem off2_le {f g : Nat → Nat} (hf : ∀ k, k < 4 → f k ≤ 99) (hg : ∀ k, k < 4 → g k ≤ 99) : sumTo (fun k => ad (f k) (g k)) 4 ≤ 396 := sumTo_le (b := 99) 4 fun k hk => by
  have a := hf k hk
  have b := hg k hk
  unfold ad
  omega
theorem off3_val {σ : ST} {p q : Nat} {f g : Nat → Nat} (hp : p < 48) (hq : q < 48) (hf : ∀ k, k < 4 → σ.2.2 15 (p * 4 + k) = nI (f k) ∧ f k ≤ 99) (hg : ∀ k, k < 4 → σ.2.2 50 (q * 4 + k) = nI (g k) ∧ g k ≤ 99) : ∀ (fu m k S : Nat), k + m = 4 → m < fu → fX11_off_3l32 fu (nI (p * 4)) (nI (q * 4)) (nI (S + sumTo (fun k => ad (f k) (g k)) k)) (nI k) σ = nI (S + sumTo (fun k => ad (f k) (g k)) 4) := by
  intro fu
  induction fu with
  | zero =>
    intro m k S _ h
    exact absurd h (Nat.not_lt_zero _)
  | succ fu ih =>
    intro m k S hk hfu
    cases m with
    | zero =>
      have k4 : k = 4 := by omega
      subst k4
      show fX11_off_3b32 (fX11_off_3l32 fu) (nI (p * 4)) (nI (q * 4)) _ (nI 4) σ = _
      unfold fX11_off_3b32 fX11_off_3b65
      rw [if_pos (show 4 ≤ nI 4 by decide)]
    | succ m =>
      obtain ⟨f1, f2⟩ := hf k (by omega)
      obtain ⟨g1, g2⟩ := hg k (by omega)
      rw [← ih m (k + 1) S (by omega) (by omega)]
      show fX11_off_3b32 (fX11_off_3l32 fu) (nI (p * 4)) (nI (q * 4)) (nI (S + sumTo (fun k => ad (f k) (g k)) k)) (nI k) σ = fX11_off_3l32 fu (nI (p * 4)) (nI (q * 4)) (nI (S + (sumTo (fun k => ad (f k) (g k)) k + ad (f k) (g k)))) (nI (k + 1)) σ
      unfold fX11_off_3b32 fX11_off_3b38
      rw [if_neg (show ¬ 4 ≤ nI k from fun z => absurd ((leN (a := 4) (by omega) (by omega)).mp z) (by omega))]
      simp only [bd_e, nI_add, n_add1, show (nI (p * 4 + k)).toNatClampNeg = p * 4 + k from nI_clamp (by omega), show (nI (q * 4 + k)).toNatClampNeg = q * 4 + k from nI_clamp (by omega), f1, g1, abs_v (a := f k) (b := g k) (by omega) (by omega), Nat.add_assoc]
theorem off3_in {σ : ST} {p q : Nat} (hp : p < 48) (hq : q < 6) : fX11_off_3 (nI (p * 4)) (nI (q * 4)) σ = fX11_off_3l32 4096 (nI (p * 4)) (nI (q * 4)) 0 0 σ := by
  unfold fX11_off_3 fX11_off_3b0 fX11_off_3b4 fX11_off_3b12 fX11_off_3b16 fX11_off_3b26
  simp only [bd_e]
  rw [if_neg (nI_pos (by omega)), if_neg (show ¬ 192 - 4 < nI (p * 4) from fun z => absurd (y_lt (a := 188) (by omega) (by omega) z) (by omega)), if_neg (nI_pos (by omega)), if_pos (show nI (q * 4) ≤ 24 - 4 from (leN (b := 20) (by omega) (by omega)).mpr (by omega))]
theorem off3_e {σ : ST} {p q : Nat} {f g : Nat → Nat} (hp : p < 48) (hq : q < 6) (hf : ∀ k, k < 4 → σ.2.2 15 (p * 4 + k) = nI (f k) ∧ f k ≤ 99) (hg : ∀ k, k < 4 → σ.2.2 50 (q * 4 + k) = nI (g k) ∧ g k ≤ 99) : fX11_off_3 (nI (p * 4)) (nI (q * 4)) σ = nI (sumTo (fun k => ad (f k) (g k)) 4) := by
  have ov := off3_val (σ := σ) (p := p) (q := q) (f := f) (g := g) (by omega) (by omega) hf hg 4096 4 0 0 (by omega) (by omega)
  have z0 : nI (0 + sumTo (fun k => ad (f k) (g k)) 0) = (0 : Int32) := nI_0
  rw [z0, Nat.zero_add, nI_0] at ov
  rw [off3_in hp hq]
  exact ov
theorem off3_le {f g : Nat → Nat} (hf : ∀ k, k < 4 → f k ≤ 99) (hg : ∀ k, k < 4 → g k ≤ 99) : sumTo (fun k => ad (f k) (g k)) 4 ≤ 396 := sumTo_le (b := 99) 4 fun k hk => by
  have a := hf k hk
  have b := hg k hk
  unfold ad
  omega
/-- the first of the least, that are r at most, of those from a to b -/
def NRF (D : Nat → Nat) (r a b : Nat) : Option Nat → Prop
  | none => ∀ u, a ≤ u → u < b → r < D u
  | some v => a ≤ v ∧ v < b ∧ D v ≤ r ∧ ∀ u, a ≤ u → u < b → D v ≤ D u ∧ (u < v → D v < D u)
theorem NRF_un {D : Nat → Nat} {r a b : Nat} : ∀ {f g : Option Nat}, NRF D r a b f → NRF D r a b g → f = g
  | none, none, _, _ => rfl
  | none, some v, h, k => absurd (h v k.1 k.2.1) (Nat.not_lt.mpr k.2.2.1)
  | some v, none, h, k => absurd (k v h.1 h.2.1) (Nat.not_lt.mpr h.2.2.1)
  | some v, some w, h, k => by
    obtain ⟨h1, h2, h3, h4⟩ := h
    obtain ⟨k1, k2, k3, k4⟩ := k
    obtain ⟨a1, a2⟩ := h4 w k1 k2
    obtain ⟨b1, b2⟩ := k4 v h1 h2
    rcases Nat.lt_trichotomy v w with c | c | c
    · have := b2 c
      omega
    · rw [c]
    · have := a2 c
      omega
def fo : Option Nat → Int32
  | none => -9
  | some v => nI v
def lF (D : Nat → Nat) (r : Nat) : Option Nat → Nat
  | none => r + 1
  | some v => D v
def lB (D : Nat → Nat) (r : Nat) : Option Nat → Nat
  | none => r
  | some v => D v
theorem NRF_F {D : Nat → Nat} {r k : Nat} : ∀ {f : Option Nat}, NRF D r 0 k f → NRF D r 0 (k + 1) (if D k < lF D r f then some k else f)
  | none, h => by
    show NRF D r 0 (k + 1) (if D k < r + 1 then some k else none)
    by_cases c : D k < r + 1
    · rw [if_pos c]
      refine ⟨Nat.zero_le _, Nat.lt_succ_self _, by omega, fun u _ hu => ?_⟩
      rcases Nat.eq_or_lt_of_le (Nat.le_of_lt_succ hu) with d | d
      · subst d
        exact ⟨Nat.le_refl _, fun w => absurd w (Nat.lt_irrefl _)⟩
      · have := h u (Nat.zero_le _) d
        exact ⟨by omega, fun _ => by omega⟩
    · rw [if_neg c]
      intro u _ hu
      rcases Nat.eq_or_lt_of_le (Nat.le_of_lt_succ hu) with d | d
      · subst d
        omega
      · exact h u (Nat.zero_le _) d
  | some v, h => by
    obtain ⟨h1, h2, h3, h4⟩ := h
    show NRF D r 0 (k + 1) (if D k < D v then some k else some v)
    by_cases c : D k < D v
    · rw [if_pos c]
      refine ⟨Nat.zero_le _, Nat.lt_succ_self _, by omega, fun u _ hu => ?_⟩
      rcases Nat.eq_or_lt_of_le (Nat.le_of_lt_succ hu) with d | d
      · subst d
        exact ⟨Nat.le_refl _, fun w => absurd w (Nat.lt_irrefl _)⟩
      · have := (h4 u (Nat.zero_le _) d).1
        exact ⟨by omega, fun _ => by omega⟩
    · rw [if_neg c]
      refine ⟨h1, by omega, h3, fun u _ hu => ?_⟩
      rcases Nat.eq_or_lt_of_le (Nat.le_of_lt_succ hu) with d | d
      · subst d
        exact ⟨by omega, fun w => by omega⟩
      · exact h4 u (Nat.zero_le _) d
theorem NRF_B {D : Nat → Nat} {r j b : Nat} (hj : j < b) : ∀ {f : Option Nat}, NRF D r (j + 1) b f → NRF D r j b (if D j ≤ lB D r f then some j else f)
  | none, h => by
    show NRF D r j b (if D j ≤ r then some j else none)
    by_cases c : D j ≤ r
    · rw [if_pos c]
      refine ⟨Nat.le_refl _, hj, c, fun u h1 hu => ?_⟩
      rcases Nat.eq_or_lt_of_le h1 with d | d
      · subst d
        exact ⟨Nat.le_refl _, fun w => absurd w (Nat.lt_irrefl _)⟩
      · have := h u d hu
        exact ⟨by omega, fun w => by omega⟩
    · rw [if_neg c]
      intro u h1 hu
      rcases Nat.eq_or_lt_of_le h1 with d | d
      · subst d
        omega
      · exact h u d hu
  | some v, h => by
    obtain ⟨h1, h2, h3, h4⟩ := h
    show NRF D r j b (if D j ≤ D v then some j else some v)
    by_cases c : D j ≤ D v
    · rw [if_pos c]
      refine ⟨Nat.le_refl _, hj, by omega, fun u g1 hu => ?_⟩
      rcases Nat.eq_or_lt_of_le g1 with d | d
      · subst d
        exact ⟨Nat.le_refl _, fun w => absurd w (Nat.lt_irrefl _)⟩
      · have := (h4 u d hu).1
        exact ⟨by omega, fun w => by omega⟩
    · rw [if_neg c]
      refine ⟨by omega, h2, h3, fun u g1 hu => ?_⟩
      rcases Nat.eq_or_lt_of_le g1 with d | d
      · subst d
        exact ⟨by omega, fun w => by omega⟩
      · exact h4 u d hu
theorem nt15_l {h K r : Nat} {D : Nat → Nat} {σ : ST} (hK : K ≤ 6) (hr : r ≤ 399) (hD : ∀ v, v < K → fX11_off_2 (nI (v * 4)) (nI (h * 4)) σ = nI (D v) ∧ D v ≤ 396) : ∀ (fu j : Nat) (f : Option Nat), j ≤ K → j < fu → NRF D r j K f → ∃ g, NRF D r 0 K g ∧ fX5_nearestTo_0l15 fu (nI h) (fo f) (nI (lB D r f)) (nI j - 1) σ = fo g
  | 0, _, _, _, h, _ => absurd h (Nat.not_lt_zero _)
  | fu + 1, 0, f, _, _, hf => by
    refine ⟨f, hf, ?_⟩
    show fX5_nearestTo_0b15 (fX5_nearestTo_0l15 fu) (nI h) (fo f) (nI (lB D r f)) (nI 0 - 1) σ = _
    unfold fX5_nearestTo_0b15 fX5_nearestTo_0b61
    rw [if_pos (show nI 0 - 1 < 0 by decide)]
  | fu + 1, j + 1, f, hj, hfu, hf => by
    obtain ⟨d1, d2⟩ := hD j (by omega)
    have lb : lB D r f < 2 ^ 20 := by
      cases f with
      | none => show r < 2 ^ 20; omega
      | some v =>
        show D v < 2 ^ 20
        have := hf.2.2.1
        omega
    obtain ⟨g, g1, g2⟩ := nt15_l hK hr hD fu j (if D j ≤ lB D r f then some j else f) (by omega) (by omega) (NRF_B (by omega) hf)
    refine ⟨g, g1, ?_⟩
    rw [← g2, nI_pred]
    show fX5_nearestTo_0b15 (fX5_nearestTo_0l15 fu) (nI h) (fo f) (nI (lB D r f)) (nI j) σ = _
    unfold fX5_nearestTo_0b15 fX5_nearestTo_0b20 fX5_nearestTo_0b55 fX5_nearestTo_0b47
    simp only [bd_e, n_mul4, d1, y_m1]
    rw [if_neg (nI_pos (by omega))]
    by_cases c : D j ≤ lB D r f
    · rw [if_neg (fun q => absurd (y_lt (by omega) (by omega) q) (by omega)), if_pos c]
      unfold fX5_nearestTo_0b55
      simp only [bd_e, y_m1]
      rfl
    · rw [if_pos ((nI_ltI (by omega) (by omega)).mpr (by omega)), if_neg c]
theorem back_X (h w : Int32) (σ : ST) : fX11_back_0 h w σ = if HNo h ∧ ¬ w < 0 ∧ ¬ 1 < w then (if 0 ≤ (fX11_refusedHeap_0 h σ).1 then fX11_back_0b30 h w (fX11_refusedHeap_0 h σ).2 else fX11_refusedHeap_0 h σ) else (-1, σ) := by
  unfold fX11_back_0 fX11_back_0b0 fX11_back_0b7 fX11_back_0b16 fX11_back_0b18 fX11_back_0b28
  simp only [bd_e, bp_e, isHeapNumber_X, within_X, ite01, pmk]
  by_cases c : HNo h
  · rw [if_neg (fun q => q c)]
    by_cases d : ¬ w < 0 ∧ ¬ 1 < w
    · rw [if_neg (fun q => q d), if_pos (show HNo h ∧ ¬ w < 0 ∧ ¬ 1 < w from ⟨c, d⟩)]
    · rw [if_pos d, if_neg (fun q => d q.2)]
  · rw [if_pos c, if_neg (fun q => c q.1)]
theorem back_M (h w : Int32) (σ : ST) : fX12_back_0 h w σ = if ¬ w < 0 ∧ ¬ 1 < w then (if (fX12_wrong_0 h σ).1 = 0 then fX12_back_0b25 h w (fX12_wrong_0 h σ).2 else fX12_wrong_0 h σ) else (-1, σ) := by
  unfold fX12_back_0 fX12_back_0b0 fX12_back_0b9 fX12_back_0b17 fX12_back_0b18 fX12_back_0b23
  simp only [bd_e, bp_e, in_M, ite01, pmk]
  by_cases d : ¬ w < 0 ∧ ¬ 1 < w
  · rw [if_neg (fun q => q d), if_pos (show ¬ w < 0 ∧ ¬ 1 < w from d)]
  · rw [if_pos d, if_neg (show ¬ (¬ w < 0 ∧ ¬ 1 < w) from d), if_neg (show ¬ (-1 : Int32) = 0 by decide)]
theorem bk57_l {K4 : Int32 → Int32 → Int32 → Int32 → Int32 → ST → Int32 × ST} {h v : Nat} {w l4 l5 : Int32} {f g : Nat → Nat} {τ : ST} (hh : h < 9) (hv : v < 6) (hf : ∀ k, k < 4 → τ.2.2 89 (4 * h + k) = nI (f k) ∧ f k ≤ 99) (hg : ∀ k, k < 4 → τ.2.2 91 (4 * v + k) = nI (g k) ∧ g k ≤ 99) : ∀ (fu m k : Nat), k + m = 4 → m < fu → fX12_back_0l57 K4 fu (nI h) w l4 l5 (nI v) (nI (sumTo (fun k => ad (g k) (f k)) k)) (nI k) τ = fX12_back_0b101 K4 (nI h) w l4 l5 (nI v) (nI (sumTo (fun k => ad (g k) (f k)) 4)) τ
  | 0, _, _, _, h => absurd h (Nat.not_lt_zero _)
  | fu + 1, 0, k, hk, _ => by
    have k4 : k = 4 := by omega
    subst k4
    show fX12_back_0b57 K4 (fX12_back_0l57 K4 fu) (nI h) w l4 l5 (nI v) _ (nI 4) τ = _
    unfold fX12_back_0b57
    rw [if_pos (show 4 ≤ nI 4 by decide)]
  | fu + 1, m + 1, k, hk, hfu => by
    obtain ⟨f1, f2⟩ := hf k (by omega)
    obtain ⟨g1, g2⟩ := hg k (by omega)
    rw [← bk57_l hh hv hf hg fu m (k + 1) (by omega) (by omega)]
    show fX12_back_0b57 K4 (fX12_back_0l57 K4 fu) (nI h) w l4 l5 (nI v) (nI (sumTo (fun k => ad (g k) (f k)) k)) (nI k) τ = fX12_back_0l57 K4 fu (nI h) w l4 l5 (nI v) (nI (sumTo (fun k => ad (g k) (f k)) k + ad (g k) (f k))) (nI (k + 1)) τ
    unfold fX12_back_0b57 fX12_back_0b63
    rw [if_neg (show ¬ 4 ≤ nI k from fun z => absurd ((leN (a := 4) (by omega) (by omega)).mp z) (by omega))]
    simp only [bd_e, n_4mul, nI_add, n_add1, show (nI (4 * h + k)).toNatClampNeg = 4 * h + k from nI_clamp (by omega), show (nI (4 * v + k)).toNatClampNeg = 4 * v + k from nI_clamp (by omega), f1, g1, size_M (a := f k) (b := g k) (by omega) (by omega), ad_comm (f k) (g k)]
theorem bk42_l {h K r : Nat} {w : Int32} {M : Nat → Nat} {m : Nat → Nat → Nat} {τ : ST} (hh : h < 9) (hK : K ≤ 6) (hr : r ≤ 399) (h40 : τ.1 40 = nI K) (hM : ∀ k, k < 4 → τ.2.2 89 (4 * h + k) = nI (M k) ∧ M k ≤ 99) (hm : ∀ v, v < K → ∀ k, k < 4 → τ.2.2 91 (4 * v + k) = nI (m v k) ∧ m v k ≤ 99) : ∀ (fu d v : Nat) (f : Option Nat), v + d = K → d < fu → NRF (fun v => sumTo (fun k => ad (m v k) (M k)) 4) r 0 v f → ∃ g, NRF (fun v => sumTo (fun k => ad (m v k) (M k)) 4) r 0 K g ∧ fX12_back_0l42 fu (nI h) w (fo f) (nI (lF (fun v => sumTo (fun k => ad (m v k) (M k)) 4) r f)) (nI v) τ = fX12_back_0b139 w (fo g) τ
  | 0, _, _, _, _, h, _ => absurd h (Nat.not_lt_zero _)
  | fu + 1, 0, v, f, hd, _, hf => by
    have ev : v = K := by omega
    subst ev
    refine ⟨f, hf, ?_⟩
    show fX12_back_0b42 (fX12_back_0l42 fu) (nI h) w (fo f) _ (nI v) τ = _
    unfold fX12_back_0b42
    simp only [bd_e, h40]
    rw [if_pos ((leN (by omega) (by omega)).mpr (Nat.le_refl _))]
  | fu + 1, d + 1, v, f, hd, hfu, hf => by
    have DL : ∀ u, u < K → sumTo (fun k => ad (m u k) (M k)) 4 ≤ 396 := fun u hu => off1_le (fun k hk => (hm u hu k hk).2) (fun k hk => (hM k hk).2)
    have dv := DL v (by omega)
    obtain ⟨g, g1, g2⟩ := bk42_l (w := w) hh hK hr h40 hM hm fu d (v + 1) (if sumTo (fun k => ad (m v k) (M k)) 4 < lF (fun v => sumTo (fun k => ad (m v k) (M k)) 4) r f then some v else f) (by omega) (by omega) (NRF_F hf)
    refine ⟨g, g1, ?_⟩
    have lf : lF (fun v => sumTo (fun k => ad (m v k) (M k)) 4) r f < 2 ^ 20 := by
      cases f with
      | none => show r + 1 < 2 ^ 20; omega
      | some u =>
        show sumTo (fun k => ad (m u k) (M k)) 4 < 2 ^ 20
        have := DL u (by have := hf.2.1; omega)
        omega
    rw [← g2]
    have e0 : fX12_back_0l42 (fu + 1) (nI h) w (fo f) (nI (lF (fun v => sumTo (fun k => ad (m v k) (M k)) 4) r f)) (nI v) τ = fX12_back_0b101 (fX12_back_0l42 fu) (nI h) w (fo f) (nI (lF (fun v => sumTo (fun k => ad (m v k) (M k)) 4) r f)) (nI v) (nI (sumTo (fun k => ad (m v k) (M k)) 4)) τ := by
      have z := bk57_l (K4 := fX12_back_0l42 fu) (w := w) (l4 := fo f) (l5 := nI (lF (fun v => sumTo (fun k => ad (m v k) (M k)) 4) r f)) (τ := τ) hh (show v < 6 by omega) hM (hm v (by omega)) 4096 4 0 (by omega) (by omega)
      have z0 : nI (sumTo (fun k => ad (m v k) (M k)) 0) = (0 : Int32) := nI_0
      rw [z0, nI_0] at z
      rw [← z]
      show fX12_back_0b42 (fX12_back_0l42 fu) (nI h) w (fo f) _ (nI v) τ = _
      unfold fX12_back_0b42 fX12_back_0b51
      simp only [bd_e, h40]
      rw [if_neg (fun q => absurd ((leN (by omega) (by omega)).mp q) (by omega))]
    rw [e0]
    unfold fX12_back_0b101 fX12_back_0b108 fX12_back_0b113 fX12_back_0b115 fX12_back_0b124 fX12_back_0b129 fX12_back_0b131
    simp only [bd_e, n_add1]
    by_cases c : sumTo (fun k => ad (m v k) (M k)) 4 < lF (fun v => sumTo (fun k => ad (m v k) (M k)) 4) r f
    · have n : ¬ nI (lF (fun v => sumTo (fun k => ad (m v k) (M k)) 4) r f) ≤ nI (sumTo (fun k => ad (m v k) (M k)) 4) := fun q => absurd ((leN (by omega) (by omega)).mp q) (by omega)
      rw [if_neg n, if_neg n, if_pos c]
      rfl
    · have p : nI (lF (fun v => sumTo (fun k => ad (m v k) (M k)) 4) r f) ≤ nI (sumTo (fun k => ad (m v k) (M k)) 4) := (leN (by omega) (by omega)).mpr (by omega)
      rw [if_pos p, if_pos p, if_neg c]
theorem a01 {w : Int32} (h : ¬ w < 0 ∧ ¬ 1 < w) : w = 0 ∨ w = 1 := by
  obtain ⟨n, hn, e⟩ := nI_of h.1
  have h2 := h.2
  subst e
  have h3 : n ≤ 1 := y_nlt (a := 1) (b := n) (by omega) hn h2
  rcases (show n = 0 ∨ n = 1 by omega) with rfl | rfl
  · exact Or.inl nI_0
  · exact Or.inr rfl
theorem back_eq {V : Nat → Nat} {H : Nat → Bool} {c c1 N r2 r3 r4 r5 : Nat} {σ : ST} (hK : KH σ) (hB : FB V H c c1 N r2 r3 r4 r5 σ) (hJ : JK σ) (h w : Int32) {σ1 : ST} {v1 : Int32} (x1 : fX11_back_0 h w σ = (v1, σ1)) : v1 = (fX12_back_0 h w σ1).1 := by
  rw [back_X] at x1
  rw [back_M]
  by_cases hw : ¬ w < 0 ∧ ¬ 1 < w
  · rw [if_pos hw]
    by_cases hh : HNo h
    · rw [if_pos (show HNo h ∧ ¬ w < 0 ∧ ¬ 1 < w from ⟨hh, hw⟩)] at x1
      obtain ⟨v, a1, a2, a3, a4, a5, a6⟩ := refused_both hK hB h
      rw [a2] at x1
      rcases a1.cases with rfl | ⟨_, w2, w3⟩
      · rw [if_pos (show (0 : Int32) ≤ ((0 : Int32), (fX11_heapNow_0 σ).2).1 from (show (0 : Int32) ≤ 0 by decide))] at x1
        obtain ⟨x, rfl, hx, hx2, hx3⟩ := a1.lt hh
        have q := a3 hx2
        have x1' : fX11_back_0b30 (nI x) w (fX11_heapNow_0 σ).2 = (v1, σ1) := x1
        generalize gs : (fX11_heapNow_0 σ).2 = s at *
        obtain ⟨K, j1, j2, j3, j4⟩ := hJ
        have e19 : s.1 19 = nI K := (a6.1 19 rfl).trans j2
        have r2le : r2 ≤ 399 := hB.2.1.2.1
        have M99 : ∀ i, i < 4 → MH V (HS (CUT V H c N).1 (BSc V H c N r2 r4).2.2 x) N i ≤ 99 := fun i hi => MH_le fun r hr hA => (a5.1.2.2.2.2.1.2.2.2 r hr (HS_heard hA) i hi).2
        have hm : ∃ m : Nat → Nat → Nat, ∀ v, v < K → ∀ k, k < 4 → (s.2.2 50 (v * 4 + k) = nI (m v k) ∧ σ.2.2 91 (4 * v + k) = nI (m v k)) ∧ m v k ≤ 99 := by
          refine ⟨fun v k => (σ.2.2 50 (v * 4 + k)).toNatClampNeg, fun v hv k hk => ?_⟩
          obtain ⟨_, j5⟩ := j4 v hv
          obtain ⟨m, m1, m2, m3⟩ := j5 k hk
          have em : (σ.2.2 50 (v * 4 + k)).toNatClampNeg = m := by rw [m2]; exact nI_clamp (by omega)
          show (s.2.2 50 (v * 4 + k) = nI (σ.2.2 50 (v * 4 + k)).toNatClampNeg ∧ σ.2.2 91 (4 * v + k) = nI (σ.2.2 50 (v * 4 + k)).toNatClampNeg) ∧ (σ.2.2 50 (v * 4 + k)).toNatClampNeg ≤ 99
          rw [em, a6.2 50 rfl]
          exact ⟨⟨m2, m3⟩, m1⟩
        obtain ⟨m, hm⟩ := hm
        have hD : ∀ v, v < K → fX11_off_2 (nI (v * 4)) (nI (x * 4)) s = nI (sumTo (fun k => ad (m v k) (MH V (HS (CUT V H c N).1 (BSc V H c N r2 r4).2.2 x) N k)) 4) ∧ sumTo (fun k => ad (m v k) (MH V (HS (CUT V H c N).1 (BSc V H c N r2 r4).2.2 x) N k)) 4 ≤ 396 := fun v hv => ⟨off2_e (by omega) (by omega) (fun k hk => ⟨(hm v hv k hk).1.1, (hm v hv k hk).2⟩) (fun k hk => ⟨q.2.2.2.1 x hx k hk, M99 k hk⟩), off1_le (fun k hk => (hm v hv k hk).2) M99⟩
        obtain ⟨f, f1, f2⟩ := nt15_l (h := x) (K := K) (r := r2) (D := fun v => sumTo (fun k => ad (m v k) (MH V (HS (CUT V H c N).1 (BSc V H c N r2 r4).2.2 x) N k)) 4) (σ := s) j1 r2le hD 4096 K none (Nat.le_refl _) (by omega) (fun u h1 h2 => by omega)
        have er2 := ruleNow_X (k := 2) (by omega) s
        have z2 : (2 : Int32) = nI 2 := rfl
        have en : fX5_nearestTo_0 (nI x) (s.2.2 1 2) s = fo f := by
          rw [← f2]
          unfold fX5_nearestTo_0 fX5_nearestTo_0b0
          simp only [bd_e, e19, a5.2.1.2.2.2.2.2.2.1]
          rfl
        have sX : (fX11_back_0b30 (nI x) w s).2 = s ∧ (fX11_back_0b30 (nI x) w s).1 = if fo f = -9 then fo f else if w = 1 then fo f else s.2.2 49 (fo f).toNatClampNeg := by
          unfold fX11_back_0b30 fX11_back_0b62 fX11_back_0b67 fX11_back_0b70
          simp only [bd_e, z2, er2, en]
          by_cases c1 : fo f = -9
          · rw [if_pos c1, if_pos c1]
            exact ⟨rfl, rfl⟩
          · rw [if_neg c1, if_neg c1]
            by_cases c2 : w = 1
            · rw [if_pos c2, if_pos c2]
              exact ⟨rfl, rfl⟩
            · rw [if_neg c2, if_neg c2]
              exact ⟨rfl, rfl⟩
        rw [x1'] at sX
        obtain ⟨es, ev⟩ := sX
        have es' : σ1 = s := es
        subst es'
        obtain ⟨τ2, b1, b2, _, b4⟩ := wrong_both a5 a4 a5.1.2.2.2.2.1 hh a1
        rw [b1, if_pos rfl]
        have e40 : τ2.1 40 = nI K := by rw [b4.1 40 rfl, a6.1 40 rfl]; exact j3
        have e662 : τ2.2.2 66 (2 : Int32).toNatClampNeg = nI r2 := by
          rw [show (2 : Int32).toNatClampNeg = 2 by decide, b4.2 66 rfl]
          exact a5.2.2.2.2.1
        obtain ⟨g, g1, g2⟩ := bk42_l (h := x) (K := K) (r := r2) (w := w) (M := fun k => MH V (HS (CUT V H c N).1 (BSc V H c N r2 r4).2.2 x) N k) (m := m) (τ := τ2) (by omega) j1 r2le e40 (fun k hk => ⟨(b2 hx2).1 x hx k hk, M99 k hk⟩) (fun v hv k hk => ⟨by rw [b4.2 91 rfl, a6.2 91 rfl]; exact (hm v hv k hk).1.2, (hm v hv k hk).2⟩) 4096 K 0 none (by omega) (by omega) (fun u _ h2 => absurd h2 (Nat.not_lt_zero _))
        have ef : f = g := NRF_un f1 g1
        subst ef
        have eM : fX12_back_0b25 (nI x) w τ2 = fX12_back_0b139 w (fo f) τ2 := by
          rw [← g2, nI_0]
          unfold fX12_back_0b25
          simp only [bd_e, e662, n_add1]
          rfl
        show v1 = (fX12_back_0b25 (nI x) w τ2).1
        rw [eM]
        have ev' : v1 = if fo f = -9 then fo f else if w = 1 then fo f else σ1.2.2 49 (fo f).toNatClampNeg := ev
        rw [ev']
        unfold fX12_back_0b139 fX12_back_0b146 fX12_back_0b151 fX12_back_0b156 fX12_back_0b163
        simp only [bd_e]
        by_cases c1 : fo f = -9
        · rw [if_pos c1, if_pos c1]
        · rw [if_neg c1, if_neg c1]
          by_cases c2 : w = 1
          · rw [if_pos c2, if_pos c2]
          · rw [if_neg c2, if_neg c2]
            cases f with
            | none => exact absurd rfl c1
            | some u =>
              have hu : u < K := f1.2.1
              have nu : (fo (some u)).toNatClampNeg = u := nI_clamp (by omega)
              rw [nu]
              show σ1.2.2 49 u = τ2.2.2 90 u
              rw [b4.2 90 rfl, a6.2 90 rfl, a6.2 49 rfl]
              exact (j4 u hu).1.symm
      · rw [if_neg w2] at x1
        have er := pin1 x1
        have es := pin2 x1
        subst es
        obtain ⟨τ2, b1, _, _, _⟩ := wrong_both a5 a4 a5.1.2.2.2.2.1 hh a1
        rw [b1, if_neg w3]
        exact er.symm
    · rw [if_neg (fun q => hh q.1)] at x1
      rw [wrong_bad hh, if_neg (show ¬ (-1 : Int32) = 0 by decide)]
      exact (pin1 x1).symm
  · rw [if_neg (fun q => hw q.2)] at x1
    rw [if_neg hw]
    exact (pin1 x1).symm
