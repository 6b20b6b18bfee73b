/-! the worth of a dealing out: a i = the heap of piece i -/
def rs (L : Nat → Nat → Int32) (a : Nat → Nat) (i : Nat) : Nat → Int32
  | 0 => 0
  | j + 1 => rs L a i j + (if a i = a j then L j i else 0)
def WO (L : Nat → Nat → Int32) (a : Nat → Nat) : Nat → Int32
  | 0 => 0
  | i + 1 => WO L a i + rs L a i i
theorem rs_congr {L : Nat → Nat → Int32} {a b : Nat → Nat} {i : Nat} : ∀ j, a i = b i → (∀ k, k < j → a k = b k) → rs L a i j = rs L b i j
  | 0, _, _ => rfl
  | j + 1, h, e => by
    show rs L a i j + (if a i = a j then L j i else 0) = rs L b i j + (if b i = b j then L j i else 0)
    rw [rs_congr j h (fun k hk => e k (by omega)), h, e j (by omega)]
theorem WO_congr {L : Nat → Nat → Int32} {a b : Nat → Nat} : ∀ i, (∀ k, k < i → a k = b k) → WO L a i = WO L b i
  | 0, _ => rfl
  | i + 1, e => by
    show WO L a i + rs L a i i = WO L b i + rs L b i i
    rw [WO_congr i (fun k hk => e k (by omega)), rs_congr i (e i (by omega)) (fun k hk => e k (by omega))]
theorem wo15_l {K : Int32 → Int32 → ST → Int32} {L : Nat → Nat → Int32} {a : Nat → Nat} {n i : Nat} {A : Int32} {τ : ST} (hn : n ≤ 9) (hi : i < n) (hG : GNS L n τ) (hs : ∀ x y, x < n → y < n → L x y = L y x) (ha : ∀ j, j < n → τ.2.2 85 j = nI (a j) ∧ a j ≤ 9) : ∀ (fu d j : Nat), j + d = i → d < fu → fX12_worthOf_0l15 K fu (A + rs L a i j) (nI i) (nI j) τ = K (A + rs L a i i) (nI (i + 1)) τ := by
  intro fu
  induction fu with
  | zero =>
    intro d j _ h
    exact absurd h (Nat.not_lt_zero _)
  | succ fu ih =>
    intro d j hd hf
    cases d with
    | zero =>
      have ej : j = i := by omega
      subst ej
      show fX12_worthOf_0b15 K (fX12_worthOf_0l15 K fu) (A + rs L a j j) (nI j) (nI j) τ = _
      unfold fX12_worthOf_0b15 fX12_worthOf_0b56
      simp only [bd_e, n_add1]
      rw [if_pos ((leN (by omega) (by omega)).mpr (Nat.le_refl _))]
    | succ d =>
      have e9 : (9 : Int32) * nI i = nI (9 * i) := pk_mul 9 i
      obtain ⟨a1, a2⟩ := ha i hi
      obtain ⟨b1, b2⟩ := ha j (by omega)
      rw [← ih d (j + 1) (by omega) (by omega)]
      show fX12_worthOf_0b15 K (fX12_worthOf_0l15 K fu) (A + rs L a i j) (nI i) (nI j) τ = fX12_worthOf_0l15 K fu (A + (rs L a i j + (if a i = a j then L j i else 0))) (nI i) (nI (j + 1)) τ
      unfold fX12_worthOf_0b15 fX12_worthOf_0b21 fX12_worthOf_0b32 fX12_worthOf_0b47 fX12_worthOf_0b48
      simp only [bd_e, n_add1, e9, nI_add, show (nI (9 * i + j)).toNatClampNeg = 9 * i + j from nI_clamp (by omega), show (nI i).toNatClampNeg = i from nI_clamp (by omega), show (nI j).toNatClampNeg = j from nI_clamp (by omega), a1, b1, nI_eq (a := a i) (b := a j) (by omega) (by omega)]
      rw [if_neg (fun q => absurd ((leN (by omega) (by omega)).mp q) (by omega))]
      by_cases c : a i = a j
      · rw [if_pos c, if_pos c, hG i j hi (by omega) (by omega), hs i j hi (by omega), Int32.add_assoc]
      · rw [if_neg c, if_neg c, Int32.add_zero, Int32.add_zero]
theorem wo4_l {L : Nat → Nat → Int32} {a : Nat → Nat} {n : Nat} {τ : ST} (hn : n ≤ 9) (h35 : τ.1 35 = nI n) (hG : GNS L n τ) (hs : ∀ x y, x < n → y < n → L x y = L y x) (ha : ∀ j, j < n → τ.2.2 85 j = nI (a j) ∧ a j ≤ 9) : ∀ (fu d i : Nat), i + d = n → d < fu → fX12_worthOf_0l4 fu (WO L a i) (nI i) τ = WO L a n := by
  intro fu
  induction fu with
  | zero =>
    intro d i _ h
    exact absurd h (Nat.not_lt_zero _)
  | succ fu ih =>
    intro d i hd hf
    cases d with
    | zero =>
      have ei : i = n := by omega
      subst ei
      show fX12_worthOf_0b4 (fX12_worthOf_0l4 fu) (WO L a i) (nI i) τ = _
      unfold fX12_worthOf_0b4 fX12_worthOf_0b62
      simp only [bd_e, h35]
      rw [if_pos ((leN (by omega) (by omega)).mpr (Nat.le_refl _))]
    | succ d =>
      have k := wo15_l (K := fX12_worthOf_0l4 fu) (A := WO L a i) hn (show i < n by omega) hG hs ha 4096 i 0 (by omega) (by omega)
      have z : WO L a i + rs L a i 0 = WO L a i := Int32.add_zero _
      rw [z, nI_0] at k
      rw [← ih d (i + 1) (by omega) (by omega)]
      show fX12_worthOf_0b4 (fX12_worthOf_0l4 fu) (WO L a i) (nI i) τ = fX12_worthOf_0l4 fu (WO L a i + rs L a i i) (nI (i + 1)) τ
      unfold fX12_worthOf_0b4 fX12_worthOf_0b12
      simp only [bd_e, h35, n_add1]
      rw [if_neg (fun q => absurd ((leN (by omega) (by omega)).mp q) (by omega))]
      exact k
theorem worth_M {L : Nat → Nat → Int32} {a : Nat → Nat} {n : Nat} {τ : ST} (hn : n ≤ 9) (h35 : τ.1 35 = nI n) (hG : GNS L n τ) (hs : ∀ x y, x < n → y < n → L x y = L y x) (ha : ∀ j, j < n → τ.2.2 85 j = nI (a j) ∧ a j ≤ 9) : fX12_worthOf_0 τ = WO L a n := by
  have k := wo4_l hn h35 hG hs ha 4096 n 0 (by omega) (by omega)
  rw [← k, nI_0]
  rfl
/-- heaps that the i first pieces lie in -/
def hpi (a : Nat → Nat) : Nat → Nat
  | 0 => 0
  | i + 1 => max (hpi a i) (a i + 1)
theorem hpi_congr {a b : Nat → Nat} : ∀ i, (∀ k, k < i → a k = b k) → hpi a i = hpi b i
  | 0, _ => rfl
  | i + 1, e => by
    show max (hpi a i) (a i + 1) = max (hpi b i) (b i + 1)
    rw [hpi_congr i (fun k hk => e k (by omega)), e i (by omega)]
theorem hpi_le {a : Nat → Nat} : ∀ i, (∀ k, k < i → a k ≤ 9) → hpi a i ≤ 10
  | 0, _ => Nat.zero_le _
  | i + 1, e => by
    have h1 := hpi_le i (fun k hk => e k (by omega))
    have h2 := e i (by omega)
    show max (hpi a i) (a i + 1) ≤ 10
    omega
theorem heapsIn_M {a : Nat → Nat} {i : Nat} {τ : ST} (hi : i ≤ 9) (ha : ∀ j, j < i → τ.2.2 85 j = nI (a j) ∧ a j ≤ 9) : fX12_heapsIn_0 (nI i) τ = nI (hpi a i) := by
  have loop : ∀ (fu d j : Nat), j + d = i → d < fu → fX12_heapsIn_0l4 fu (nI i) (nI (hpi a j)) (nI j) τ = nI (hpi a i) := by
    intro fu
    induction fu with
    | zero =>
      intro d j _ h
      exact absurd h (Nat.not_lt_zero _)
    | succ fu ih =>
      intro d j hd hf
      cases d with
      | zero =>
        have ej : j = i := by omega
        subst ej
        show fX12_heapsIn_0b4 (fX12_heapsIn_0l4 fu) (nI j) (nI (hpi a j)) (nI j) τ = _
        unfold fX12_heapsIn_0b4 fX12_heapsIn_0b32
        rw [if_pos ((leN (by omega) (by omega)).mpr (Nat.le_refl _))]
      | succ d =>
        obtain ⟨b1, b2⟩ := ha j (by omega)
        have hp := hpi_le (a := a) j (fun k hk => (ha k (by omega)).2)
        rw [← ih d (j + 1) (by omega) (by omega)]
        show fX12_heapsIn_0b4 (fX12_heapsIn_0l4 fu) (nI i) (nI (hpi a j)) (nI j) τ = fX12_heapsIn_0l4 fu (nI i) (nI (max (hpi a j) (a j + 1))) (nI (j + 1)) τ
        unfold fX12_heapsIn_0b4 fX12_heapsIn_0b9 fX12_heapsIn_0b24 fX12_heapsIn_0b16 fX12_heapsIn_0b25
        simp only [bd_e, n_add1, show (nI j).toNatClampNeg = j from nI_clamp (by omega), b1, nI_ltI (a := a j) (b := hpi a j) (by omega) (by omega)]
        rw [if_neg (fun q => absurd ((leN (by omega) (by omega)).mp q) (by omega))]
        by_cases c : a j < hpi a j
        · rw [if_pos c, show max (hpi a j) (a j + 1) = hpi a j by omega]
        · rw [if_neg c, show max (hpi a j) (a j + 1) = a j + 1 by omega]
  have k := loop 4096 i 0 (by omega) (by omega)
  rw [← k, show hpi a 0 = 0 from rfl, nI_0]
  rfl
