theorem cmp0 {x y : Int64} : (lg_cmp x y = 0) ↔ x = y := by
  unfold lg_cmp
  by_cases h1 : x > y
  · rw [if_pos h1]
    refine ⟨fun q => absurd q (by decide), fun q => ?_⟩
    subst q
    exact absurd h1 (by rw [gt_iff_lt, Int64.lt_iff_toInt_lt]; omega)
  · rw [if_neg h1]
    by_cases h2 : x = y
    · rw [if_pos h2]
      exact ⟨fun _ => h2, fun _ => rfl⟩
    · rw [if_neg h2]
      exact ⟨fun q => absurd q (by decide), fun q => absurd q h2⟩
theorem code5 (a b c d e : Nat) (σ : ST) (h : (97 ≤ a ∧ a ≤ 122) ∧ (97 ≤ b ∧ b ≤ 122) ∧ (97 ≤ c ∧ c ≤ 122) ∧ (97 ≤ d ∧ d ≤ 122) ∧ (97 ≤ e ∧ e ≤ 122)) : fX12_code_0 (nI a) (nI b) (nI c) (nI d) (nI e) σ = lN (((((0 * 27 + (a - 96)) * 27 + (b - 96)) * 27 + (c - 96)) * 27 + (d - 96)) * 27 + (e - 96)) := by
  simp only [fX12_code_0, fX12_code_0b0, bd_e]
  rw [show (0 : Int64) = lN 0 from rfl, more_M σ h.1.1 h.1.2, more_M σ h.2.1.1 h.2.1.2, more_M σ h.2.2.1.1 h.2.2.1.2, more_M σ h.2.2.2.1.1 h.2.2.2.1.2, more_M σ h.2.2.2.2.1 h.2.2.2.2.2]
theorem code4 (a b c d : Nat) (σ : ST) (h : (97 ≤ a ∧ a ≤ 122) ∧ (97 ≤ b ∧ b ≤ 122) ∧ (97 ≤ c ∧ c ≤ 122) ∧ (97 ≤ d ∧ d ≤ 122)) : fX12_code_0 (nI a) (nI b) (nI c) (nI d) 0 σ = lN ((((0 * 27 + (a - 96)) * 27 + (b - 96)) * 27 + (c - 96)) * 27 + (d - 96)) := by
  simp only [fX12_code_0, fX12_code_0b0, bd_e]
  rw [show (0 : Int64) = lN 0 from rfl, more_M σ h.1.1 h.1.2, more_M σ h.2.1.1 h.2.1.2, more_M σ h.2.2.1.1 h.2.2.1.2, more_M σ h.2.2.2.1 h.2.2.2.2, more_0]
/-- the six words as numbers -/
def KW (k : Nat) : Nat := [8863997, 173294, 243059, 279252, 409469, 11088176].getD k 0
theorem cv_lim {t : Nat → Nat} {s : Nat} : ∀ n, (∀ i, i < n → isLo (t (s + i)) = true) → n ≤ 6 → cv t s n < 27 ^ n
  | 0, _, _ => by show 0 < 1; omega
  | n + 1, h, hn => by
    have h1 := cv_lim n (fun i hi => h i (by omega)) (by omega)
    have h2 : 97 ≤ t (s + n) ∧ t (s + n) ≤ 122 := by simpa [isLo] using h n (by omega)
    show cv t s n * 27 + (t (s + n) - 96) < 27 ^ (n + 1)
    rw [Nat.pow_succ]
    omega
theorem lo_b {b : Nat} (h : isLo b = true) : 97 ≤ b ∧ b ≤ 122 := by simpa [isLo] using h
def pv (f : Nat → Nat) : Nat → Nat
  | 0 => 0
  | n + 1 => pv f n * 27 + f n
theorem pv_inj {f g : Nat → Nat} : ∀ n m, (∀ i, i < n → 1 ≤ f i ∧ f i ≤ 26) → (∀ i, i < m → 1 ≤ g i ∧ g i ≤ 26) → pv f n = pv g m → n = m ∧ ∀ i, i < n → f i = g i
  | 0, 0, _, _, _ => ⟨rfl, fun i hi => absurd hi (Nat.not_lt_zero _)⟩
  | 0, m + 1, _, hg, h => by
    have h1 := hg m (by omega)
    have h2 : 0 = pv g m * 27 + g m := h
    omega
  | n + 1, 0, hf, _, h => by
    have h1 := hf n (by omega)
    have h2 : pv f n * 27 + f n = 0 := h
    omega
  | n + 1, m + 1, hf, hg, h => by
    have h1 := hf n (by omega)
    have h2 := hg m (by omega)
    have h3 : pv f n * 27 + f n = pv g m * 27 + g m := h
    have h4 : pv f n = pv g m ∧ f n = g m := by omega
    obtain ⟨h5, h6⟩ := pv_inj n m (fun i hi => hf i (by omega)) (fun i hi => hg i (by omega)) h4.1
    subst h5
    refine ⟨rfl, fun i hi => ?_⟩
    rcases Nat.eq_or_lt_of_le (Nat.le_of_lt_succ hi) with c | c
    · rw [c]
      exact h4.2
    · exact h6 i c
theorem pv_eq {f g : Nat → Nat} : ∀ n, (∀ i, i < n → f i = g i) → pv f n = pv g n
  | 0, _ => rfl
  | n + 1, h => by
    show pv f n * 27 + f n = pv g n * 27 + g n
    rw [pv_eq n (fun i hi => h i (by omega)), h n (by omega)]
theorem cv_pv (t : Nat → Nat) (s : Nat) : ∀ n, cv t s n = pv (fun i => t (s + i) - 96) n
  | 0 => rfl
  | n + 1 => by
    show cv t s n * 27 + (t (s + n) - 96) = _
    rw [cv_pv t s n]
    rfl
theorem KW_pv {k : Nat} (hk : k < 6) : KW k = pv (fun i => wch k i - 96) (lenS.getD k 0) := by
  rcases (show k = 0 ∨ k = 1 ∨ k = 2 ∨ k = 3 ∨ k = 4 ∨ k = 5 by omega) with rfl | rfl | rfl | rfl | rfl | rfl <;> decide +kernel
theorem cv_KW {t : Nat → Nat} {s n k : Nat} (hk : k < 6) (h : ∀ i, i < n → isLo (t (s + i)) = true) : cv t s n = KW k ↔ (n = lenS.getD k 0 ∧ ∀ i, i < lenS.getD k 0 → t (s + i) = wch k i) := by
  rw [cv_pv, KW_pv hk]
  constructor
  · intro e
    obtain ⟨a, b⟩ := pv_inj n (lenS.getD k 0) (fun i hi => by have := lo_b (h i hi); omega) (fun i hi => by have := (wch_e hk hi).2; omega) e
    refine ⟨a, fun i hi => ?_⟩
    have b1 : t (s + i) - 96 = wch k i - 96 := b i (by omega)
    have b2 := lo_b (h i (by omega))
    have b3 := (wch_e hk hi).2
    omega
  · intro ⟨a, b⟩
    rw [← a]
    exact pv_eq n (fun i hi => by show t (s + i) - 96 = wch k i - 96; rw [b i (by omega)])
