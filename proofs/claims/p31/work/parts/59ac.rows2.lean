/-- rows a .. b are asked for, of R -/
abbrev AR (a b : Int32) (R : Nat) : Prop := ¬ a < 0 ∧ ¬ b < a ∧ b < nI R
theorem AR.nat {a b : Int32} {R : Nat} (h : AR a b R) (hR : R ≤ 48) : ∃ f t : Nat, a = nI f ∧ b = nI t ∧ f ≤ t ∧ t < R := by
  obtain ⟨h1, h2, h3⟩ := h
  obtain ⟨f, hf, ef⟩ := nI_of h1
  have h4 : ¬ b < 0 := fun q => by
    rw [Int32.lt_iff_toInt_lt] at h1 h2 q
    omega
  obtain ⟨t, ht, et⟩ := nI_of h4
  subst ef
  subst et
  exact ⟨f, t, rfl, rfl, y_nlt ht hf h2, y_lt ht (by omega) h3⟩
theorem AR.of {f t R : Nat} (h1 : f ≤ t) (h2 : t < R) (hR : R ≤ 48) : AR (nI f) (nI t) R := ⟨nI_pos (by omega), fun q => absurd (y_lt (by omega) (by omega) q) (by omega), (nI_ltI (by omega) (by omega)).mpr h2⟩
theorem areRows_X {σ : ST} {R : Nat} (h : σ.1 2 = nI R) (hR : R ≤ 48) (a b : Int32) : fX11_areRows_0 a b σ = if AR a b R then 1 else 0 := by
  simp only [fX11_areRows_0, fX11_areRows_0b0, fX11_areRows_0b4, fX11_areRows_0b9, fX11_areRows_0b20, fX11_areRows_0b24, fX11_areRows_0b25, bd, h]
  by_cases h1 : a < 0
  · rw [if_pos h1, if_neg (fun q : AR a b R => q.1 h1)]
  · by_cases h2 : b < a
    · rw [if_neg h1, if_pos h2, if_neg (fun q : AR a b R => q.2.1 h2)]
    · by_cases h3 : nI R ≤ b
      · rw [if_neg h1, if_neg h2, if_pos h3, if_neg (fun q : AR a b R => ?_)]
        have q3 := q.2.2
        rw [Int32.lt_iff_toInt_lt] at q3
        rw [Int32.le_iff_toInt_le] at h3
        omega
      · rw [if_neg h1, if_neg h2, if_neg h3, if_pos (show AR a b R from ⟨h1, h2, y_nle_lt h3⟩)]
theorem ar_sub {R : Nat} (hR : R ≤ 48) (x : Int32) : (¬ nI R - 1 < x) ↔ x < nI R := by
  rw [Int32.lt_iff_toInt_lt, Int32.lt_iff_toInt_lt, y_sub1 (by omega), nI_toInt (by omega)]
  omega
theorem areRows_M {σ : ST} {R : Nat} (h : σ.1 31 = nI R) (hR : R ≤ 48) (a b : Int32) : fX12_areRows_0 a b σ = if AR a b R then 1 else 0 := by
  simp only [fX12_areRows_0, fX12_areRows_0b0, fX12_areRows_0b8, fX12_areRows_0b22, fX12_areRows_0b26, fX12_areRows_0b27, fX12_isRow_0, fX12_isRow_0b0, bd, h, in_M, ite01, ar_sub hR]
  by_cases h1 : ¬ a < 0 ∧ a < nI R
  · rw [if_neg (fun q => q h1)]
    by_cases h2 : ¬ b < a ∧ b < nI R
    · rw [if_neg (fun q => q h2), if_pos (show AR a b R from ⟨h1.1, h2.1, h2.2⟩)]
    · rw [if_pos h2, if_neg (fun q : AR a b R => h2 ⟨q.2.1, q.2.2⟩)]
  · rw [if_pos h1, if_neg (fun q : AR a b R => h1 ⟨q.1, ?_⟩)]
    have q1 := q.2.1
    have q2 := q.2.2
    rw [Int32.lt_iff_toInt_lt] at q1 q2 ⊢
    omega
/-- v on the n places from a on -/
def putN (f : Nat → Int32) (v : Int32) (a n : Nat) : Nat → Int32 := fun j => if a ≤ j ∧ j < a + n then v else f j
theorem putN_0 (f : Nat → Int32) (v : Int32) (a : Nat) : putN f v a 0 = f := by
  funext j
  exact if_neg (by omega)
theorem putN_step (f : Nat → Int32) (v : Int32) (a n : Nat) : putN (upd f a v) v (a + 1) n = putN f v a (n + 1) := by
  funext j
  show (if a + 1 ≤ j ∧ j < a + 1 + n then v else upd f a v j) = (if a ≤ j ∧ j < a + (n + 1) then v else f j)
  by_cases h : j = a
  · subst h
    rw [if_neg (by omega), if_pos (by omega)]
    exact pk_us
  · by_cases c : a + 1 ≤ j ∧ j < a + 1 + n
    · rw [if_pos c, if_pos (by omega)]
    · rw [if_neg c, if_neg (by omega)]
      exact pk_un h
theorem upd_same {f : Nat → Int32} {i : Nat} {v : Int32} (h : f i = v) : upd f i v = f := by
  funext j
  by_cases c : j = i
  · subst c
    exact pk_us.trans h.symm
  · exact pk_un c
theorem putN_same {f : Nat → Int32} {v : Int32} {a : Nat} (h : f a = v) (n : Nat) : putN f v (a + 1) n = putN f v a (n + 1) := by
  rw [← putN_step, upd_same h]
/-- how many of the n places from a on are otherwise -/
def cntN (f : Nat → Int32) (v : Int32) : Nat → Nat → Nat
  | _, 0 => 0
  | a, n + 1 => (if f a = v then 0 else 1) + cntN f v (a + 1) n
theorem cntN_upd {f : Nat → Int32} {v x : Int32} : ∀ n a i, i < a → cntN (upd f i x) v a n = cntN f v a n
  | 0, _, _, _ => rfl
  | n + 1, a, i, h => by
    show (if upd f i x a = v then 0 else 1) + cntN (upd f i x) v (a + 1) n = _
    rw [pk_un (show a ≠ i by omega), cntN_upd n (a + 1) i (by omega)]
    rfl
theorem cntN_le {f : Nat → Int32} {v : Int32} : ∀ n a, cntN f v a n ≤ n
  | 0, _ => Nat.le_refl _
  | n + 1, a => by
    have h := cntN_le (f := f) (v := v) n (a + 1)
    show (if f a = v then 0 else 1) + cntN f v (a + 1) n ≤ n + 1
    split <;> omega
theorem cntN_eq {f g : Nat → Int32} {v : Int32} {R : Nat} (h : ∀ r, r < R → g r = f r) : ∀ n a, a + n ≤ R → cntN g v a n = cntN f v a n
  | 0, _, _ => rfl
  | n + 1, a, hn => by
    show (if g a = v then 0 else 1) + cntN g v (a + 1) n = _
    rw [h a (by omega), cntN_eq h n (a + 1) (by omega)]
    rfl
