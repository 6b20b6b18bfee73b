/-! the class reads a text -/
abbrev Td := Nat → Int32
def cntT (td : Td) : Nat := (if td 0 = -1 then 0 else 1) + (if td 1 = -1 then 0 else 1) + (if td 2 = -1 then 0 else 1) + (if td 3 = -1 then 0 else 1) + (if td 4 = -1 then 0 else 1) + (if td 5 = -1 then 0 else 1)
theorem cntT_le (td : Td) : cntT td ≤ 6 := by
  unfold cntT
  have h : ∀ k, (if td k = -1 then 0 else 1) ≤ 1 := fun k => by split <;> omega
  have h0 := h 0
  have h1 := h 1
  have h2 := h 2
  have h3 := h 3
  have h4 := h 4
  have h5 := h 5
  omega
theorem cntT_up {td : Td} {k : Nat} {x : Int32} (hk : k < 6) (h : td k = -1) (hx : ¬ x = -1) : cntT (upd td k x) = cntT td + 1 := by
  unfold cntT
  rcases (show k = 0 ∨ k = 1 ∨ k = 2 ∨ k = 3 ∨ k = 4 ∨ k = 5 by omega) with rfl | rfl | rfl | rfl | rfl | rfl <;> (simp only [upd, if_pos h]; simp [hx]; try omega)
/-- from p on, td told, n items: m items at the end, td' told -/
def POk (P : Nat → Bool) (t : Nat → Nat) (T : Nat) : Nat → Nat → Td → Nat → Nat → Td → Prop
  | 0, _, _, _, _, _ => False
  | f + 1, p, td, n, m, td' => (rn isBl t T p = T ∧ m = n ∧ td' = td) ∨ (rn isBl t T p < T ∧ ∃ k v p', Item P t T (rn isBl t T p) k v p' ∧ td k = -1 ∧ POk P t T f p' (upd td k (nI v)) (n + 1) m td')
theorem Item.lim {P : Nat → Bool} {t : Nat → Nat} {T p k v p' : Nat} (h : Item P t T p k v p') (hp : p ≤ T) : p < p' ∧ p' ≤ T ∧ v ≤ 9999 := by
  obtain ⟨a1, a2, a3, a4, a5, a6, a7, a8⟩ := h
  have h1 := rn_ge (P := P) (t := t) hp
  have h2 := rn_le (P := P) (t := t) hp
  have h3 := rn_ge (P := isBl) (t := t) h2
  have h4 := rn_le (P := isBl) (t := t) h2
  have h5 := rn_ge (P := isDg) (t := t) h4
  have h6 := rn_le (P := isDg) (t := t) h4
  have h7 := rn_ge (P := isBl) (t := t) h6
  exact ⟨by omega, by omega, a4.2.2.1⟩
theorem adopt_l : ∀ (fu : Nat) (τ : ST) (k : Nat), k ≤ 6 → 6 - k < fu → (fX8_adopt_0l2 fu (nI k) τ).1 0 = 0 ∧ (∀ j, j < k → (fX8_adopt_0l2 fu (nI k) τ).2.2 1 j = τ.2.2 1 j) ∧ (∀ j, k ≤ j → j < 6 → (fX8_adopt_0l2 fu (nI k) τ).2.2 1 j = if τ.2.2 2 j = -1 then nI (DFT j) else τ.2.2 2 j)
  | 0, _, _, _, hf => absurd hf (Nat.not_lt_zero _)
  | fu + 1, τ, k, hk, hf => by
    have e0 : (nI k).toNatClampNeg = k := nI_clamp (by omega)
    have key : fX8_adopt_0l2 (fu + 1) (nI k) τ = if 6 ≤ k then sI τ 0 0 else fX8_adopt_0l2 fu (nI (k + 1)) (sA τ 1 (upd (τ.2.2 1) k (if τ.2.2 2 k = -1 then tab0 k else τ.2.2 2 k))) := by
      show fX8_adopt_0b2 (fX8_adopt_0l2 fu) (nI k) τ = _
      simp only [fX8_adopt_0, fX8_adopt_0b0, fX8_adopt_0b2, fX8_adopt_0b8, fX8_adopt_0b23, fX8_adopt_0b31, fX8_adopt_0b37, fX8_adopt_0b44, bd_e, e0, n_add1]
      by_cases c1 : 6 ≤ k
      · rw [if_pos (show 6 ≤ nI k from (leN (a := 6) (by omega) (by omega)).mpr c1), if_pos c1]
      · rw [if_neg (show ¬ 6 ≤ nI k from fun q => c1 ((leN (a := 6) (by omega) (by omega)).mp q)), if_neg c1]
        by_cases c2 : τ.2.2 2 k = -1
        · rw [if_pos c2, if_pos c2]
        · rw [if_neg c2, if_neg c2]
    rw [key]
    by_cases c1 : 6 ≤ k
    · rw [if_pos c1]
      exact ⟨rfl, fun j _ => rfl, fun j a b => by omega⟩
    · rw [if_neg c1]
      obtain ⟨h1, h2, h3⟩ := adopt_l fu (sA τ 1 (upd (τ.2.2 1) k (if τ.2.2 2 k = -1 then tab0 k else τ.2.2 2 k))) (k + 1) (by omega) (by omega)
      refine ⟨h1, fun j hj => ?_, fun j a b => ?_⟩
      · rw [h2 j (by omega), sA_eq]
        exact pk_un (by omega)
      · rcases Nat.eq_or_lt_of_le a with c | c
        · subst c
          rw [h2 k (by omega), sA_eq, pk_us, (tab1_MX (by omega : k < 6)).2.2.1]
        · rw [h3 j c b]
          rfl
theorem adopt_X (τ : ST) : (fX8_adopt_0 τ).1 0 = 0 ∧ ∀ j, j < 6 → (fX8_adopt_0 τ).2.2 1 j = if τ.2.2 2 j = -1 then nI (DFT j) else τ.2.2 2 j := by
  obtain ⟨h1, h2, h3⟩ := adopt_l 4096 τ 0 (by omega) (by omega)
  exact ⟨h1, fun j hj => h3 j (Nat.zero_le _) hj⟩
/-- what reading has come to -/
def RdX (σ : ST) (P : Nat → Bool) (t : Nat → Nat) (T f p : Nat) (td : Td) (n : Nat) (x : Int32 × ST) : Prop := (∃ m td', POk P t T f p td n m td' ∧ x.1 = nI m ∧ m ≤ 6 ∧ x.2.1 0 = 0 ∧ ∀ k, k < 6 → x.2.2.2 1 k = if td' k = -1 then nI (DFT k) else td' k) ∨ ((∀ m td', ¬ POk P t T f p td n m td') ∧ ∃ a, a ≤ T ∧ x.1 = -10 - nI a ∧ x.2.1 0 = σ.1 0 ∧ x.2.2.2 1 = σ.2.2 1)
theorem read_l {t : Nat → Nat} {T : Nat} : ∀ (fu : Nat) (σ : ST) (p n f : Nat), TX σ t T → p ≤ T → cntT (σ.2.2 2) = n → 7 - n < fu → T - p < f → RdX σ isLe t T f p (σ.2.2 2) n (fX8_read_0l15 fu (nI n) (sI σ 1 (nI p)))
  | 0, _, _, _, _, _, _, _, hf, _ => absurd hf (Nat.not_lt_zero _)
  | fu + 1, σ, p, n, f, h, hp, hc, hf, hfp => by
    have hT := h.2.1
    have hn : n ≤ 6 := by
      have := cntT_le (σ.2.2 2)
      omega
    have hq := rn_le (P := isBl) (t := t) hp
    have hq' := rn_ge (P := isBl) (t := t) hp
    obtain ⟨g, rfl⟩ : ∃ g, f = g + 1 := ⟨f - 1, by omega⟩
    show RdX σ isLe t T (g + 1) p (σ.2.2 2) n (fX8_read_0b15 (fX8_read_0l15 fu) (nI n) (sI σ 1 (nI p)))
    unfold fX8_read_0b15 fX8_read_0b21
    simp only [bd_e, bp_e, ebb_X h hp]
    rw [if_neg (show ¬ 6 < nI n from fun q => absurd ((ltN (a := 6) (by omega) (by omega)).mp q) (by omega))]
    by_cases c1 : rn isBl t T p = T
    · rw [if_pos c1, if_neg (by decide)]
      unfold fX8_read_0b28
      simp only [bd_e]
      have ha := adopt_X (sI σ 1 (nI (rn isBl t T p)))
      exact Or.inl ⟨n, σ.2.2 2, Or.inl ⟨c1, rfl, rfl⟩, rfl, hn, ha.1, ha.2⟩
    · rw [if_neg c1, if_pos rfl]
      unfold fX8_read_0b34
      simp only [bp_e]
      rcases readItem_X h hq with ⟨k, v, p', hi, hk, x1⟩ | ⟨hi, b, a, hb, ha, x1⟩
      · have hl := hi.lim hq
        rw [x1, if_pos (show (-1 : Int32) < 0 by decide)]
        unfold fX8_read_0b48
        simp only [bd_e, n_add1]
        have e1 : sA (sI σ 1 (nI p')) 2 (upd (σ.2.2 2) k (nI v)) = sI (sA σ 2 (upd (σ.2.2 2) k (nI v))) 1 (nI p') := rfl
        rw [e1]
        have h2 : TX (sA σ 2 (upd (σ.2.2 2) k (nI v))) t T := h
        have e2 : (sA σ 2 (upd (σ.2.2 2) k (nI v))).2.2 2 = upd (σ.2.2 2) k (nI v) := sA_eq _ _ _
        have hc2 : cntT ((sA σ 2 (upd (σ.2.2 2) k (nI v))).2.2 2) = n + 1 := by
          rw [e2, cntT_up hi.1 hk (neg1_nI (by omega)), hc]
        have ih := read_l fu (sA σ 2 (upd (σ.2.2 2) k (nI v))) p' (n + 1) g h2 hl.2.1 hc2 (by have := cntT_le ((sA σ 2 (upd (σ.2.2 2) k (nI v))).2.2 2); omega) (by omega)
        rw [e2] at ih
        rcases ih with ⟨m, td', i1, i2, i3, i4, i5⟩ | ⟨i1, i2⟩
        · exact Or.inl ⟨m, td', Or.inr ⟨by omega, k, v, p', hi, hk, i1⟩, i2, i3, i4, i5⟩
        · refine Or.inr ⟨fun m td' q => ?_, i2⟩
          rcases q with q | ⟨_, k2, v2, p2, q1, q2, q3⟩
          · exact c1 q.1
          · obtain ⟨rfl, rfl, rfl⟩ := hi.un q1
            exact i1 m td' q3
      · rw [x1, if_neg (nI_pos (by omega))]
        unfold fX8_read_0b43
        simp only [bd_e]
        refine Or.inr ⟨fun m td' q => ?_, b, hb, rfl, rfl, rfl⟩
        rcases q with q | ⟨_, k2, v2, p2, q1, q2, q3⟩
        · exact c1 q.1
        · exact hi k2 v2 p2 q1 q2
theorem read_X {t : Nat → Nat} {T : Nat} {σ : ST} (h : TX σ t T) : RdX σ isLe t T 300 0 (fun j => if j < 6 then -1 else σ.2.2 2 j) 0 (fX8_read_0 σ) := by
  have hT := h.2.1
  have h2 : TX (sA σ 2 (fun j => if j < 6 then -1 else σ.2.2 2 j)) t T := h
  have e2 : (sA σ 2 (fun j => if j < 6 then -1 else σ.2.2 2 j)).2.2 2 = (fun j => if j < 6 then -1 else σ.2.2 2 j) := sA_eq _ _ _
  have := read_l 4096 (sA σ 2 (fun j => if j < 6 then -1 else σ.2.2 2 j)) 0 0 300 h2 (Nat.zero_le _) (by rw [e2]; rfl) (by omega) (by omega)
  rw [e2] at this
  exact this
