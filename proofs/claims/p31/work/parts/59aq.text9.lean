theorem le_of_lo {b : Nat} (h : isLo b = true) : isLe b = true := by rw [isLe, h]; rfl
theorem lo_of_le {b : Nat} (h : isLe b = false) : isLo b = false := by
  cases q : isLo b
  · rfl
  · rw [le_of_lo q] at h
    exact absurd h (by decide)
theorem wch_lo {k i : Nat} (hk : k < 6) (hi : i < lenS.getD k 0) : isLo (wch k i) = true := by
  have := wch_e hk hi
  simp [isLo]
  omega
theorem isW_all {t : Nat → Nat} {p e k : Nat} (hk : k < 6) (h : isW t p e k) : ∀ j, p ≤ j → j < e → isLo (t j) = true := by
  intro j a b
  have h1 := h.2 (j - p) (by have := h.1; omega)
  rw [show p + (j - p) = j by omega] at h1
  rw [h1]
  exact wch_lo hk (by have := h.1; omega)
theorem Item_eq {t : Nat → Nat} {T p k v p' : Nat} (hp : p ≤ T) : Item isLe t T p k v p' ↔ Item isLo t T p k v p' := by
  constructor
  · intro h
    have e : rn isLo t T p = rn isLe t T p := rn_eq _ p _ (Nat.le_refl _) (rn_ge hp) (rn_le hp) (isW_all h.1 h.2.1) (fun q => lo_of_le (rn_end hp q))
    unfold Item at h ⊢
    rw [e]
    exact h
  · intro h
    have h1 := rn_le (P := isLo) (t := t) hp
    have hq := h.2.2.1
    have hq' := rn_ge (P := isBl) (t := t) h1
    have e : rn isLe t T p = rn isLo t T p := by
      refine rn_eq _ p _ (Nat.le_refl _) (rn_ge hp) h1 (fun j a b => le_of_lo (isW_all h.1 h.2.1 j a b)) (fun q => ?_)
      by_cases c : rn isBl t T (rn isLo t T p) = rn isLo t T p
      · have h4 := h.2.2.2.1.1
        rw [c] at h4
        have h5 : isDg (t (rn isLo t T p)) = true := by
          cases z : isDg (t (rn isLo t T p))
          · exact absurd (rn_stop (fun r => by rw [z] at r; exact absurd r.2 (by decide))) h4
          · rfl
        have h6 : 48 ≤ t (rn isLo t T p) ∧ t (rn isLo t T p) ≤ 57 := by simpa [isDg] using h5
        have h7 : ¬ isLe (t (rn isLo t T p)) = true := by
          simp [isLe, isLo]
          omega
        exact bool_f h7
      · have h5 : isBl (t (rn isLo t T p)) = true := rn_in h1 (Nat.le_refl _) (by omega)
        have h6 : t (rn isLo t T p) = 32 := by simpa [isBl] using h5
        rw [h6]
        rfl
    unfold Item at h ⊢
    rw [e]
    exact h
theorem POk_eq {t : Nat → Nat} {T : Nat} : ∀ f p td n m td', p ≤ T → (POk isLe t T f p td n m td' ↔ POk isLo t T f p td n m td')
  | 0, _, _, _, _, _, _ => Iff.rfl
  | f + 1, p, td, n, m, td', hp => by
    have hs := rn_le (P := isBl) (t := t) hp
    show (_ ∨ _) ↔ (_ ∨ _)
    refine or_congr Iff.rfl (and_congr Iff.rfl ⟨fun ⟨k, v, p', a, b, c⟩ => ⟨k, v, p', (Item_eq hs).mp a, b, (POk_eq f p' _ _ m td' (a.lim hs).2.1).mp c⟩, fun ⟨k, v, p', a, b, c⟩ => ⟨k, v, p', (Item_eq hs).mpr a, b, (POk_eq f p' _ _ m td' (a.lim hs).2.1).mpr c⟩⟩)
theorem POk.un {P : Nat → Bool} {t : Nat → Nat} {T : Nat} : ∀ f p td n m td' m2 td2, POk P t T f p td n m td' → POk P t T f p td n m2 td2 → m = m2 ∧ td' = td2
  | 0, _, _, _, _, _, _, _, h, _ => absurd h id
  | f + 1, p, td, n, m, td', m2, td2, h, h2 => by
    rcases h with ⟨a1, a2, a3⟩ | ⟨a1, k, v, p', a2, a3, a4⟩
    · rcases h2 with ⟨b1, b2, b3⟩ | ⟨b1, _⟩
      · exact ⟨a2.trans b2.symm, a3.trans b3.symm⟩
      · omega
    · rcases h2 with ⟨b1, _⟩ | ⟨b1, k2, v2, p2, b2, b3, b4⟩
      · omega
      · obtain ⟨rfl, rfl, rfl⟩ := a2.un b2
        exact POk.un f p' _ _ m td' m2 td2 a4 b4
/-- what is told is a number that may be -/
def TdV (td : Td) : Prop := ∀ k, k < 6 → td k = -1 ∨ ∃ v, v ≤ MX k ∧ td k = nI v
theorem POk.val {P : Nat → Bool} {t : Nat → Nat} {T : Nat} : ∀ f p td n m td', POk P t T f p td n m td' → TdV td → TdV td'
  | 0, _, _, _, _, _, h, _ => absurd h id
  | f + 1, p, td, n, m, td', h, hv => by
    rcases h with ⟨a1, a2, a3⟩ | ⟨a1, k, v, p', a2, a3, a4⟩
    · rw [a3]
      exact hv
    · refine POk.val f p' _ _ m td' a4 (fun j hj => ?_)
      by_cases c : j = k
      · subst c
        rw [pk_us]
        exact Or.inr ⟨v, a2.2.2.2.2.1, rfl⟩
      · rw [pk_un c]
        exact hv j hj
theorem atFirst_M (σ : ST) : (fX12_atFirst_0 6 σ).1 = σ.1 ∧ (∀ a, a ≠ 66 → (fX12_atFirst_0 6 σ).2.2 a = σ.2.2 a) ∧ (∀ k, k < 6 → (fX12_atFirst_0 6 σ).2.2 66 k = σ.2.2 66 k) ∧ ∀ k, k < 6 → (fX12_atFirst_0 6 σ).2.2 66 (6 + k) = nI (DFT k) := by
  have e : ∀ (f : Nat → Int32), upd (upd (upd (upd (upd (upd f 6 20) 7 10) 8 40) 9 0) 10 0) 11 10 = upd (upd (upd (upd (upd (upd f ((6 : Int32) + 0).toNatClampNeg 20) ((6 : Int32) + 1).toNatClampNeg 10) ((6 : Int32) + 2).toNatClampNeg 40) ((6 : Int32) + 3).toNatClampNeg 0) ((6 : Int32) + 4).toNatClampNeg 0) ((6 : Int32) + 5).toNatClampNeg 10 := fun f => rfl
  have x : (fX12_atFirst_0 6 σ).2.2 66 = upd (upd (upd (upd (upd (upd (σ.2.2 66) 6 20) 7 10) 8 40) 9 0) 10 0) 11 10 := by
    rw [e]
    rfl
  refine ⟨rfl, fun a ha => ?_, fun k hk => ?_, fun k hk => ?_⟩
  · simp only [fX12_atFirst_0, fX12_atFirst_0b0, bd_e]
    rw [sA_ne _ _ (beq_f ha), sA_ne _ _ (beq_f ha), sA_ne _ _ (beq_f ha), sA_ne _ _ (beq_f ha), sA_ne _ _ (beq_f ha), sA_ne _ _ (beq_f ha)]
  · rw [x, pk_un (by omega), pk_un (by omega), pk_un (by omega), pk_un (by omega), pk_un (by omega), pk_un (by omega)]
  · rw [x]
    rcases (show k = 0 ∨ k = 1 ∨ k = 2 ∨ k = 3 ∨ k = 4 ∨ k = 5 by omega) with rfl | rfl | rfl | rfl | rfl | rfl <;> rfl
theorem rules_M {t : Nat → Nat} {T : Nat} {σ : ST} (h : TM σ t T) {td : Td} (htd : ∀ k, k < 6 → td k = -1) : RdM σ isLo t T 300 0 td 0 (fX12_rules_0 σ) := by
  have hT := h.2.1
  obtain ⟨a1, a2, a3, a4⟩ := atFirst_M (sI (sI σ 26 0) 30 (-9))
  unfold fX12_rules_0 fX12_rules_0b0
  simp only [bd_e]
  generalize fX12_atFirst_0 6 (sI (sI σ 26 0) 30 (-9)) = β at *
  have bM : TM β t T := by
    refine ⟨by rw [a1]; exact h.1, hT, fun j hj => ?_⟩
    rw [a2 67 (by decide)]
    exact h.2.2 j hj
  obtain ⟨r1, k1⟩ := next_M bM (Nat.zero_le T) (by rw [a1]; exact nI_0.symm)
  have f1 : (fX12_next_0 β).1 30 = -9 := (r1.2 30 (by decide) (by decide) (by decide) (by decide)).trans (by rw [a1]; rfl)
  have g1 : (fX12_next_0 β).1 25 = σ.1 25 := (r1.2 25 (by decide) (by decide) (by decide) (by decide)).trans (by rw [a1]; rfl)
  have e1 := r1.1
  have m1 := r1.tm bM
  generalize fX12_next_0 β = τ at *
  have ih := rules_l 4096 τ 0 0 0 300 td m1 k1 (Nat.zero_le _) f1 (by omega) (fun k hk => ⟨fun _ => htd k hk, fun _ => Nat.zero_testBit k⟩) (fun k hk => by rw [e1, a4 k hk, if_pos (htd k hk)]) (by omega) (by omega)
  rw [nI_0] at ih
  rcases ih with i | ⟨i1, i2, i3, i4⟩
  · exact Or.inl i
  · exact Or.inr ⟨i1, i2, i3.trans g1, fun k hk => by rw [i4 k hk, e1, a3 k hk]; rfl⟩
