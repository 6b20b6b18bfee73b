theorem rnum_l {t : Nat → Nat} {T s : Nat} : ∀ (fu : Nat) (σ : ST) (n : Nat), TX σ t T → s + n ≤ T → T - (s + n) < fu → fX8_readNumber_0l7 fu (nI s) (nI (nv t s n)) (sI σ 1 (nI (s + n))) = fX8_readNumber_0b70 (nI s) (nI (nv t s (rn isDg t T (s + n) - s))) (sI σ 1 (nI (rn isDg t T (s + n))))
  | 0, _, _, _, _, hf => absurd hf (Nat.not_lt_zero _)
  | fu + 1, σ, n, h, hp, hf => by
    have hT := h.2.1
    have e0 : (nI (s + n)).toNatClampNeg = s + n := nI_clamp (by omega)
    have a1 : (sI σ 1 (nI (s + n))).1 1 = nI (s + n) := sI_eq _ _ _
    have a0 : (sI σ 1 (nI (s + n))).1 0 = nI T := h.1
    show fX8_readNumber_0b7 (fX8_readNumber_0l7 fu) (nI s) (nI (nv t s n)) (sI σ 1 (nI (s + n))) = _
    unfold fX8_readNumber_0b7
    simp only [bd_e, a0, a1]
    by_cases c1 : T ≤ s + n
    · rw [if_pos ((leN (by omega) (by omega)).mpr c1), rn_stop (fun q => by omega), Nat.add_sub_cancel_left]
    · have hb := h.2.2 (s + n) (by omega)
      rw [if_neg (fun q => c1 ((leN (by omega) (by omega)).mp q))]
      unfold fX8_readNumber_0b18 fX8_readNumber_0b33
      simp only [bd_e, a1, e0, show (sI σ 1 (nI (s + n))).2.2 0 (s + n) = nI (t (s + n)) from hb.1, dig_X hb.2, ite01, n_add1, sI_sI]
      by_cases c2 : isDg (t (s + n)) = true
      · have hd : 48 ≤ t (s + n) ∧ t (s + n) ≤ 57 := by simpa [isDg] using c2
        have hv := nv_le t s n
        rw [if_neg (fun q => q c2), rn_go (by omega) c2]
        have key : (if 10000 < nI (nv t s n) * 10 + nI (t (s + n)) - 48 then (10000 : Int32) else nI (nv t s n) * 10 + nI (t (s + n)) - 48) = nI (nv t s (n + 1)) := by
          have e1 : nI (nv t s n) * 10 + nI (t (s + n)) - 48 = nI (nv t s n * 10 + (t (s + n) - 48)) := by
            rw [show nI (nv t s n) * 10 = nI (nv t s n * 10) from pk_mul _ 10, nI_add, show nv t s n * 10 + (t (s + n) - 48) = nv t s n * 10 + t (s + n) - 48 by omega]
            exact pk_sub (b := 48) (by omega)
          rw [e1]
          show _ = nI (min (nv t s n * 10 + (t (s + n) - 48)) 10000)
          by_cases c3 : 10000 < nv t s n * 10 + (t (s + n) - 48)
          · rw [if_pos (show 10000 < nI (nv t s n * 10 + (t (s + n) - 48)) from (ltN (a := 10000) (by omega) (by omega)).mpr c3), Nat.min_eq_right (by omega)]
            rfl
          · rw [if_neg (show ¬ 10000 < nI (nv t s n * 10 + (t (s + n) - 48)) from fun q => c3 ((ltN (a := 10000) (by omega) (by omega)).mp q)), Nat.min_eq_left (by omega)]
        rw [key]
        exact rnum_l fu σ (n + 1) h (by omega) (by omega)
      · rw [if_pos c2, rn_stop (fun q => c2 q.2), Nat.add_sub_cancel_left]
/-- the number at q, if one stands there -/
abbrev NumOk (t : Nat → Nat) (T q v : Nat) : Prop := rn isDg t T q ≠ q ∧ v = nv t q (rn isDg t T q - q) ∧ v ≤ 9999 ∧ ¬ (1 < rn isDg t T q - q ∧ t q = 48)
theorem rnum_X {t : Nat → Nat} {T : Nat} {σ : ST} (h : TX σ t T) {p : Nat} (hp : p ≤ T) : (∃ v, NumOk t T p v ∧ fX8_readNumber_0 (sI σ 1 (nI p)) = (nI v, sI σ 1 (nI (rn isDg t T p)))) ∨ ((∀ v, ¬ NumOk t T p v) ∧ fX8_readNumber_0 (sI σ 1 (nI p)) = (-1, sI σ 1 (nI (rn isDg t T p)))) := by
  have hT := h.2.1
  have a1 : (sI σ 1 (nI p)).1 1 = nI p := sI_eq _ _ _
  have hg := rn_ge (P := isDg) (t := t) hp
  have hl := rn_le (P := isDg) (t := t) hp
  have hv := nv_le t p (rn isDg t T p - p)
  have x : fX8_readNumber_0 (sI σ 1 (nI p)) = fX8_readNumber_0b70 (nI p) (nI (nv t p (rn isDg t T p - p))) (sI σ 1 (nI (rn isDg t T p))) := by
    unfold fX8_readNumber_0 fX8_readNumber_0b0
    simp only [bd_e, a1]
    exact rnum_l 4096 σ 0 h hp (by omega)
  rw [x]
  have a2 : (sI σ 1 (nI (rn isDg t T p))).1 1 = nI (rn isDg t T p) := sI_eq _ _ _
  have e0 : (nI p).toNatClampNeg = p := nI_clamp (by omega)
  unfold fX8_readNumber_0b70 fX8_readNumber_0b81 fX8_readNumber_0b88 fX8_readNumber_0b93 fX8_readNumber_0b104 fX8_readNumber_0b106
  simp only [bd_e, a2, e0]
  rw [pk_sub (a := rn isDg t T p) (b := p) hg]
  simp only [show nI (rn isDg t T p - p) = 0 ↔ rn isDg t T p - p = 0 from eqN (b := 0) (by omega) (by omega), show 9999 < nI (nv t p (rn isDg t T p - p)) ↔ 9999 < nv t p (rn isDg t T p - p) from ltN (a := 9999) (by omega) (by omega), show nI (rn isDg t T p - p) ≤ 1 ↔ rn isDg t T p - p ≤ 1 from leN (b := 1) (by omega) (by omega)]
  by_cases c1 : rn isDg t T p - p = 0
  · rw [if_pos c1]
    exact Or.inr ⟨fun v q => q.1 (by omega), rfl⟩
  · rw [if_neg c1]
    by_cases c2 : 9999 < nv t p (rn isDg t T p - p)
    · rw [if_pos c2]
      exact Or.inr ⟨fun v q => by have := q.2.1; have := q.2.2.1; omega, rfl⟩
    · rw [if_neg c2]
      by_cases c3 : rn isDg t T p - p ≤ 1
      · rw [if_pos c3]
        exact Or.inl ⟨_, ⟨by omega, rfl, by omega, fun q => by omega⟩, rfl⟩
      · have hb := h.2.2 p (by omega)
        rw [if_neg c3, show (sI σ 1 (nI (rn isDg t T p))).2.2 0 p = nI (t p) from hb.1]
        by_cases c4 : t p = 48
        · rw [if_pos (show nI (t p) = 48 from congrArg nI c4)]
          exact Or.inr ⟨fun v q => q.2.2.2 ⟨by omega, c4⟩, rfl⟩
        · rw [if_neg (show ¬ nI (t p) = 48 from fun q => c4 ((eqN (b := 48) (by omega) (by omega)).mp q))]
          exact Or.inl ⟨_, ⟨by omega, rfl, by omega, fun q => c4 q.2⟩, rfl⟩
def MX (k : Nat) : Nat := [999, 399, 399, 9999, 999, 399].getD k 0
def DFT (k : Nat) : Nat := [20, 10, 40, 0, 0, 10].getD k 0
theorem tab1_MX {k : Nat} (hk : k < 6) : tab1 k = nI (MX k) ∧ MX k ≤ 9999 ∧ tab0 k = nI (DFT k) ∧ DFT k ≤ MX k := by
  rcases (show k = 0 ∨ k = 1 ∨ k = 2 ∨ k = 3 ∨ k = 4 ∨ k = 5 by omega) with rfl | rfl | rfl | rfl | rfl | rfl <;> exact ⟨rfl, by decide, rfl, by decide⟩
/-- an item at p: word k, number v, a ; it ends at p' -/
def Item (P : Nat → Bool) (t : Nat → Nat) (T p k v p' : Nat) : Prop := k < 6 ∧ isW t p (rn P t T p) k ∧ rn isBl t T (rn P t T p) < T ∧ NumOk t T (rn isBl t T (rn P t T p)) v ∧ v ≤ MX k ∧ rn isBl t T (rn isDg t T (rn isBl t T (rn P t T p))) < T ∧ t (rn isBl t T (rn isDg t T (rn isBl t T (rn P t T p)))) = 59 ∧ p' = rn isBl t T (rn isDg t T (rn isBl t T (rn P t T p))) + 1
theorem Item.un {P : Nat → Bool} {t : Nat → Nat} {T p k v p' k2 v2 p2 : Nat} (h : Item P t T p k v p') (h2 : Item P t T p k2 v2 p2) : k = k2 ∧ v = v2 ∧ p' = p2 := by
  obtain ⟨a1, a2, a3, a4, a5, a6, a7, a8⟩ := h
  obtain ⟨b1, b2, b3, b4, b5, b6, b7, b8⟩ := h2
  exact ⟨isW_un a1 b1 a2 b2, a4.2.1.trans b4.2.1.symm, a8.trans b8.symm⟩
theorem neg1_nI {v : Nat} (hv : v < 2 ^ 31) : ¬ nI v = -1 := y_neq v hv (by decide)
theorem readItem_X {t : Nat → Nat} {T : Nat} {σ : ST} (h : TX σ t T) {p : Nat} (hp : p ≤ T) : (∃ k v p', Item isLe t T p k v p' ∧ σ.2.2 2 k = -1 ∧ fX8_readItem_0 (sI σ 1 (nI p)) = (-1, sA (sI σ 1 (nI p')) 2 (upd (σ.2.2 2) k (nI v)))) ∨ ((∀ k v p', Item isLe t T p k v p' → ¬ σ.2.2 2 k = -1) ∧ ∃ f a, f ≤ T ∧ a ≤ T ∧ fX8_readItem_0 (sI σ 1 (nI p)) = (nI f, sI σ 1 (nI a))) := by
  have hT := h.2.1
  have a1 : ∀ p, (sI σ 1 (nI p)).1 1 = nI p := fun p => sI_eq _ _ _
  have a0 : ∀ p, (sI σ 1 (nI p)).1 0 = nI T := fun _ => h.1
  have he := rn_le (P := isLe) (t := t) hp
  have hq := rn_le (P := isBl) (t := t) he
  have hr := rn_le (P := isDg) (t := t) hq
  have hs := rn_le (P := isBl) (t := t) hr
  unfold fX8_readItem_0 fX8_readItem_0b0
  simp only [bd_e, bp_e, a1]
  rcases readWord_X h hp with ⟨k, hk, hw, x1⟩ | ⟨hw, x1⟩
  · rw [x1, if_neg (neg1_nI (by omega))]
    unfold fX8_readItem_0b15 fX8_readItem_0b25
    simp only [bd_e]
    rw [show (nI k).toNatClampNeg = k from nI_clamp (by omega), show (sI σ 1 (nI (rn isLe t T p))).2.2 2 k = σ.2.2 2 k from rfl]
    by_cases c1 : σ.2.2 2 k = -1
    · rw [if_pos c1]
      unfold fX8_readItem_0b27 fX8_readItem_0b34
      simp only [bd_e, bp_e, ebb_X h he, a0, show ((1 : Int32) = 0) = False from eq_false (by decide)]
      by_cases c2 : rn isBl t T (rn isLe t T p) = T
      · rw [if_pos c2, if_neg (by decide)]
        refine Or.inr ⟨fun k2 v2 p2 q => absurd q.2.2.1 (by omega), T, _, Nat.le_refl _, hq, rfl⟩
      · rw [if_neg c2, if_pos rfl]
        unfold fX8_readItem_0b39 fX8_readItem_0b63
        simp only [bd_e, bp_e, a1]
        rcases rnum_X h hq with ⟨v, hv, x2⟩ | ⟨hv, x2⟩
        · have hv2 := hv.2.2.1
          rw [x2, if_neg (neg1_nI (by omega))]
          unfold fX8_readItem_0b54 fX8_readItem_0b63
          simp only [bd_e, show (nI k).toNatClampNeg = k from nI_clamp (by omega), (tab1_MX hk).1]
          simp only [leN (a := v) (b := MX k) (by omega) (by have := (tab1_MX hk).2.1; omega)]
          by_cases c3 : v ≤ MX k
          · rw [if_pos c3]
            unfold fX8_readItem_0b65 fX8_readItem_0b72
            simp only [bd_e, bp_e, ebb_X h hr, a0]
            by_cases c4 : rn isBl t T (rn isDg t T (rn isBl t T (rn isLe t T p))) = T
            · rw [if_pos c4, if_neg (by decide)]
              refine Or.inr ⟨fun k2 v2 p2 q => absurd q.2.2.2.2.2.1 (by omega), T, _, Nat.le_refl _, hs, rfl⟩
            · rw [if_neg c4, if_pos rfl]
              have hb := h.2.2 (rn isBl t T (rn isDg t T (rn isBl t T (rn isLe t T p)))) (by omega)
              unfold fX8_readItem_0b77 fX8_readItem_0b96 fX8_readItem_0b91
              simp only [bd_e, a1, show (nI (rn isBl t T (rn isDg t T (rn isBl t T (rn isLe t T p))))).toNatClampNeg = rn isBl t T (rn isDg t T (rn isBl t T (rn isLe t T p))) from nI_clamp (by omega), show (nI k).toNatClampNeg = k from nI_clamp (by omega), n_add1, sI_sI]
              rw [show (sI σ 1 (nI (rn isBl t T (rn isDg t T (rn isBl t T (rn isLe t T p)))))).2.2 0 (rn isBl t T (rn isDg t T (rn isBl t T (rn isLe t T p)))) = nI (t (rn isBl t T (rn isDg t T (rn isBl t T (rn isLe t T p))))) from hb.1]
              by_cases c5 : t (rn isBl t T (rn isDg t T (rn isBl t T (rn isLe t T p)))) = 59
              · rw [if_pos (show nI (t (rn isBl t T (rn isDg t T (rn isBl t T (rn isLe t T p))))) = 59 from congrArg nI c5)]
                exact Or.inl ⟨k, v, _, ⟨hk, hw, by omega, hv, c3, by omega, c5, rfl⟩, c1, rfl⟩
              · rw [if_neg (show ¬ nI (t (rn isBl t T (rn isDg t T (rn isBl t T (rn isLe t T p))))) = 59 from fun q => c5 ((eqN (b := 59) (by omega) (by omega)).mp q))]
                exact Or.inr ⟨fun k2 v2 p2 q => absurd q.2.2.2.2.2.2.1 c5, _, _, hs, hs, rfl⟩
          · rw [if_neg c3]
            refine Or.inr ⟨fun k2 v2 p2 q => ?_, _, _, hq, hr, rfl⟩
            have e1 := isW_un hk q.1 hw q.2.1
            subst e1
            have e2 := q.2.2.2.1.2.1.trans hv.2.1.symm
            exact absurd (e2 ▸ q.2.2.2.2.1) c3
        · rw [x2, if_pos rfl]
          exact Or.inr ⟨fun k2 v2 p2 q => absurd q.2.2.2.1 (hv v2), _, _, hq, hr, rfl⟩
    · rw [if_neg c1]
      refine Or.inr ⟨fun k2 v2 p2 q => ?_, p, _, hp, he, rfl⟩
      have e1 := isW_un hk q.1 hw q.2.1
      subst e1
      exact c1
  · rw [x1, if_pos rfl]
    unfold fX8_readItem_0b25
    exact Or.inr ⟨fun k2 v2 p2 q => absurd q.2.1 (hw k2 q.1), p, _, hp, he, rfl⟩
