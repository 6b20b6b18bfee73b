/-! the reference reads a text -/
def sg (b : Nat) : Int32 := (nI b).toInt8.toInt32
theorem sg_and {b : Nat} (h : b < 256) : sg b &&& 255 = nI b := (show ∀ b, b < 256 → sg b &&& 255 = nI b by decide +kernel) b h
theorem sg_lo {b : Nat} (h : b < 128) : sg b = nI b := (show ∀ b, b < 128 → sg b = nI b by decide +kernel) b h
/-- the reference's text is the bytes t, T of them -/
def TM (σ : ST) (t : Nat → Nat) (T : Nat) : Prop := σ.1 25 = nI T ∧ T ≤ 200 ∧ ∀ j, j < T → σ.2.2 67 j = sg (t j) ∧ t j < 256
theorem here_M {t : Nat → Nat} {T : Nat} {τ : ST} (h : TM τ t T) {p : Nat} (hp : p ≤ T) (e : τ.1 26 = nI p) : fX12_here_0 τ = if p < T then nI (t p) else -1 := by
  have hT := h.2.1
  simp only [fX12_here_0, fX12_here_0b0, fX12_here_0b11, fX12_here_0b27, fX12_here_0b28, bd_e, e, h.1, show (nI p).toNatClampNeg = p from nI_clamp (by omega)]
  simp only [leN (a := T) (b := p) (by omega) (by omega)]
  by_cases c : p < T
  · have hb := h.2.2 p c
    rw [if_neg (by omega), if_pos c, hb.1, sg_and hb.2]
  · rw [if_pos (by omega), if_neg c]
theorem nx_l0 {t : Nat → Nat} {T : Nat} : ∀ (fu : Nat) (σ : ST) (p : Nat), TM σ t T → p ≤ T → T - p < fu → fX12_next_0l0 fu (sI σ 26 (nI p)) = fX12_next_0b22 (sI σ 26 (nI (rn isBl t T p)))
  | 0, _, _, _, _, hf => absurd hf (Nat.not_lt_zero _)
  | fu + 1, σ, p, h, hp, hf => by
    have hT := h.2.1
    have a1 : (sI σ 26 (nI p)).1 26 = nI p := sI_eq _ _ _
    have h' : TM (sI σ 26 (nI p)) t T := h
    show fX12_next_0b0 (fX12_next_0l0 fu) (sI σ 26 (nI p)) = _
    unfold fX12_next_0b0 fX12_next_0b9
    simp only [bd_e, here_M h' hp a1, a1, n_add1, sI_sI]
    by_cases c1 : p < T
    · have hb := h.2.2 p c1
      rw [if_pos c1]
      by_cases c2 : t p = 32
      · rw [if_pos (show nI (t p) = 32 from congrArg nI c2), rn_go c1 (show isBl (t p) = true by rw [isBl, c2]; rfl)]
        exact nx_l0 fu σ (p + 1) h (by omega) (by omega)
      · rw [if_neg (show ¬ nI (t p) = 32 from fun q => c2 ((eqN (b := 32) (by omega) (by omega)).mp q)), rn_stop (fun q => c2 (by simpa [isBl] using q.2))]
    · rw [if_neg c1, if_neg (by decide), rn_stop (fun q => c1 q.1)]
theorem nx_l63 {t : Nat → Nat} {T : Nat} : ∀ (fu : Nat) (σ : ST) (p : Nat), TM σ t T → p ≤ T → T - p < fu → fX12_next_0l63 fu (sI σ 26 (nI p)) = fX12_next_0b90 (sI σ 26 (nI (rn isLo t T p)))
  | 0, _, _, _, _, hf => absurd hf (Nat.not_lt_zero _)
  | fu + 1, σ, p, h, hp, hf => by
    have hT := h.2.1
    have a1 : (sI σ 26 (nI p)).1 26 = nI p := sI_eq _ _ _
    have h' : TM (sI σ 26 (nI p)) t T := h
    show fX12_next_0b63 (fX12_next_0l63 fu) (sI σ 26 (nI p)) = _
    unfold fX12_next_0b63 fX12_next_0b77
    simp only [bd_e, here_M h' hp a1, a1, n_add1, sI_sI, in_M, ite01]
    by_cases c1 : p < T
    · have hb := h.2.2 p c1
      rw [if_pos c1]
      have e1 : (¬ nI (t p) < 97 ∧ ¬ 122 < nI (t p)) ↔ isLo (t p) = true := by
        rw [show nI (t p) < 97 ↔ t p < 97 from ltN (b := 97) (by omega) (by omega), show 122 < nI (t p) ↔ 122 < t p from ltN (a := 122) (by omega) (by omega)]
        simp only [isLo, Bool.and_eq_true, decide_eq_true_eq]
        omega
      simp only [e1]
      by_cases c2 : isLo (t p) = true
      · rw [if_neg (fun q => q c2), rn_go c1 c2]
        exact nx_l63 fu σ (p + 1) h (by omega) (by omega)
      · rw [if_pos c2, rn_stop (fun q => c2 q.2)]
    · rw [if_neg c1, if_pos (by decide), rn_stop (fun q => c1 q.1)]
theorem sI_comm (σ : ST) {k j : Nat} (v w : Int32) (h : k ≠ j) : sI (sI σ k v) j w = sI (sI σ j w) k v := by
  refine Prod.ext (funext fun i => ?_) rfl
  show cond (Nat.beq i j) w (cond (Nat.beq i k) v (σ.1 i)) = cond (Nat.beq i k) v (cond (Nat.beq i j) w (σ.1 i))
  cases c1 : Nat.beq i j
  · rfl
  · cases c2 : Nat.beq i k
    · rfl
    · exact absurd ((Nat.eq_of_beq_eq_true c2).symm.trans (Nat.eq_of_beq_eq_true c1)) h
/-- the reference's value of a number -/
def mv (t : Nat → Nat) (p : Nat) : Nat → Nat
  | 0 => 0
  | n + 1 => if mv t p n ≤ 9999 then 10 * mv t p n + (t (p + n) - 48) else mv t p n
theorem mv_nv {t : Nat → Nat} {p : Nat} : ∀ n, (∀ i, i < n → isDg (t (p + i)) = true) → (mv t p n = nv t p n ∧ nv t p n ≤ 9999) ∨ (9999 < mv t p n ∧ mv t p n ≤ 100000 ∧ nv t p n = 10000)
  | 0, _ => Or.inl ⟨rfl, by show 0 ≤ 9999; omega⟩
  | n + 1, h => by
    have h1 := mv_nv n (fun i hi => h i (by omega))
    have h2 : 48 ≤ t (p + n) ∧ t (p + n) ≤ 57 := by simpa [isDg] using h n (by omega)
    show ((if mv t p n ≤ 9999 then 10 * mv t p n + (t (p + n) - 48) else mv t p n) = min (nv t p n * 10 + (t (p + n) - 48)) 10000 ∧ min (nv t p n * 10 + (t (p + n) - 48)) 10000 ≤ 9999) ∨ (9999 < (if mv t p n ≤ 9999 then 10 * mv t p n + (t (p + n) - 48) else mv t p n) ∧ (if mv t p n ≤ 9999 then 10 * mv t p n + (t (p + n) - 48) else mv t p n) ≤ 100000 ∧ min (nv t p n * 10 + (t (p + n) - 48)) 10000 = 10000)
    rcases h1 with ⟨a, b⟩ | ⟨a, b, c⟩
    · rw [if_pos (by omega)]
      by_cases d : nv t p n * 10 + (t (p + n) - 48) ≤ 9999
      · rw [Nat.min_eq_left (by omega)]
        exact Or.inl ⟨by omega, d⟩
      · rw [Nat.min_eq_right (by omega)]
        exact Or.inr ⟨by omega, by omega, rfl⟩
    · rw [if_neg (by omega), Nat.min_eq_right (by omega)]
      exact Or.inr ⟨a, b, rfl⟩
theorem nx_l138 {t : Nat → Nat} {T s : Nat} {c0 : Int32} : ∀ (fu : Nat) (σ : ST) (n : Nat), TM σ t T → s + n ≤ T → T - (s + n) < fu → (∀ i, i < n → isDg (t (s + i)) = true) → fX12_next_0l138 fu c0 (sI (sI σ 29 (nI (mv t s n))) 26 (nI (s + n))) = fX12_next_0b201 c0 (sI (sI σ 29 (nI (mv t s (rn isDg t T (s + n) - s)))) 26 (nI (rn isDg t T (s + n))))
  | 0, _, _, _, _, hf, _ => absurd hf (Nat.not_lt_zero _)
  | fu + 1, σ, n, h, hp, hf, hd => by
    have hT := h.2.1
    have a1 : (sI (sI σ 29 (nI (mv t s n))) 26 (nI (s + n))).1 26 = nI (s + n) := sI_eq _ _ _
    have a2 : (sI (sI σ 29 (nI (mv t s n))) 26 (nI (s + n))).1 29 = nI (mv t s n) := rfl
    have h' : TM (sI (sI σ 29 (nI (mv t s n))) 26 (nI (s + n))) t T := h
    have hm := mv_nv n hd
    have hm2 := nv_le t s n
    show fX12_next_0b138 (fX12_next_0l138 fu) c0 (sI (sI σ 29 (nI (mv t s n))) 26 (nI (s + n))) = _
    have key : ∀ v : Int32, fX12_next_0b185 (fX12_next_0l138 fu) c0 v (sI (sI σ 29 (nI (mv t s n))) 26 (nI (s + n))) = fX12_next_0l138 fu c0 (sI (sI σ 29 v) 26 (nI (s + n + 1))) := by
      intro v
      unfold fX12_next_0b185
      simp only [bd_e]
      rw [show (sI (sI (sI σ 29 (nI (mv t s n))) 26 (nI (s + n))) 29 v).1 26 = nI (s + n) from rfl, n_add1, sI_comm _ _ _ (by decide), sI_sI, sI_comm _ _ _ (by decide), sI_sI]
    unfold fX12_next_0b138 fX12_next_0b152 fX12_next_0b163 fX12_next_0b170
    simp only [bd_e, here_M h' hp a1, a1, a2, in_M, ite01]
    by_cases c1 : s + n < T
    · have hb := h.2.2 (s + n) c1
      rw [if_pos c1]
      have e1 : (¬ nI (t (s + n)) < 48 ∧ ¬ 57 < nI (t (s + n))) ↔ isDg (t (s + n)) = true := by
        rw [show nI (t (s + n)) < 48 ↔ t (s + n) < 48 from ltN (b := 48) (by omega) (by omega), show 57 < nI (t (s + n)) ↔ 57 < t (s + n) from ltN (a := 57) (by omega) (by omega)]
        simp only [isDg, Bool.and_eq_true, decide_eq_true_eq]
        omega
      simp only [e1]
      by_cases c2 : isDg (t (s + n)) = true
      · have h2 : 48 ≤ t (s + n) ∧ t (s + n) ≤ 57 := by simpa [isDg] using c2
        rw [if_neg (fun q => q c2), rn_go c1 c2]
        have hd2 : ∀ i, i < n + 1 → isDg (t (s + i)) = true := fun i hi => by
          rcases Nat.eq_or_lt_of_le (Nat.le_of_lt_succ hi) with e | e
          · rw [e]
            exact c2
          · exact hd i e
        have ih := nx_l138 (c0 := c0) fu σ (n + 1) h (by omega) (by omega) hd2
        rw [show s + (n + 1) = s + n + 1 by omega] at ih
        simp only [show nI (mv t s n) ≤ 9999 ↔ mv t s n ≤ 9999 from leN (b := 9999) (by omega) (by omega)]
        by_cases c3 : mv t s n ≤ 9999
        · rw [if_pos c3, key]
          have e2 : 10 * nI (mv t s n) + nI (t (s + n)) - 48 = nI (mv t s (n + 1)) := by
            show _ = nI (if mv t s n ≤ 9999 then 10 * mv t s n + (t (s + n) - 48) else mv t s n)
            rw [if_pos c3, show 10 * nI (mv t s n) = nI (10 * mv t s n) from pk_mul 10 _, nI_add, show 10 * mv t s n + (t (s + n) - 48) = 10 * mv t s n + t (s + n) - 48 by omega]
            exact pk_sub (b := 48) (by omega)
          rw [e2]
          exact ih
        · rw [if_neg c3, key]
          have e2 : mv t s n = mv t s (n + 1) := by
            show _ = (if mv t s n ≤ 9999 then 10 * mv t s n + (t (s + n) - 48) else mv t s n)
            rw [if_neg c3]
          rw [e2]
          exact ih
      · rw [if_pos c2, rn_stop (fun q => c2 q.2), Nat.add_sub_cancel_left]
    · rw [if_neg c1, if_pos (by decide), rn_stop (fun q => c1 q.1), Nat.add_sub_cancel_left]
/-- a word as a number -/
def cv (t : Nat → Nat) (s : Nat) : Nat → Nat
  | 0 => 0
  | n + 1 => cv t s n * 27 + (t (s + n) - 96)
theorem more_M {a c : Nat} (σ : ST) (h1 : 97 ≤ c) (h2 : c ≤ 122) : fX12_more_0 (lN a) (nI c) σ = lN (a * 27 + (c - 96)) := by
  simp only [fX12_more_0, fX12_more_0b0, fX12_more_0b4, fX12_more_0b8, fX12_more_0b22, bd_e]
  rw [if_neg (show ¬ nI c = 0 from fun q => absurd ((eqN (b := 0) (by omega) (by omega)).mp (q.trans nI_0.symm)) (by omega)), nI_l (by omega), show lN a * 27 = lN (a * 27) from lN_mul a 27, lN_add, show lN (a * 27 + c) - 97 = lN (a * 27 + c - 97) from lN_sub (b := 97) (by omega), show lN (a * 27 + c - 97) + 1 = lN (a * 27 + c - 97 + 1) from lN_add _ 1]
  exact congrArg lN (by omega)
theorem more_0 {a : Int64} (σ : ST) : fX12_more_0 a 0 σ = a := by
  simp only [fX12_more_0, fX12_more_0b0, fX12_more_0b4, fX12_more_0b8, fX12_more_0b22, bd_e]
  rw [if_pos trivial]
