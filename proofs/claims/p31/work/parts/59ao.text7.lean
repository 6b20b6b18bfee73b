theorem wo_l5 {t : Nat → Nat} {T s e : Nat} {τ : ST} (h : TM τ t T) (he : e ≤ T) (hlo : ∀ i, i < e - s → isLo (t (s + i)) = true) : ∀ (fu n : Nat), n ≤ 6 → n ≤ e - s → s ≤ e → 6 - n < fu → fX12_wordOf_0l5 fu (nI s) (nI e) (lN (cv t s n)) (nI (s + n)) τ = fX12_wordOf_0b38 (nI s) (nI e) (lN (cv t s (min (e - s) 6))) τ
  | 0, _, _, _, _, hf => absurd hf (Nat.not_lt_zero _)
  | fu + 1, n, hn, hn2, hse, hf => by
    have hT := h.2.1
    show fX12_wordOf_0b5 (fX12_wordOf_0l5 fu) (nI s) (nI e) (lN (cv t s n)) (nI (s + n)) τ = _
    unfold fX12_wordOf_0b5 fX12_wordOf_0b11 fX12_wordOf_0b20
    simp only [bd_e, show nI s + 6 = nI (s + 6) from nI_add s 6, show (nI (s + n)).toNatClampNeg = s + n from nI_clamp (by omega), n_add1]
    simp only [leN (a := e) (b := s + n) (by omega) (by omega), leN (a := s + 6) (b := s + n) (by omega) (by omega)]
    by_cases c1 : e ≤ s + n
    · rw [if_pos c1, Nat.min_eq_left (by omega), show n = e - s by omega]
    · rw [if_neg c1]
      by_cases c2 : s + 6 ≤ s + n
      · rw [if_pos c2, Nat.min_eq_right (by omega), show n = 6 by omega]
      · rw [if_neg c2]
        have hb := h.2.2 (s + n) (by omega)
        have hl := lo_b (hlo n (by omega))
        rw [hb.1, sg_lo (by omega), more_M τ hl.1 hl.2]
        exact wo_l5 h he hlo fu (n + 1) (by omega) (by omega) hse (by omega)
theorem wo_38 {s e v : Nat} (τ : ST) (hs : s ≤ e) (he : e ≤ 200) (hv : v < 2 ^ 40) : fX12_wordOf_0b38 (nI s) (nI e) (lN v) τ = if e - s ≤ 5 then (if v = KW 5 then 5 else if v = KW 4 then 4 else if v = KW 3 then 3 else if v = KW 2 then 2 else if v = KW 1 then 1 else if v = KW 0 then 0 else -9) else -9 := by
  have k0 : fX12_code_0 112 114 105 99 101 τ = lN 8863997 := code5 112 114 105 99 101 τ (by omega)
  have k1 : fX12_code_0 104 117 115 104 0 τ = lN 173294 := code4 104 117 115 104 τ (by omega)
  have k2 : fX12_code_0 108 105 107 101 0 τ = lN 243059 := code4 108 105 107 101 τ (by omega)
  have k3 : fX12_code_0 110 101 97 114 0 τ = lN 279252 := code4 110 101 97 114 τ (by omega)
  have k4 : fX12_code_0 116 117 114 110 0 τ = lN 409469 := code4 116 117 114 110 τ (by omega)
  have k5 : fX12_code_0 116 119 105 99 101 τ = lN 11088176 := code5 116 119 105 99 101 τ (by omega)
  have last : ∀ x : Int32, fX12_wordOf_0b192 (nI s) (nI e) x τ = if e - s ≤ 5 then x else -9 := by
    intro x
    unfold fX12_wordOf_0b192 fX12_wordOf_0b206 fX12_wordOf_0b201 fX12_wordOf_0b208
    simp only [bd_e, pk_sub (a := e) (b := s) hs, show nI (e - s) ≤ 5 ↔ e - s ≤ 5 from leN (b := 5) (by omega) (by omega)]
  have b166 : ∀ x : Int32, fX12_wordOf_0b166 (nI s) (nI e) (lN v) x τ = if e - s ≤ 5 then (if v = 11088176 then 5 else x) else -9 := by
    intro x
    unfold fX12_wordOf_0b166 fX12_wordOf_0b186 fX12_wordOf_0b190
    simp only [bd_e, k5, cmp0, last, pk_lEQ (a := v) (b := 11088176) (by omega) (by omega)]
    by_cases c : v = 11088176
    · rw [if_pos c, if_pos c]
    · rw [if_neg c, if_neg c]
  have b141 : ∀ x : Int32, fX12_wordOf_0b141 (nI s) (nI e) (lN v) x τ = if e - s ≤ 5 then (if v = 11088176 then 5 else if v = 409469 then 4 else x) else -9 := by
    intro x
    unfold fX12_wordOf_0b141 fX12_wordOf_0b160 fX12_wordOf_0b164
    simp only [bd_e, k4, cmp0, b166, pk_lEQ (a := v) (b := 409469) (by omega) (by omega)]
    by_cases c : v = 409469
    · rw [if_pos c, if_pos c]
    · rw [if_neg c, if_neg c]
  have b116 : ∀ x : Int32, fX12_wordOf_0b116 (nI s) (nI e) (lN v) x τ = if e - s ≤ 5 then (if v = 11088176 then 5 else if v = 409469 then 4 else if v = 279252 then 3 else x) else -9 := by
    intro x
    unfold fX12_wordOf_0b116 fX12_wordOf_0b135 fX12_wordOf_0b139
    simp only [bd_e, k3, cmp0, b141, pk_lEQ (a := v) (b := 279252) (by omega) (by omega)]
    by_cases c : v = 279252
    · rw [if_pos c, if_pos c]
    · rw [if_neg c, if_neg c]
  have b91 : ∀ x : Int32, fX12_wordOf_0b91 (nI s) (nI e) (lN v) x τ = if e - s ≤ 5 then (if v = 11088176 then 5 else if v = 409469 then 4 else if v = 279252 then 3 else if v = 243059 then 2 else x) else -9 := by
    intro x
    unfold fX12_wordOf_0b91 fX12_wordOf_0b110 fX12_wordOf_0b114
    simp only [bd_e, k2, cmp0, b116, pk_lEQ (a := v) (b := 243059) (by omega) (by omega)]
    by_cases c : v = 243059
    · rw [if_pos c, if_pos c]
    · rw [if_neg c, if_neg c]
  have b66 : ∀ x : Int32, fX12_wordOf_0b66 (nI s) (nI e) (lN v) x τ = if e - s ≤ 5 then (if v = 11088176 then 5 else if v = 409469 then 4 else if v = 279252 then 3 else if v = 243059 then 2 else if v = 173294 then 1 else x) else -9 := by
    intro x
    unfold fX12_wordOf_0b66 fX12_wordOf_0b85 fX12_wordOf_0b89
    simp only [bd_e, k1, cmp0, b91, pk_lEQ (a := v) (b := 173294) (by omega) (by omega)]
    by_cases c : v = 173294
    · rw [if_pos c, if_pos c]
    · rw [if_neg c, if_neg c]
  show _ = if e - s ≤ 5 then (if v = 11088176 then 5 else if v = 409469 then 4 else if v = 279252 then 3 else if v = 243059 then 2 else if v = 173294 then 1 else if v = 8863997 then 0 else -9) else -9
  unfold fX12_wordOf_0b38 fX12_wordOf_0b60 fX12_wordOf_0b64
  simp only [bd_e, k0, cmp0, b66, pk_lEQ (a := v) (b := 8863997) (by omega) (by omega)]
  by_cases c : v = 8863997
  · rw [if_pos c, if_pos c]
  · rw [if_neg c, if_neg c]
theorem wordOf_M {t : Nat → Nat} {T s e : Nat} {τ : ST} (h : TM τ t T) (hse : s ≤ e) (he : e ≤ T) (hlo : ∀ i, i < e - s → isLo (t (s + i)) = true) : (∃ k, k < 6 ∧ isW t s e k ∧ fX12_wordOf_0 (nI s) (nI e) τ = nI k) ∨ ((∀ k, k < 6 → ¬ isW t s e k) ∧ fX12_wordOf_0 (nI s) (nI e) τ = -9) := by
  have hT := h.2.1
  have x : fX12_wordOf_0 (nI s) (nI e) τ = fX12_wordOf_0b38 (nI s) (nI e) (lN (cv t s (min (e - s) 6))) τ := wo_l5 h he hlo 4096 0 (by omega) (by omega) hse (by omega)
  have hm : min (e - s) 6 ≤ 6 := Nat.min_le_right _ _
  have hl := cv_lim (t := t) (s := s) (min (e - s) 6) (fun i hi => hlo i (by omega)) hm
  have hl2 : 27 ^ min (e - s) 6 ≤ 27 ^ 6 := Nat.pow_le_pow_right (by omega) hm
  rw [x, wo_38 τ hse (by omega) (by omega)]
  by_cases c : e - s ≤ 5
  · rw [if_pos c, Nat.min_eq_left (by omega)]
    have key : ∀ k, k < 6 → (cv t s (e - s) = KW k ↔ isW t s e k) := fun k hk => cv_KW hk hlo
    by_cases c5 : cv t s (e - s) = KW 5
    · rw [if_pos c5]
      exact Or.inl ⟨5, by omega, (key 5 (by omega)).mp c5, rfl⟩
    · rw [if_neg c5]
      by_cases c4 : cv t s (e - s) = KW 4
      · rw [if_pos c4]
        exact Or.inl ⟨4, by omega, (key 4 (by omega)).mp c4, rfl⟩
      · rw [if_neg c4]
        by_cases c3 : cv t s (e - s) = KW 3
        · rw [if_pos c3]
          exact Or.inl ⟨3, by omega, (key 3 (by omega)).mp c3, rfl⟩
        · rw [if_neg c3]
          by_cases c2 : cv t s (e - s) = KW 2
          · rw [if_pos c2]
            exact Or.inl ⟨2, by omega, (key 2 (by omega)).mp c2, rfl⟩
          · rw [if_neg c2]
            by_cases c1 : cv t s (e - s) = KW 1
            · rw [if_pos c1]
              exact Or.inl ⟨1, by omega, (key 1 (by omega)).mp c1, rfl⟩
            · rw [if_neg c1]
              by_cases c0 : cv t s (e - s) = KW 0
              · rw [if_pos c0]
                exact Or.inl ⟨0, by omega, (key 0 (by omega)).mp c0, rfl⟩
              · rw [if_neg c0]
                refine Or.inr ⟨fun k hk q => ?_, rfl⟩
                have q2 := (key k hk).mpr q
                rcases (show k = 0 ∨ k = 1 ∨ k = 2 ∨ k = 3 ∨ k = 4 ∨ k = 5 by omega) with rfl | rfl | rfl | rfl | rfl | rfl
                · exact c0 q2
                · exact c1 q2
                · exact c2 q2
                · exact c3 q2
                · exact c4 q2
                · exact c5 q2
  · rw [if_neg c]
    refine Or.inr ⟨fun k hk q => ?_, rfl⟩
    have := lenS_45 hk
    have := q.1
    omega
/-- the token behind p -/
def TK (τ : ST) (t : Nat → Nat) (T p : Nat) : Prop := τ.1 27 = nI (rn isBl t T p) ∧ (rn isBl t T p = T → τ.1 28 = 0 ∧ τ.1 26 = nI T) ∧
  (rn isBl t T p < T → isLo (t (rn isBl t T p)) = true → τ.1 26 = nI (rn isLo t T (rn isBl t T p)) ∧ ((∃ k, k < 6 ∧ isW t (rn isBl t T p) (rn isLo t T (rn isBl t T p)) k ∧ τ.1 28 = 1 ∧ τ.1 29 = nI k) ∨ ((∀ k, k < 6 → ¬ isW t (rn isBl t T p) (rn isLo t T (rn isBl t T p)) k) ∧ τ.1 28 = 4))) ∧
  (rn isBl t T p < T → isLo (t (rn isBl t T p)) = false → isDg (t (rn isBl t T p)) = true → τ.1 26 = nI (rn isDg t T (rn isBl t T p)) ∧ ((∃ v, NumOk t T (rn isBl t T p) v ∧ τ.1 28 = 2 ∧ τ.1 29 = nI v) ∨ ((∀ v, ¬ NumOk t T (rn isBl t T p) v) ∧ τ.1 28 = 4))) ∧
  (rn isBl t T p < T → isLo (t (rn isBl t T p)) = false → isDg (t (rn isBl t T p)) = false → τ.1 26 = nI (rn isBl t T p + 1) ∧ τ.1 28 = if t (rn isBl t T p) = 59 then 3 else 4)
/-- nothing but the token's own has changed -/
def TKr (σ τ : ST) : Prop := τ.2 = σ.2 ∧ ∀ k, k ≠ 26 → k ≠ 27 → k ≠ 28 → k ≠ 29 → τ.1 k = σ.1 k
theorem TKr.refl (σ : ST) : TKr σ σ := ⟨rfl, fun _ _ _ _ _ => rfl⟩
theorem TKr.put {σ τ : ST} (h : TKr σ τ) {k : Nat} (v : Int32) (hk : k = 26 ∨ k = 27 ∨ k = 28 ∨ k = 29) : TKr σ (sI τ k v) := by
  refine ⟨h.1, fun j h1 h2 h3 h4 => ?_⟩
  rw [sI_ne _ _ (beq_f (show j ≠ k by omega))]
  exact h.2 j h1 h2 h3 h4
theorem TKr.tm {σ τ : ST} {t : Nat → Nat} {T : Nat} (h : TKr σ τ) (hm : TM σ t T) : TM τ t T := by
  refine ⟨(h.2 25 (by decide) (by decide) (by decide) (by decide)).trans hm.1, hm.2.1, ?_⟩
  rw [h.1]
  exact hm.2.2
theorem next_M {t : Nat → Nat} {T p : Nat} {σ : ST} (h : TM σ t T) (hp : p ≤ T) (e26 : σ.1 26 = nI p) : TKr σ (fX12_next_0 σ) ∧ TK (fX12_next_0 σ) t T p := by
  have hT := h.2.1
  have hs := rn_le (P := isBl) (t := t) hp
  have x0 : fX12_next_0 σ = fX12_next_0b22 (sI σ 26 (nI (rn isBl t T p))) := by
    have := nx_l0 4096 σ p h hp (by omega)
    rw [sI_self e26] at this
    exact this
  rw [x0]
  generalize hS : rn isBl t T p = s at *
  generalize hβ : sI (sI (sI σ 26 (nI s)) 27 (nI s)) 29 0 = β
  have rβ : TKr σ β := by
    rw [← hβ]
    exact (((TKr.refl σ).put _ (by omega)).put _ (by omega)).put _ (by omega)
  have mβ := rβ.tm h
  have b26 : β.1 26 = nI s := by rw [← hβ]; rfl
  have b27 : β.1 27 = nI s := by rw [← hβ]; rfl
  have b29 : β.1 29 = nI (mv t s 0) := by rw [← hβ]; exact nI_0.symm
  have x1 : fX12_next_0b22 (sI σ 26 (nI s)) = if 0 ≤ (if s < T then nI (t s) else (-1 : Int32)) then fX12_next_0b52 (if s < T then nI (t s) else -1) β else fX12_next_0b44 β := by
    unfold fX12_next_0b22
    simp only [bd_e]
    rw [sI_eq, hβ, here_M mβ hs b26]
  rw [x1]
  unfold TK
  rw [hS]
  by_cases c1 : s < T
  · have hb := h.2.2 s c1
    rw [if_pos c1, if_pos (nI_pos' (by omega))]
    have e1 : (¬ nI (t s) < 97 ∧ ¬ 122 < nI (t s)) ↔ isLo (t s) = true := by
      rw [show nI (t s) < 97 ↔ t s < 97 from ltN (b := 97) (by omega) (by omega), show 122 < nI (t s) ↔ 122 < t s from ltN (a := 122) (by omega) (by omega)]
      simp only [isLo, Bool.and_eq_true, decide_eq_true_eq]
      omega
    have e2 : (¬ nI (t s) < 48 ∧ ¬ 57 < nI (t s)) ↔ isDg (t s) = true := by
      rw [show nI (t s) < 48 ↔ t s < 48 from ltN (b := 48) (by omega) (by omega), show 57 < nI (t s) ↔ 57 < t s from ltN (a := 57) (by omega) (by omega)]
      simp only [isDg, Bool.and_eq_true, decide_eq_true_eq]
      omega
    unfold fX12_next_0b52 fX12_next_0b127
    simp only [bd_e, in_M, ite01, e1, e2]
    by_cases c2 : isLo (t s) = true
    · rw [if_neg (fun q => q c2)]
      have he := rn_le (P := isLo) (t := t) hs
      have hg := rn_ge (P := isLo) (t := t) hs
      have x2 : fX12_next_0l63 4096 β = fX12_next_0b90 (sI β 26 (nI (rn isLo t T s))) := by
        have := nx_l63 4096 β s mβ hs (by omega)
        rw [sI_self b26] at this
        exact this
      rw [x2]
      have rγ := rβ.put (k := 26) (nI (rn isLo t T s)) (by omega)
      have mγ := rγ.tm h
      unfold fX12_next_0b90
      simp only [bd_e, sI_eq]
      rw [show (sI β 26 (nI (rn isLo t T s))).1 27 = nI s from b27]
      have hlo : ∀ i, i < rn isLo t T s - s → isLo (t (s + i)) = true := fun i hi => rn_in hs (by omega) (by omega)
      rcases wordOf_M mγ hg he hlo with ⟨k, hk, hw, x3⟩ | ⟨hw, x3⟩
      · rw [x3, if_neg (y_neq k (by omega) (by decide))]
        unfold fX12_next_0b120 fX12_next_0b121 fX12_next_0b267
        simp only [bd_e]
        refine ⟨(rγ.put _ (by omega)).put _ (by omega), b27, fun q => by omega, fun _ _ => ⟨rfl, Or.inl ⟨k, hk, hw, rfl, rfl⟩⟩, fun _ q => by rw [c2] at q; exact absurd q (by decide), fun _ q => by rw [c2] at q; exact absurd q (by decide)⟩
      · rw [x3, if_pos rfl]
        unfold fX12_next_0b116 fX12_next_0b121 fX12_next_0b267
        simp only [bd_e]
        refine ⟨(rγ.put _ (by omega)).put _ (by omega), b27, fun q => by omega, fun _ _ => ⟨rfl, Or.inr ⟨hw, rfl⟩⟩, fun _ q => by rw [c2] at q; exact absurd q (by decide), fun _ q => by rw [c2] at q; exact absurd q (by decide)⟩
    · rw [if_pos c2]
      have c2' : isLo (t s) = false := by
        cases q : isLo (t s)
        · rfl
        · exact absurd q c2
      by_cases c3 : isDg (t s) = true
      · rw [if_neg (fun q => q c3)]
        have he := rn_le (P := isDg) (t := t) hs
        have hg := rn_ge (P := isDg) (t := t) hs
        have hg2 : s < rn isDg t T s := by
          rw [rn_go c1 c3]
          exact rn_ge (by omega)
        have hd : ∀ i, i < rn isDg t T s - s → isDg (t (s + i)) = true := fun i hi => rn_in hs (by omega) (by omega)
        have hm := mv_nv (rn isDg t T s - s) hd
        have x2 : fX12_next_0l138 4096 (nI (t s)) β = fX12_next_0b201 (nI (t s)) (sI (sI β 29 (nI (mv t s (rn isDg t T s - s)))) 26 (nI (rn isDg t T s))) := by
          have := nx_l138 (s := s) (c0 := nI (t s)) 4096 β 0 mβ (by omega) (by omega) (fun i hi => absurd hi (Nat.not_lt_zero _))
          rw [sI_self b29, Nat.add_zero, sI_self b26] at this
          exact this
        rw [x2]
        have rγ := (rβ.put (k := 29) (nI (mv t s (rn isDg t T s - s))) (by omega)).put (k := 26) (nI (rn isDg t T s)) (by omega)
        generalize hγ : sI (sI β 29 (nI (mv t s (rn isDg t T s - s)))) 26 (nI (rn isDg t T s)) = γ at *
        have g26 : γ.1 26 = nI (rn isDg t T s) := by rw [← hγ]; rfl
        have g27 : γ.1 27 = nI s := by rw [← hγ]; exact b27
        have g29 : γ.1 29 = nI (mv t s (rn isDg t T s - s)) := by rw [← hγ]; rfl
        unfold fX12_next_0b201 fX12_next_0b212 fX12_next_0b218 fX12_next_0b231 fX12_next_0b235 fX12_next_0b236 fX12_next_0b267
        simp only [bd_e, g26, g27, g29, pk_sub (a := rn isDg t T s) (b := s) hg]
        simp only [show 9999 < nI (mv t s (rn isDg t T s - s)) ↔ 9999 < mv t s (rn isDg t T s - s) from ltN (a := 9999) (by omega) (by omega), show nI (rn isDg t T s - s) ≤ 1 ↔ rn isDg t T s - s ≤ 1 from leN (b := 1) (by omega) (by omega), show nI (t s) = 48 ↔ t s = 48 from eqN (b := 48) (by omega) (by omega)]
        have no1 : isLo (t s) = true → ∀ {Q : Prop}, Q := fun q => absurd q c2
        have no2 : isDg (t s) = false → ∀ {Q : Prop}, Q := fun q => by rw [c3] at q; exact absurd q (by decide)
        by_cases c4 : 9999 < mv t s (rn isDg t T s - s)
        · rw [if_pos c4]
          exact ⟨rγ.put _ (by omega), g27, fun q => by omega, fun _ q => no1 q, fun _ _ _ => ⟨g26, Or.inr ⟨fun v q => by have := q.2.1; have := q.2.2.1; omega, rfl⟩⟩, fun _ _ q => no2 q⟩
        · rw [if_neg c4]
          have hv : mv t s (rn isDg t T s - s) = nv t s (rn isDg t T s - s) ∧ nv t s (rn isDg t T s - s) ≤ 9999 := by omega
          by_cases c5 : t s = 48
          · rw [if_pos c5]
            by_cases c6 : rn isDg t T s - s ≤ 1
            · rw [if_pos c6]
              exact ⟨rγ.put _ (by omega), g27, fun q => by omega, fun _ q => no1 q, fun _ _ _ => ⟨g26, Or.inl ⟨_, ⟨by omega, rfl, hv.2, fun q => by omega⟩, rfl, by rw [← hv.1]; exact g29⟩⟩, fun _ _ q => no2 q⟩
            · rw [if_neg c6]
              exact ⟨rγ.put _ (by omega), g27, fun q => by omega, fun _ q => no1 q, fun _ _ _ => ⟨g26, Or.inr ⟨fun v q => q.2.2.2 ⟨by omega, c5⟩, rfl⟩⟩, fun _ _ q => no2 q⟩
          · rw [if_neg c5]
            exact ⟨rγ.put _ (by omega), g27, fun q => by omega, fun _ q => no1 q, fun _ _ _ => ⟨g26, Or.inl ⟨_, ⟨by omega, rfl, hv.2, fun q => c5 q.2⟩, rfl, by rw [← hv.1]; exact g29⟩⟩, fun _ _ q => no2 q⟩
      · rw [if_pos c3]
        have c3' : isDg (t s) = false := by
          cases q : isDg (t s)
          · rfl
          · exact absurd q c3
        unfold fX12_next_0b242 fX12_next_0b259 fX12_next_0b263 fX12_next_0b264 fX12_next_0b267
        simp only [bd_e, b26, n_add1]
        simp only [show nI (t s) = 59 ↔ t s = 59 from eqN (b := 59) (by omega) (by omega)]
        by_cases c4 : t s = 59
        · rw [if_pos c4, if_pos c4]
          exact ⟨(rβ.put _ (by omega)).put _ (by omega), b27, fun q => by omega, fun _ q => absurd q c2, fun _ _ q => absurd q c3, fun _ _ _ => ⟨rfl, rfl⟩⟩
        · rw [if_neg c4, if_neg c4]
          exact ⟨(rβ.put _ (by omega)).put _ (by omega), b27, fun q => by omega, fun _ q => absurd q c2, fun _ _ q => absurd q c3, fun _ _ _ => ⟨rfl, rfl⟩⟩
  · obtain rfl : s = T := by omega
    rw [if_neg c1, if_neg (by decide)]
    unfold fX12_next_0b44 fX12_next_0b267
    simp only [bd_e]
    exact ⟨rβ.put _ (by omega), b27, fun _ => ⟨rfl, b26⟩, fun q => by omega, fun q => by omega, fun q => by omega⟩
