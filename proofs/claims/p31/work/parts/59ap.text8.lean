theorem dg_lo {b : Nat} (h : isDg b = true) : isLo b = false := by
  have h1 : 48 ≤ b ∧ b ≤ 57 := by simpa [isDg] using h
  cases q : isLo b
  · rfl
  · have := lo_b q
    omega
theorem bool_f {b : Bool} (h : ¬ b = true) : b = false := by
  cases b
  · rfl
  · exact absurd rfl h
theorem TK.num {τ : ST} {t : Nat → Nat} {T p : Nat} (h : TK τ t T p) (hp : p ≤ T) : (∃ v, NumOk t T (rn isBl t T p) v ∧ rn isBl t T p < T ∧ τ.1 28 = 2 ∧ τ.1 29 = nI v ∧ τ.1 26 = nI (rn isDg t T (rn isBl t T p))) ∨ ((∀ v, ¬ (rn isBl t T p < T ∧ NumOk t T (rn isBl t T p) v)) ∧ ¬ τ.1 28 = 2) := by
  have hs := rn_le (P := isBl) (t := t) hp
  obtain ⟨_, h2, h3, h4, h5⟩ := h
  generalize rn isBl t T p = q at *
  rcases Nat.eq_or_lt_of_le hs with c | c
  · refine Or.inr ⟨fun v r => by omega, ?_⟩
    rw [(h2 c).1]
    decide
  · by_cases c1 : isDg (t q) = true
    · obtain ⟨a, b⟩ := h4 c (dg_lo c1) c1
      rcases b with ⟨v, b1, b2, b3⟩ | ⟨b1, b2⟩
      · exact Or.inl ⟨v, b1, c, b2, b3, a⟩
      · refine Or.inr ⟨fun v r => b1 v r.2, ?_⟩
        rw [b2]
        decide
    · have nono : ∀ v, ¬ (q < T ∧ NumOk t T q v) := fun v r => r.2.1 (rn_stop (fun z => c1 z.2))
      refine Or.inr ⟨nono, ?_⟩
      by_cases c2 : isLo (t q) = true
      · obtain ⟨_, b⟩ := h3 c c2
        rcases b with ⟨k, _, _, b, _⟩ | ⟨_, b⟩ <;> (rw [b]; decide)
      · rw [(h5 c (bool_f c2) (bool_f c1)).2]
        split <;> decide
theorem TK.stop {τ : ST} {t : Nat → Nat} {T p : Nat} (h : TK τ t T p) (hp : p ≤ T) : (rn isBl t T p < T ∧ t (rn isBl t T p) = 59 ∧ τ.1 28 = 3 ∧ τ.1 26 = nI (rn isBl t T p + 1)) ∨ (¬ (rn isBl t T p < T ∧ t (rn isBl t T p) = 59) ∧ ¬ τ.1 28 = 3) := by
  have hs := rn_le (P := isBl) (t := t) hp
  obtain ⟨_, h2, h3, h4, h5⟩ := h
  generalize rn isBl t T p = q at *
  rcases Nat.eq_or_lt_of_le hs with c | c
  · refine Or.inr ⟨fun r => by omega, ?_⟩
    rw [(h2 c).1]
    decide
  · by_cases c2 : isLo (t q) = true
    · have := lo_b c2
      refine Or.inr ⟨fun r => by omega, ?_⟩
      obtain ⟨_, b⟩ := h3 c c2
      rcases b with ⟨k, _, _, b, _⟩ | ⟨_, b⟩ <;> (rw [b]; decide)
    · by_cases c1 : isDg (t q) = true
      · have h1 : 48 ≤ t q ∧ t q ≤ 57 := by simpa [isDg] using c1
        refine Or.inr ⟨fun r => by omega, ?_⟩
        obtain ⟨a, b⟩ := h4 c (bool_f c2) c1
        rcases b with ⟨v, _, b, _⟩ | ⟨_, b⟩ <;> (rw [b]; decide)
      · obtain ⟨a, b⟩ := h5 c (bool_f c2) (bool_f c1)
        by_cases c3 : t q = 59
        · rw [if_pos c3] at b
          exact Or.inl ⟨c, c3, b, a⟩
        · rw [if_neg c3] at b
          refine Or.inr ⟨fun r => c3 r.2, ?_⟩
          rw [b]
          decide
theorem isW_lo {t : Nat → Nat} {T q k : Nat} (hk : k < 6) (hq : q ≤ T) (h : isW t q (rn isLo t T q) k) : q < T ∧ isLo (t q) = true := by
  have h1 := lenS_45 hk
  have h2 := h.1
  by_cases c : q < T ∧ isLo (t q) = true
  · exact c
  · rw [rn_stop c] at h2
    omega
theorem TK.word {τ : ST} {t : Nat → Nat} {T p : Nat} (h : TK τ t T p) (hp : p ≤ T) : (∃ k, k < 6 ∧ isW t (rn isBl t T p) (rn isLo t T (rn isBl t T p)) k ∧ τ.1 28 = 1 ∧ τ.1 29 = nI k ∧ τ.1 26 = nI (rn isLo t T (rn isBl t T p))) ∨ ((∀ k, k < 6 → ¬ isW t (rn isBl t T p) (rn isLo t T (rn isBl t T p)) k) ∧ ¬ τ.1 28 = 1) := by
  have hs := rn_le (P := isBl) (t := t) hp
  obtain ⟨_, h2, h3, h4, h5⟩ := h
  generalize rn isBl t T p = q at *
  rcases Nat.eq_or_lt_of_le hs with c | c
  · refine Or.inr ⟨fun k hk r => by have := (isW_lo hk hs r).1; omega, ?_⟩
    rw [(h2 c).1]
    decide
  · by_cases c2 : isLo (t q) = true
    · obtain ⟨a, b⟩ := h3 c c2
      rcases b with ⟨k, b1, b2, b3, b4⟩ | ⟨b1, b2⟩
      · exact Or.inl ⟨k, b1, b2, b3, b4, a⟩
      · refine Or.inr ⟨b1, ?_⟩
        rw [b2]
        decide
    · refine Or.inr ⟨fun k hk r => c2 (isW_lo hk hs r).2, ?_⟩
      by_cases c1 : isDg (t q) = true
      · obtain ⟨a, b⟩ := h4 c (bool_f c2) c1
        rcases b with ⟨v, _, b, _⟩ | ⟨_, b⟩ <;> (rw [b]; decide)
      · rw [(h5 c (bool_f c2) (bool_f c1)).2]
        split <;> decide
theorem TK.fin {τ : ST} {t : Nat → Nat} {T p : Nat} (h : TK τ t T p) (hp : p ≤ T) : (rn isBl t T p = T ∧ τ.1 28 = 0) ∨ (rn isBl t T p < T ∧ ¬ τ.1 28 = 0) := by
  have hs := rn_le (P := isBl) (t := t) hp
  obtain ⟨_, h2, h3, h4, h5⟩ := h
  generalize rn isBl t T p = q at *
  rcases Nat.eq_or_lt_of_le hs with c | c
  · exact Or.inl ⟨c, (h2 c).1⟩
  · refine Or.inr ⟨c, ?_⟩
    by_cases c2 : isLo (t q) = true
    · obtain ⟨_, b⟩ := h3 c c2
      rcases b with ⟨k, _, _, b, _⟩ | ⟨_, b⟩ <;> (rw [b]; decide)
    · by_cases c1 : isDg (t q) = true
      · obtain ⟨a, b⟩ := h4 c (bool_f c2) c1
        rcases b with ⟨v, _, b, _⟩ | ⟨_, b⟩ <;> (rw [b]; decide)
      · rw [(h5 c (bool_f c2) (bool_f c1)).2]
        split <;> decide
theorem due_ok {σ : ST} (h : σ.1 30 = -9) : fX12_due_0 1 σ = (σ.1 29, fX12_next_0 σ) := by
  simp only [fX12_due_0, fX12_due_0b0, fX12_due_0b14, fX12_due_0b18, fX12_due_0b25, fX12_due_0b33, bd_e, h, if_pos, if_neg (show ¬ (1 : Int32) = 0 by decide)]
theorem due_bad {σ : ST} (h : σ.1 30 = -9) : fX12_due_0 0 σ = (σ.1 29, sI σ 30 (σ.1 27)) := by
  simp only [fX12_due_0, fX12_due_0b0, fX12_due_0b14, fX12_due_0b18, fX12_due_0b25, fX12_due_0b33, bd_e, h, if_pos]
theorem due_off {σ : ST} (h : ¬ σ.1 30 = -9) (b : Int32) : fX12_due_0 b σ = (σ.1 29, σ) := by
  simp only [fX12_due_0, fX12_due_0b0, fX12_due_0b14, fX12_due_0b18, fX12_due_0b25, fX12_due_0b33, bd_e, if_neg h]
theorem rl_fault {fu a : Nat} {m n : Int32} {σ : ST} (h : σ.1 30 = nI a) (ha : a ≤ 200) : fX12_rules_0l25 (fu + 1) m n σ = (-10 - nI a, σ) := by
  show fX12_rules_0b25 (fX12_rules_0l25 fu) m n σ = _
  unfold fX12_rules_0b25 fX12_rules_0b150 fX12_rules_0b159
  simp only [bd_e, h]
  rw [if_neg (y_neq a (by omega) (by decide)), if_neg (y_neq a (by omega) (by decide))]
theorem seen_q {m k : Nat} (hm : m < 64) (hk : k < 6) : ((nI m >>> (nI k &&& 31)) &&& 1 = 0 ↔ m.testBit k = false) ∧ nI m ||| (1 : Int32) <<< (nI k &&& 31) = nI (m ||| 2 ^ k) ∧ (m ||| 2 ^ k) < 64 := (show ∀ m, m < 64 → ∀ k, k < 6 → ((nI m >>> (nI k &&& 31)) &&& 1 = 0 ↔ m.testBit k = false) ∧ nI m ||| (1 : Int32) <<< (nI k &&& 31) = nI (m ||| 2 ^ k) ∧ (m ||| 2 ^ k) < 64 by decide +kernel) m hm k hk
theorem bit_or {m k j : Nat} : (m ||| 2 ^ k).testBit j = (m.testBit j || decide (k = j)) := by
  rw [Nat.testBit_or, Nat.testBit_two_pow]
theorem most_M {k : Nat} (hk : k < 6) (σ : ST) : fX12_most_0 (nI k) σ = nI (MX k) := by
  simp only [fX12_most_0, fX12_most_0b0, fX12_most_0b4, fX12_most_0b15, fX12_most_0b20, fX12_most_0b26, fX12_most_0b9, fX12_most_0b29]
  rcases (show k = 0 ∨ k = 1 ∨ k = 2 ∨ k = 3 ∨ k = 4 ∨ k = 5 by omega) with rfl | rfl | rfl | rfl | rfl | rfl <;> rfl
theorem copy_l {n : Int32} : ∀ (fu : Nat) (τ : ST) (k : Nat), k ≤ 6 → 6 - k < fu → (fX12_rules_0l169 fu n (nI k) τ).1 = n ∧ (fX12_rules_0l169 fu n (nI k) τ).2.1 25 = 0 ∧ (∀ j, j < k → (fX12_rules_0l169 fu n (nI k) τ).2.2.2 66 j = τ.2.2 66 j) ∧ (∀ j, k ≤ j → j < 6 → (fX12_rules_0l169 fu n (nI k) τ).2.2.2 66 j = τ.2.2 66 (6 + j))
  | 0, _, _, _, hf => absurd hf (Nat.not_lt_zero _)
  | fu + 1, τ, k, hk, hf => by
    have key : fX12_rules_0l169 (fu + 1) n (nI k) τ = if 6 ≤ k then (n, sI τ 25 0) else fX12_rules_0l169 fu n (nI (k + 1)) (sA τ 66 (upd (τ.2.2 66) k (τ.2.2 66 (6 + k)))) := by
      show fX12_rules_0b169 (fX12_rules_0l169 fu) n (nI k) τ = _
      unfold fX12_rules_0b169 fX12_rules_0b175 fX12_rules_0b196
      simp only [bd_e, show (nI k).toNatClampNeg = k from nI_clamp (by omega), show 6 + nI k = nI (6 + k) from nI_add 6 k, show (nI (6 + k)).toNatClampNeg = 6 + k from nI_clamp (by omega), n_add1]
      by_cases c1 : 6 ≤ k
      · rw [if_pos (show 6 ≤ nI k from (leN (a := 6) (by omega) (by omega)).mpr c1), if_pos c1]
      · rw [if_neg (show ¬ 6 ≤ nI k from fun q => c1 ((leN (a := 6) (by omega) (by omega)).mp q)), if_neg c1]
    rw [key]
    by_cases c1 : 6 ≤ k
    · rw [if_pos c1]
      exact ⟨rfl, rfl, fun j _ => rfl, fun j a b => by omega⟩
    · rw [if_neg c1]
      obtain ⟨h0, h1, h2, h3⟩ := copy_l (n := n) fu (sA τ 66 (upd (τ.2.2 66) k (τ.2.2 66 (6 + k)))) (k + 1) (by omega) (by omega)
      refine ⟨h0, h1, fun j hj => ?_, fun j a b => ?_⟩
      · rw [h2 j (by omega), sA_eq]
        exact pk_un (by omega)
      · rcases Nat.eq_or_lt_of_le a with c | c
        · subst c
          rw [h2 k (by omega), sA_eq, pk_us]
        · rw [h3 j c b, sA_eq]
          exact pk_un (by omega)
/-- what the reference's reading has come to -/
def RdM (σ : ST) (P : Nat → Bool) (t : Nat → Nat) (T f p : Nat) (td : Td) (n : Nat) (x : Int32 × ST) : Prop := (∃ m td', POk P t T f p td n m td' ∧ x.1 = nI m ∧ x.2.1 25 = 0 ∧ ∀ k, k < 6 → x.2.2.2 66 k = if td' k = -1 then nI (DFT k) else td' k) ∨ ((∀ m td', ¬ POk P t T f p td n m td') ∧ (∃ a, a ≤ 200 ∧ x.1 = -10 - nI a) ∧ x.2.1 25 = σ.1 25 ∧ ∀ k, k < 6 → x.2.2.2 66 k = σ.2.2 66 k)
theorem rules_l {t : Nat → Nat} {T : Nat} : ∀ (fu : Nat) (σ : ST) (p m n f : Nat) (td : Td), TM σ t T → TK σ t T p → p ≤ T → σ.1 30 = -9 → m < 64 → (∀ k, k < 6 → (m.testBit k = false ↔ td k = -1)) → (∀ k, k < 6 → σ.2.2 66 (6 + k) = if td k = -1 then nI (DFT k) else td k) → T - p + 1 < fu → T - p < f → RdM σ isLo t T f p td n (fX12_rules_0l25 fu (nI m) (nI n) σ)
  | 0, _, _, _, _, _, _, _, _, _, _, _, _, _, hf, _ => absurd hf (Nat.not_lt_zero _)
  | fu + 1, σ, p, m, n, f, td, hM, hK, hp, h30, hm, hse, h66, hf, hfp => by
    have hT := hM.2.1
    have hs := rn_le (P := isBl) (t := t) hp
    have hs' := rn_ge (P := isBl) (t := t) hp
    obtain ⟨g, rfl⟩ : ∃ g, f = g + 1 := ⟨f - 1, by omega⟩
    obtain ⟨fv, rfl⟩ : ∃ fv, fu = fv + 1 := ⟨fu - 1, by omega⟩
    show RdM σ isLo t T (g + 1) p td n (fX12_rules_0b25 (fX12_rules_0l25 (fv + 1)) (nI m) (nI n) σ)
    unfold fX12_rules_0b25
    simp only [bd_e, h30]
    rw [if_pos trivial]
    unfold fX12_rules_0b34
    simp only [bd_e]
    have bad : ∀ τ : ST, τ.2 = σ.2 → τ.1 25 = σ.1 25 → (∃ a, a ≤ 200 ∧ τ.1 30 = nI a) → (∀ mm td', ¬ POk isLo t T (g + 1) p td n mm td') → ∀ m' n' : Int32, RdM σ isLo t T (g + 1) p td n (fX12_rules_0l25 (fv + 1) m' n' τ) := by
      intro τ e2 e25 ⟨a, ha, e⟩ hno m' n'
      rw [rl_fault e ha]
      exact Or.inr ⟨hno, ⟨a, ha, rfl⟩, e25, fun k hk => by rw [e2]⟩
    have bad2 : ∀ (τ : ST) (k : Nat) (x : Int32), τ.2 = σ.2 → τ.1 25 = σ.1 25 → (∃ a, a ≤ 200 ∧ τ.1 30 = nI a) → (∀ mm td', ¬ POk isLo t T (g + 1) p td n mm td') → ∀ m' n' : Int32, RdM σ isLo t T (g + 1) p td n (fX12_rules_0l25 (fv + 1) m' n' (sA τ 66 (upd (τ.2.2 66) (6 + k) x))) := by
      intro τ k x e2 e25 ⟨a, ha, e⟩ hno m' n'
      rw [rl_fault (σ := sA τ 66 (upd (τ.2.2 66) (6 + k) x)) e ha]
      refine Or.inr ⟨hno, ⟨a, ha, rfl⟩, e25, fun j hj => ?_⟩
      rw [sA_eq, pk_un (by omega), e2]
    rcases hK.fin hp with ⟨c1, c1'⟩ | ⟨c1, c1'⟩
    · rw [if_pos c1']
      unfold fX12_rules_0b150 fX12_rules_0b167
      simp only [bd_e, h30]
      rw [if_pos trivial]
      obtain ⟨y0, y1, y2, y3⟩ := copy_l (n := nI n) 4096 σ 0 (by omega) (by omega)
      rw [nI_0] at y0 y1 y2 y3
      exact Or.inl ⟨n, td, Or.inl ⟨c1, rfl, rfl⟩, y0, y1, fun k hk => by rw [y3 k (Nat.zero_le _) hk, h66 k hk]⟩
    · rw [if_neg c1']
      have fail65 : (∀ mm td', ¬ POk isLo t T (g + 1) p td n mm td') → RdM σ isLo t T (g + 1) p td n (fX12_rules_0b65 (fX12_rules_0l25 (fv + 1)) (nI m) (nI n) σ) := by
        intro hno
        unfold fX12_rules_0b65 fX12_rules_0b66
        simp only [bp_e, bd_e, due_bad h30]
        rw [show (sI σ 30 (σ.1 27)).1 30 = nI (rn isBl t T p) from hK.1, if_neg (y_neq _ (by omega) (by decide))]
        unfold fX12_rules_0b147
        exact bad (sI σ 30 (σ.1 27)) rfl rfl ⟨rn isBl t T p, by omega, (sI_eq _ _ _).trans hK.1⟩ hno _ _
      unfold fX12_rules_0b41
      simp only [bd_e]
      rcases hK.word hp with ⟨k, hk, hw, w1, w2, w3⟩ | ⟨hw, w1⟩
      · rw [if_pos w1]
        unfold fX12_rules_0b50
        simp only [bd_e, w2]
        have hsq := seen_q hm hk
        by_cases c2 : td k = -1
        · rw [if_pos (hsq.1.mpr ((hse k hk).mpr c2))]
          have he := rn_le (P := isLo) (t := t) hs
          have he' := rn_ge (P := isLo) (t := t) hs
          have hq := rn_le (P := isBl) (t := t) he
          have hq' := rn_ge (P := isBl) (t := t) he
          have hr := rn_le (P := isDg) (t := t) hq
          have hr' := rn_ge (P := isDg) (t := t) hq
          have hz := rn_le (P := isBl) (t := t) hr
          have hz' := rn_ge (P := isBl) (t := t) hr
          unfold fX12_rules_0b61 fX12_rules_0b66
          simp only [bp_e, bd_e, due_ok h30, w2]
          obtain ⟨r1, k1⟩ := next_M hM he w3
          have m1 := r1.tm hM
          have f1 : (fX12_next_0 σ).1 30 = -9 := (r1.2 30 (by decide) (by decide) (by decide) (by decide)).trans h30
          have g1 : (fX12_next_0 σ).1 25 = σ.1 25 := r1.2 25 (by decide) (by decide) (by decide) (by decide)
          have e1 := r1.1
          generalize fX12_next_0 σ = τ1 at *
          rw [if_pos f1]
          unfold fX12_rules_0b79
          simp only [bd_e, hsq.2.1]
          have fail109 : (∀ mm td', ¬ POk isLo t T (g + 1) p td n mm td') → ∀ m' n' : Int32, RdM σ isLo t T (g + 1) p td n (fX12_rules_0b109 (fX12_rules_0l25 (fv + 1)) m' n' (nI k) τ1) := by
            intro hno m' n'
            have no9 : ¬ (sI τ1 30 (τ1.1 27)).1 30 = -9 := by
              rw [sI_eq, k1.1]
              exact y_neq _ (by omega) (by decide)
            unfold fX12_rules_0b109 fX12_rules_0b110
            simp only [bp_e, bd_e, due_bad f1]
            have tl : ∀ b : Int32, RdM σ isLo t T (g + 1) p td n (fX12_rules_0b129 (fX12_rules_0l25 (fv + 1)) m' n' (nI k) (τ1.1 29) b (sI τ1 30 (τ1.1 27))) := by
              intro b
              unfold fX12_rules_0b129 fX12_rules_0b147
              simp only [bp_e, bd_e, due_off no9, show 6 + nI k = nI (6 + k) from nI_add 6 k, show (nI (6 + k)).toNatClampNeg = 6 + k from nI_clamp (by omega)]
              exact bad2 (sI τ1 30 (τ1.1 27)) k (τ1.1 29) e1 g1 ⟨_, by omega, (sI_eq _ _ _).trans k1.1⟩ hno _ _
            unfold fX12_rules_0b124 fX12_rules_0b128
            split
            · exact tl 1
            · exact tl 0
          rcases k1.num he with ⟨v, n1, n2, n3, n4, n5⟩ | ⟨n1, n2⟩
          · rw [if_pos n3]
            have hv := n1.2.2.1
            unfold fX12_rules_0b94
            simp only [bd_e, n4, most_M hk]
            simp only [ltN (a := MX k) (b := v) (by have := (tab1_MX hk).2.1; omega) (by omega)]
            by_cases c3 : MX k < v
            · rw [if_pos c3]
              refine fail109 (fun mm td' q => ?_) _ _
              rcases q with q | ⟨_, k2, v2, p2, q1, q2, q3⟩
              · omega
              · have e := isW_un hk q1.1 hw q1.2.1
                subst e
                have e3 := q1.2.2.2.1.2.1.trans n1.2.1.symm
                have := q1.2.2.2.2.1
                omega
            · rw [if_neg c3]
              unfold fX12_rules_0b105 fX12_rules_0b110
              simp only [bp_e, bd_e, due_ok f1, n4]
              obtain ⟨r2, k2⟩ := next_M m1 hr n5
              have m2 := r2.tm m1
              have f2 : (fX12_next_0 τ1).1 30 = -9 := (r2.2 30 (by decide) (by decide) (by decide) (by decide)).trans f1
              have g2 : (fX12_next_0 τ1).1 25 = σ.1 25 := (r2.2 25 (by decide) (by decide) (by decide) (by decide)).trans g1
              have e2 := r2.1.trans e1
              generalize fX12_next_0 τ1 = τ2 at *
              rcases k2.stop hr with ⟨s1, s2, s3, s4⟩ | ⟨s1, s2⟩
              · rw [if_pos s3]
                unfold fX12_rules_0b124 fX12_rules_0b129 fX12_rules_0b147
                simp only [bp_e, bd_e, due_ok f2, show 6 + nI k = nI (6 + k) from nI_add 6 k, show (nI (6 + k)).toNatClampNeg = 6 + k from nI_clamp (by omega), n_add1]
                obtain ⟨r3, k3⟩ := next_M m2 (show rn isBl t T (rn isDg t T (rn isBl t T (rn isLo t T (rn isBl t T p)))) + 1 ≤ T by omega) s4
                have m3 := r3.tm m2
                have f3 : (fX12_next_0 τ2).1 30 = -9 := (r3.2 30 (by decide) (by decide) (by decide) (by decide)).trans f2
                have g3 : (fX12_next_0 τ2).1 25 = σ.1 25 := (r3.2 25 (by decide) (by decide) (by decide) (by decide)).trans g2
                have e3 := r3.1.trans e2
                generalize fX12_next_0 τ2 = τ3 at *
                have hI : Item isLo t T (rn isBl t T p) k v (rn isBl t T (rn isDg t T (rn isBl t T (rn isLo t T (rn isBl t T p)))) + 1) := ⟨hk, hw, n2, n1, by omega, s1, s2, rfl⟩
                have ih := rules_l (fv + 1) (sA τ3 66 (upd (τ3.2.2 66) (6 + k) (nI v))) (rn isBl t T (rn isDg t T (rn isBl t T (rn isLo t T (rn isBl t T p)))) + 1) (m ||| 2 ^ k) (n + 1) g (upd td k (nI v)) m3 k3 (by omega) f3 hsq.2.2 (fun j hj => ?_) (fun j hj => ?_) (by omega) (by omega)
                · rcases ih with ⟨mm, td', i1, i2, i3, i4⟩ | ⟨i1, i2, i3, i4⟩
                  · exact Or.inl ⟨mm, td', Or.inr ⟨c1, k, v, _, hI, c2, i1⟩, i2, i3, i4⟩
                  · refine Or.inr ⟨fun mm td' q => ?_, i2, i3.trans g3, fun j hj => ?_⟩
                    · rcases q with q | ⟨_, k4, v4, p4, q1, q2, q3⟩
                      · omega
                      · obtain ⟨rfl, rfl, rfl⟩ := hI.un q1
                        exact i1 mm td' q3
                    · rw [i4 j hj, sA_eq, pk_un (by omega), e3]
                · rw [bit_or, Bool.or_eq_false_iff]
                  by_cases c4 : k = j
                  · subst c4
                    rw [pk_us]
                    exact ⟨fun q => by simp at q, fun q => absurd q (neg1_nI (by omega))⟩
                  · rw [pk_un (fun q => c4 q.symm), ← hse j hj]
                    exact ⟨fun q => q.1, fun q => ⟨q, by simp [c4]⟩⟩
                · rw [sA_eq]
                  by_cases c4 : k = j
                  · subst c4
                    rw [pk_us, pk_us, if_neg (neg1_nI (by omega))]
                  · rw [pk_un (by omega), pk_un (fun q => c4 q.symm), e3]
                    exact h66 j hj
              · rw [if_neg s2]
                unfold fX12_rules_0b128 fX12_rules_0b129 fX12_rules_0b147
                simp only [bp_e, bd_e, due_bad f2, show 6 + nI k = nI (6 + k) from nI_add 6 k, show (nI (6 + k)).toNatClampNeg = 6 + k from nI_clamp (by omega), n_add1]
                refine bad2 (sI τ2 30 (τ2.1 27)) k (nI v) e2 g2 ⟨_, by omega, (sI_eq _ _ _).trans k2.1⟩ (fun mm td' q => ?_) _ _
                rcases q with q | ⟨_, k4, v4, p4, q1, q2, q3⟩
                · omega
                · exact s1 ⟨q1.2.2.2.2.2.1, q1.2.2.2.2.2.2.1⟩
          · rw [if_neg n2]
            refine fail109 (fun mm td' q => ?_) _ _
            rcases q with q | ⟨_, k2, v2, p2, q1, q2, q3⟩
            · omega
            · exact n1 v2 ⟨q1.2.2.1, q1.2.2.2.1⟩
        · rw [if_neg (fun q => c2 ((hse k hk).mp (hsq.1.mp q)))]
          refine fail65 (fun mm td' q => ?_)
          rcases q with q | ⟨_, k2, v2, p2, q1, q2, q3⟩
          · omega
          · have e := isW_un hk q1.1 hw q1.2.1
            subst e
            exact c2 q2
      · rw [if_neg w1]
        refine fail65 (fun mm td' q => ?_)
        rcases q with q | ⟨_, k2, v2, p2, q1, q2, q3⟩
        · omega
        · exact hw k2 q1.1 q1.2.1
