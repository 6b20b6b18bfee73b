/-! texts: runs of bytes; what the class reads -/
theorem sI_self {σ : ST} {k : Nat} {v : Int32} (h : σ.1 k = v) : sI σ k v = σ := by
  refine Prod.ext (funext fun j => ?_) rfl
  show cond (Nat.beq j k) v (σ.1 j) = σ.1 j
  cases c : Nat.beq j k
  · rfl
  · rw [Nat.eq_of_beq_eq_true c]
    exact h.symm
def run (P : Nat → Bool) (t : Nat → Nat) (T : Nat) : Nat → Nat → Nat
  | 0, p => p
  | f + 1, p => if p < T ∧ P (t p) = true then run P t T f (p + 1) else p
/-- the first place from p on that is none of P, or T -/
def rn (P : Nat → Bool) (t : Nat → Nat) (T p : Nat) : Nat := run P t T (T - p) p
theorem rn_go {P : Nat → Bool} {t : Nat → Nat} {T p : Nat} (h : p < T) (hP : P (t p) = true) : rn P t T p = rn P t T (p + 1) := by
  unfold rn
  obtain ⟨f, hf⟩ : ∃ f, T - p = f + 1 := ⟨T - p - 1, by omega⟩
  rw [hf, show T - (p + 1) = f by omega]
  exact if_pos ⟨h, hP⟩
theorem rn_stop {P : Nat → Bool} {t : Nat → Nat} {T p : Nat} (h : ¬ (p < T ∧ P (t p) = true)) : rn P t T p = p := by
  unfold rn
  cases T - p with
  | zero => rfl
  | succ f => exact if_neg h
theorem rn_spec {P : Nat → Bool} {t : Nat → Nat} {T : Nat} : ∀ d p, T - p ≤ d → p ≤ T → p ≤ rn P t T p ∧ rn P t T p ≤ T ∧ (rn P t T p < T → P (t (rn P t T p)) = false) ∧ ∀ j, p ≤ j → j < rn P t T p → P (t j) = true := by
  intro d
  induction d with
  | zero =>
    intro p hd hp
    rw [rn_stop (fun q => by omega)]
    exact ⟨Nat.le_refl _, hp, fun q => by omega, fun j a b => by omega⟩
  | succ d ih =>
    intro p hd hp
    by_cases c : p < T ∧ P (t p) = true
    · rw [rn_go c.1 c.2]
      obtain ⟨h1, h2, h3, h4⟩ := ih (p + 1) (by omega) (by omega)
      refine ⟨by omega, h2, h3, fun j a b => ?_⟩
      rcases Nat.eq_or_lt_of_le a with e | e
      · rw [← e]
        exact c.2
      · exact h4 j e b
    · rw [rn_stop c]
      refine ⟨Nat.le_refl _, hp, fun q => ?_, fun j a b => by omega⟩
      cases e : P (t p)
      · rfl
      · exact absurd ⟨q, e⟩ c
theorem rn_ge {P : Nat → Bool} {t : Nat → Nat} {T p : Nat} (hp : p ≤ T) : p ≤ rn P t T p := (rn_spec _ p (Nat.le_refl _) hp).1
theorem rn_le {P : Nat → Bool} {t : Nat → Nat} {T p : Nat} (hp : p ≤ T) : rn P t T p ≤ T := (rn_spec _ p (Nat.le_refl _) hp).2.1
theorem rn_end {P : Nat → Bool} {t : Nat → Nat} {T p : Nat} (hp : p ≤ T) (h : rn P t T p < T) : P (t (rn P t T p)) = false := (rn_spec _ p (Nat.le_refl _) hp).2.2.1 h
theorem rn_in {P : Nat → Bool} {t : Nat → Nat} {T p j : Nat} (hp : p ≤ T) (h1 : p ≤ j) (h2 : j < rn P t T p) : P (t j) = true := (rn_spec _ p (Nat.le_refl _) hp).2.2.2 j h1 h2
/-- the first place that ends a run is its end -/
theorem rn_eq {P : Nat → Bool} {t : Nat → Nat} {T : Nat} : ∀ d p e, e - p ≤ d → p ≤ e → e ≤ T → (∀ j, p ≤ j → j < e → P (t j) = true) → (e < T → P (t e) = false) → rn P t T p = e := by
  intro d
  induction d with
  | zero =>
    intro p e hd h1 h2 h3 h4
    obtain rfl : p = e := by omega
    exact rn_stop (fun q => by rw [h4 q.1] at q; exact absurd q.2 (by decide))
  | succ d ih =>
    intro p e hd h1 h2 h3 h4
    rcases Nat.eq_or_lt_of_le h1 with c | c
    · subst c
      exact rn_stop (fun q => by rw [h4 q.1] at q; exact absurd q.2 (by decide))
    · rw [rn_go (by omega) (h3 p (Nat.le_refl _) c)]
      exact ih (p + 1) e (by omega) c h2 (fun j a b => h3 j (by omega) b) h4
abbrev isBl (b : Nat) : Bool := b == 32
abbrev isLo (b : Nat) : Bool := decide (97 ≤ b) && decide (b ≤ 122)
abbrev isLe (b : Nat) : Bool := isLo b || (decide (65 ≤ b) && decide (b ≤ 90))
abbrev isDg (b : Nat) : Bool := decide (48 ≤ b) && decide (b ≤ 57)
/-- the class's text is the bytes t, T of them -/
def TX (σ : ST) (t : Nat → Nat) (T : Nat) : Prop := σ.1 0 = nI T ∧ T ≤ 200 ∧ ∀ j, j < T → σ.2.2 0 j = nI (t j) ∧ t j < 256
theorem eqN {a b : Nat} (ha : a < 2 ^ 31) (hb : b < 2 ^ 31) : (nI a = nI b) ↔ a = b := nI_eq ha hb
theorem leN {a b : Nat} (ha : a < 2 ^ 31) (hb : b < 2 ^ 31) : (nI a ≤ nI b) ↔ a ≤ b := nI_leI ha hb
theorem ltN {a b : Nat} (ha : a < 2 ^ 31) (hb : b < 2 ^ 31) : (nI a < nI b) ↔ a < b := nI_ltI ha hb
theorem ebb_l {t : Nat → Nat} {T : Nat} : ∀ (fu : Nat) (σ : ST) (p : Nat), TX σ t T → p ≤ T → T - p < fu → fX8_endsBehindBlanks_0l0 fu (sI σ 1 (nI p)) = (if rn isBl t T p = T then 1 else 0, sI σ 1 (nI (rn isBl t T p)))
  | 0, _, _, _, _, hf => absurd hf (Nat.not_lt_zero _)
  | fu + 1, σ, p, h, hp, hf => by
    have hT := h.2.1
    have e0 : (nI p).toNatClampNeg = p := nI_clamp (by omega)
    have a1 : (sI σ 1 (nI p)).1 1 = nI p := sI_eq _ _ _
    have a0 : (sI σ 1 (nI p)).1 0 = nI T := h.1
    show fX8_endsBehindBlanks_0b0 (fX8_endsBehindBlanks_0l0 fu) (sI σ 1 (nI p)) = _
    simp only [fX8_endsBehindBlanks_0, fX8_endsBehindBlanks_0b0, fX8_endsBehindBlanks_0b11, fX8_endsBehindBlanks_0b25, fX8_endsBehindBlanks_0b38, fX8_endsBehindBlanks_0b49, fX8_endsBehindBlanks_0b53, fX8_endsBehindBlanks_0b54, bd_e, a0, a1, e0, n_add1, sI_sI]
    simp only [leN (a := T) (b := p) (by omega) (by omega)]
    by_cases c1 : T ≤ p
    · obtain rfl : p = T := by omega
      rw [if_pos c1, rn_stop (fun q => by omega), if_neg (fun q => absurd (y_lt (by omega) (by omega) q) (by omega)), if_pos rfl]
    · have hb := h.2.2 p (by omega)
      rw [if_neg c1, show (sI σ 1 (nI p)).2.2 0 p = nI (t p) from hb.1]
      by_cases c2 : t p = 32
      · rw [if_pos (show nI (t p) = 32 from congrArg nI c2), rn_go (by omega) (show isBl (t p) = true by rw [isBl, c2]; rfl)]
        exact ebb_l fu σ (p + 1) h (by omega) (by omega)
      · rw [if_neg (show ¬ nI (t p) = 32 from fun q => c2 ((eqN (b := 32) (by omega) (by omega)).mp q)), rn_stop (fun q => c2 (by simpa [isBl] using q.2)), if_pos ((ltN (by omega) (by omega)).mpr (by omega)), if_neg (by omega)]
theorem ebb_X {t : Nat → Nat} {T : Nat} {σ : ST} {p : Nat} (h : TX σ t T) (hp : p ≤ T) : fX8_endsBehindBlanks_0 (sI σ 1 (nI p)) = (if rn isBl t T p = T then 1 else 0, sI σ 1 (nI (rn isBl t T p))) := by
  have hT := h.2.1
  exact ebb_l 4096 σ p h hp (by omega)
theorem let_X {b : Nat} (hb : b < 256) (σ : ST) : fX8_isLetter_0 (nI b) σ = if isLe b = true then 1 else 0 := by
  have key : ∀ b, b < 256 → ∀ σ : ST, fX8_isLetter_0 (nI b) σ = if isLe b = true then 1 else 0 := by
    intro b hb σ
    simp only [fX8_isLetter_0, fX8_isLetter_0b0, fX8_isLetter_0b6, fX8_isLetter_0b12, fX8_isLetter_0b18, fX8_isLetter_0b24, fX8_isLetter_0b28, fX8_isLetter_0b29]
    have h1 : nI b < 97 ↔ b < 97 := ltN (b := 97) (by omega) (by omega)
    have h2 : nI b ≤ 122 ↔ b ≤ 122 := leN (b := 122) (by omega) (by omega)
    have h3 : nI b < 65 ↔ b < 65 := ltN (b := 65) (by omega) (by omega)
    have h4 : 90 < nI b ↔ 90 < b := ltN (a := 90) (by omega) (by omega)
    simp only [h1, h2, h3, h4, isLe, isLo, Bool.or_eq_true, Bool.and_eq_true, decide_eq_true_eq]
    repeat' split
    all_goals first | rfl | (exfalso; omega)
  exact key b hb σ
theorem dig_X {b : Nat} (hb : b < 256) (σ : ST) : fX8_isDigit_0 (nI b) σ = if isDg b = true then 1 else 0 := by
  simp only [fX8_isDigit_0, fX8_isDigit_0b0, fX8_isDigit_0b6, fX8_isDigit_0b12, fX8_isDigit_0b16, fX8_isDigit_0b17]
  have h1 : nI b < 48 ↔ b < 48 := ltN (b := 48) (by omega) (by omega)
  have h2 : 57 < nI b ↔ 57 < b := ltN (a := 57) (by omega) (by omega)
  simp only [h1, h2, isDg, Bool.and_eq_true, decide_eq_true_eq]
  split
  · rw [if_neg (by omega)]
  · split
    · rw [if_neg (by omega)]
    · rw [if_pos (by omega)]
