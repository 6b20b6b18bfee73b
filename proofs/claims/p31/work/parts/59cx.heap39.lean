/-! errors -/
theorem clr {S h : Nat} (hS : S < 512) (hh : h < 9) : nI S &&& ((1 : Int32) <<< (nI h &&& 31) ^^^ (-1)) = nI (if S.testBit h = true then S - 2 ^ h else S) := (show ∀ S, S < 512 → ∀ h, h < 9 → nI S &&& ((1 : Int32) <<< (nI h &&& 31) ^^^ (-1)) = nI (if S.testBit h = true then S - 2 ^ h else S) by decide +kernel) S hS h hh
theorem bit_pos {S h : Nat} (h1 : S.testBit h = true) : 2 ^ h ≤ S := Nat.le_of_not_lt fun q => by
  rw [Nat.testBit_lt_two_pow q] at h1
  exact absurd h1 (by decide)
/-- the piece's heap of a row, by a -/
def HR (s : PSt) (a : Nat → Nat) (r : Nat) : Nat := a (s.2.2 r).toNatClampNeg
def HRD (s : PSt) (r : Nat) : Bool := decide (¬ s.2.2 r = -9)
/-- rows of truth t (from 0) and heap h below r -/
def TG2 (s : PSt) (a tr : Nat → Nat) (t h r : Nat) : Nat := cn (fun r => decide (¬ s.2.2 r = -9 ∧ tr r = t + 1 ∧ HR s a r = h)) r
def tB (s : PSt) (tr : Nat → Nat) (r : Nat) : Nat := cn (fun r => decide (0 < tr r ∧ ¬ s.2.2 r = -9)) r
def tM (s : PSt) (tr : Nat → Nat) (r : Nat) : Nat := cn (fun r => decide (0 < tr r ∧ s.2.2 r = -9)) r
def tU (s : PSt) (tr : Nat → Nat) (r : Nat) : Nat := cn (fun r => decide (tr r = 0 ∧ ¬ s.2.2 r = -9)) r
theorem cn_s (A : Nat → Bool) (r : Nat) : cn A (r + 1) = cn A r + (if A r = true then 1 else 0) := rfl
/-- what both sides' rows say of truth -/
def TRU (tr : Nat → Nat) (N : Nat) (σ : ST) : Prop := ∀ r, r < N → σ.2.2 6 r = nI (tr r) ∧ σ.2.2 71 r = nI (tr r) ∧ tr r ≤ 5
theorem TRU.fr {tr : Nat → Nat} {N : Nat} {I J : List (Nat × Nat)} {σ τ : ST} (h : TRU tr N σ) (f : Fr I J σ τ) (h1 : inR J 6 = false) (h2 : inR J 71 = false) : TRU tr N τ := by
  unfold TRU
  rw [f.2 _ h1, f.2 _ h2]
  exact h
theorem tru_of {σ : ST} (hR : JR σ) (hI : INV σ) {N : Nat} (h2 : σ.1 2 = nI N) (hN : N ≤ 48) : ∃ tr, TRU tr N σ := by
  obtain ⟨R, hR48, k2, _, kr⟩ := hR
  have e : R = N := y_eq (by omega) (by omega) (k2.symm.trans h2)
  subst e
  refine ⟨fun r => (σ.2.2 71 r).toNatClampNeg, fun r hr => ?_⟩
  obtain ⟨n, n1, n2⟩ := hI.2 71 5 rfl r
  have en : (σ.2.2 71 r).toNatClampNeg = n := by rw [n2]; exact nI_clamp (by omega)
  show σ.2.2 6 r = nI (σ.2.2 71 r).toNatClampNeg ∧ σ.2.2 71 r = nI (σ.2.2 71 r).toNatClampNeg ∧ (σ.2.2 71 r).toNatClampNeg ≤ 5
  rw [en, ← (kr r hr).2.2.2.2.1, n2]
  exact ⟨rfl, rfl, n1⟩
theorem missed_l {s : PSt} {tr : Nat → Nat} {N : Nat} {σ : ST} (hN : N ≤ 48) (h2 : σ.1 2 = nI N) (h17 : ∀ r, r < 48 → σ.2.2 17 r = s.2.2 r) (hT : TRU tr N σ) : ∀ (fu d r : Nat), r + d = N → d < fu → fX9_missed_0l5 fu (nI (tM s tr r)) (nI r) σ = nI (tM s tr N)
  | 0, _, _, _, h => absurd h (Nat.not_lt_zero _)
  | fu + 1, 0, r, hd, _ => by
    have er : r = N := by omega
    subst er
    show fX9_missed_0b5 (fX9_missed_0l5 fu) (nI (tM s tr r)) (nI r) σ = _
    unfold fX9_missed_0b5 fX9_missed_0b50
    simp only [bd_e, h2]
    rw [if_pos ((leN (by omega) (by omega)).mpr (Nat.le_refl _))]
  | fu + 1, d + 1, r, hd, hf => by
    obtain ⟨t1, _, t3⟩ := hT r (by omega)
    have ih := missed_l hN h2 h17 hT fu d (r + 1) (by omega) (by omega)
    have es : tM s tr (r + 1) = tM s tr r + (if decide (0 < tr r ∧ s.2.2 r = -9) = true then 1 else 0) := rfl
    rw [es] at ih
    show fX9_missed_0b5 (fX9_missed_0l5 fu) (nI (tM s tr r)) (nI r) σ = _
    unfold fX9_missed_0b5 fX9_missed_0b14 fX9_missed_0b25 fX9_missed_0b41 fX9_missed_0b37 fX9_missed_0b42
    simp only [bd_e, h2, show (nI r).toNatClampNeg = r from nI_clamp (by omega), t1, h17 r (by omega), n_add1]
    rw [if_neg (fun q => absurd ((leN (by omega) (by omega)).mp q) (by omega))]
    by_cases c1 : 0 < tr r
    · rw [if_neg (show ¬ nI (tr r) ≤ 0 from fun q => absurd ((leN (b := 0) (by omega) (by omega)).mp q) (by omega))]
      by_cases c2 : s.2.2 r = -9
      · rw [if_pos c2]
        rw [if_pos (decide_eq_true ⟨c1, c2⟩)] at ih
        exact ih
      · rw [if_neg c2, Int32.add_zero]
        rw [if_neg (fun w => c2 (of_decide_eq_true w).2), Nat.add_zero] at ih
        exact ih
    · rw [if_pos (show nI (tr r) ≤ 0 from (leN (b := 0) (by omega) (by omega)).mpr (by omega)), Int32.add_zero]
      rw [if_neg (fun w => c1 (of_decide_eq_true w).1), Nat.add_zero] at ih
      exact ih
theorem madeUp_l {s : PSt} {tr : Nat → Nat} {N : Nat} {σ : ST} (hN : N ≤ 48) (h2 : σ.1 2 = nI N) (h17 : ∀ r, r < 48 → σ.2.2 17 r = s.2.2 r) (hT : TRU tr N σ) : ∀ (fu d r : Nat), r + d = N → d < fu → fX9_madeUp_0l5 fu (nI (tU s tr r)) (nI r) σ = nI (tU s tr N)
  | 0, _, _, _, h => absurd h (Nat.not_lt_zero _)
  | fu + 1, 0, r, hd, _ => by
    have er : r = N := by omega
    subst er
    show fX9_madeUp_0b5 (fX9_madeUp_0l5 fu) (nI (tU s tr r)) (nI r) σ = _
    unfold fX9_madeUp_0b5 fX9_madeUp_0b50
    simp only [bd_e, h2]
    rw [if_pos ((leN (by omega) (by omega)).mpr (Nat.le_refl _))]
  | fu + 1, d + 1, r, hd, hf => by
    obtain ⟨t1, _, t3⟩ := hT r (by omega)
    have ih := madeUp_l hN h2 h17 hT fu d (r + 1) (by omega) (by omega)
    have es : tU s tr (r + 1) = tU s tr r + (if decide (tr r = 0 ∧ ¬ s.2.2 r = -9) = true then 1 else 0) := rfl
    have z0 : nI (tr r) = 0 ↔ tr r = 0 := nI_eq (b := 0) (by omega) (by omega)
    rw [es] at ih
    show fX9_madeUp_0b5 (fX9_madeUp_0l5 fu) (nI (tU s tr r)) (nI r) σ = _
    unfold fX9_madeUp_0b5 fX9_madeUp_0b14 fX9_madeUp_0b25 fX9_madeUp_0b41 fX9_madeUp_0b37 fX9_madeUp_0b42
    simp only [bd_e, h2, show (nI r).toNatClampNeg = r from nI_clamp (by omega), t1, h17 r (by omega), n_add1]
    rw [if_neg (fun q => absurd ((leN (by omega) (by omega)).mp q) (by omega))]
    by_cases c1 : tr r = 0
    · rw [if_pos (z0.mpr c1)]
      by_cases c2 : s.2.2 r = -9
      · rw [if_pos c2, Int32.add_zero]
        rw [if_neg (fun w => (of_decide_eq_true w).2 c2), Nat.add_zero] at ih
        exact ih
      · rw [if_neg c2]
        rw [if_pos (decide_eq_true ⟨c1, c2⟩)] at ih
        exact ih
    · rw [if_neg (fun w => c1 (z0.mp w)), Int32.add_zero]
      rw [if_neg (fun w => c1 (of_decide_eq_true w).1), Nat.add_zero] at ih
      exact ih
theorem errH0 {K : Int32 → Int32 → Int32 → Int32 → Int32 → ST → Int32 × ST} {l1 m u b : Int32} {r : Nat} {τ : ST} (hr : r < 48) : fX12_errors_0b51 K l1 m u b (nI r) 0 τ = K l1 (m + (if τ.2.2 71 r ≤ 0 then 0 else 1)) (u + 0) (b + 0) (nI (r + 1)) τ := by
  have nr : (nI r).toNatClampNeg = r := nI_clamp (by omega)
  unfold fX12_errors_0b51
  rw [if_pos rfl]
  unfold fX12_errors_0b59
  rw [bd_e, nr]
  by_cases c : τ.2.2 71 r ≤ 0
  · rw [if_pos c, if_pos c]
    unfold fX12_errors_0b73 fX12_errors_0b74
    rw [bd_e, if_pos rfl]
    unfold fX12_errors_0b96 fX12_errors_0b97
    rw [bd_e, if_pos rfl]
    unfold fX12_errors_0b120 fX12_errors_0b121
    rw [bd_e, bd_e, n_add1]
  · rw [if_neg c, if_neg c]
    unfold fX12_errors_0b69 fX12_errors_0b74
    rw [bd_e, if_pos rfl]
    unfold fX12_errors_0b96 fX12_errors_0b97
    rw [bd_e, if_pos rfl]
    unfold fX12_errors_0b120 fX12_errors_0b121
    rw [bd_e, bd_e, n_add1]
theorem errH1 {K : Int32 → Int32 → Int32 → Int32 → Int32 → ST → Int32 × ST} {l1 m u b : Int32} {r : Nat} {τ : ST} (hr : r < 48) : fX12_errors_0b51 K l1 m u b (nI r) 1 τ = K l1 (m + 0) (u + (if τ.2.2 71 r = 0 then 1 else 0)) (b + (if τ.2.2 71 r ≤ 0 then 0 else 1)) (nI (r + 1)) τ := by
  have nr : (nI r).toNatClampNeg = r := nI_clamp (by omega)
  have n1 : ¬ (1 : Int32) = 0 := by decide
  have last : ∀ (x y z : Int32), fX12_errors_0b106 K l1 x y (nI r) z τ = K l1 x y (z + (if τ.2.2 71 r ≤ 0 then 0 else 1)) (nI (r + 1)) τ := fun x y z => by
    unfold fX12_errors_0b106
    rw [bd_e, nr]
    by_cases c : τ.2.2 71 r ≤ 0
    · rw [if_pos c, if_pos c]
      unfold fX12_errors_0b120 fX12_errors_0b121
      rw [bd_e, bd_e, n_add1]
    · rw [if_neg c, if_neg c]
      unfold fX12_errors_0b116 fX12_errors_0b121
      rw [bd_e, bd_e, n_add1]
  unfold fX12_errors_0b51
  rw [if_neg n1]
  unfold fX12_errors_0b73 fX12_errors_0b74
  rw [bd_e, if_neg n1]
  unfold fX12_errors_0b82
  rw [bd_e, nr]
  by_cases c : τ.2.2 71 r = 0
  · rw [if_pos c]
    unfold fX12_errors_0b92 fX12_errors_0b97
    rw [bd_e, if_neg n1, last, if_pos c]
  · rw [if_neg c]
    unfold fX12_errors_0b96 fX12_errors_0b97
    rw [bd_e, if_neg n1, last, if_neg c]
theorem err25_l {s : PSt} {tr : Nat → Nat} {N : Nat} {l1 : Int32} {τ : ST} (hN : N ≤ 48) (h31 : τ.1 31 = nI N) (h77 : ∀ r, r < N → τ.2.2 77 r = s.2.2 r) (hT : TRU tr N τ) : ∀ (fu d r : Nat), r + d = N → d < fu → fX12_errors_0l25 fu l1 (nI (tM s tr r)) (nI (tU s tr r)) (nI (tB s tr r)) (nI r) τ = fX12_errors_0b130 l1 (nI (tM s tr N)) (nI (tU s tr N)) (nI (tB s tr N)) τ
  | 0, _, _, _, h => absurd h (Nat.not_lt_zero _)
  | fu + 1, 0, r, hd, _ => by
    have er : r = N := by omega
    subst er
    show fX12_errors_0b25 (fX12_errors_0l25 fu) l1 _ _ _ (nI r) τ = _
    unfold fX12_errors_0b25
    rw [bd_e, h31, if_pos ((leN (by omega) (by omega)).mpr (Nat.le_refl _))]
  | fu + 1, d + 1, r, hd, hf => by
    obtain ⟨_, t1, t3⟩ := hT r (by omega)
    have ih := err25_l (l1 := l1) hN h31 h77 hT fu d (r + 1) (by omega) (by omega)
    have e1 : tM s tr (r + 1) = tM s tr r + (if decide (0 < tr r ∧ s.2.2 r = -9) = true then 1 else 0) := rfl
    have e2 : tU s tr (r + 1) = tU s tr r + (if decide (tr r = 0 ∧ ¬ s.2.2 r = -9) = true then 1 else 0) := rfl
    have e3 : tB s tr (r + 1) = tB s tr r + (if decide (0 < tr r ∧ ¬ s.2.2 r = -9) = true then 1 else 0) := rfl
    have z0 : nI (tr r) = 0 ↔ tr r = 0 := nI_eq (b := 0) (by omega) (by omega)
    have zl : nI (tr r) ≤ 0 ↔ tr r ≤ 0 := leN (b := 0) (by omega) (by omega)
    have eA : fX12_errors_0l25 (fu + 1) l1 (nI (tM s tr r)) (nI (tU s tr r)) (nI (tB s tr r)) (nI r) τ = fX12_errors_0b51 (fX12_errors_0l25 fu) l1 (nI (tM s tr r)) (nI (tU s tr r)) (nI (tB s tr r)) (nI r) (if s.2.2 r = -9 then 0 else 1) τ := by
      show fX12_errors_0b25 (fX12_errors_0l25 fu) l1 (nI (tM s tr r)) (nI (tU s tr r)) (nI (tB s tr r)) (nI r) τ = _
      unfold fX12_errors_0b25
      rw [bd_e, h31, if_neg (fun q => absurd ((leN (by omega) (by omega)).mp q) (by omega))]
      unfold fX12_errors_0b34
      rw [bd_e, show (nI r).toNatClampNeg = r from nI_clamp (by omega), h77 r (by omega)]
      by_cases c : s.2.2 r = -9
      · rw [if_pos c, if_pos c]
        rfl
      · rw [if_neg c, if_neg c]
        rfl
    rw [eA, ← ih, e1, e2, e3]
    by_cases c2 : s.2.2 r = -9
    · have a2 : ¬ decide (tr r = 0 ∧ ¬ s.2.2 r = -9) = true := fun w => (of_decide_eq_true w).2 c2
      have a3 : ¬ decide (0 < tr r ∧ ¬ s.2.2 r = -9) = true := fun w => (of_decide_eq_true w).2 c2
      rw [if_pos c2, errH0 (by omega), t1, if_neg a2, if_neg a3, Nat.add_zero, Nat.add_zero, Int32.add_zero, Int32.add_zero]
      by_cases c1 : tr r ≤ 0
      · rw [if_pos (zl.mpr c1), Int32.add_zero, if_neg (fun w => by have := (of_decide_eq_true w).1; omega)]
        rfl
      · rw [if_neg (fun w => c1 (zl.mp w)), if_pos (decide_eq_true ⟨by omega, c2⟩), n_add1]
        rfl
    · have a1 : ¬ decide (0 < tr r ∧ s.2.2 r = -9) = true := fun w => c2 (of_decide_eq_true w).2
      rw [if_neg c2, errH1 (by omega), t1, if_neg a1, Nat.add_zero, Int32.add_zero]
      by_cases c1 : tr r = 0
      · rw [if_pos (z0.mpr c1), if_pos (zl.mpr (by omega)), if_pos (decide_eq_true ⟨c1, c2⟩), if_neg (fun w => by have := (of_decide_eq_true w).1; omega), Nat.add_zero, Int32.add_zero, n_add1]
        rfl
      · rw [if_neg (fun w => c1 (z0.mp w)), if_neg (fun w => c1 (by have := zl.mp w; omega)), if_neg (fun w => c1 (of_decide_eq_true w).1), if_pos (decide_eq_true ⟨by omega, c2⟩), Nat.add_zero, Int32.add_zero, n_add1]
        rfl
