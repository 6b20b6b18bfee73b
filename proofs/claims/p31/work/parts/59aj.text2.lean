/-- the bytes of word k -/
def wch (k i : Nat) : Nat := ([[112, 114, 105, 99, 101], [104, 117, 115, 104], [108, 105, 107, 101], [110, 101, 97, 114], [116, 117, 114, 110], [116, 119, 105, 99, 101]].getD k []).getD i 0
theorem wch_e {k i : Nat} (hk : k < 6) (hi : i < lenS.getD k 0) : chS k i = nI (wch k i) ∧ 97 ≤ wch k i ∧ wch k i ≤ 122 := (show ∀ k, k < 6 → ∀ i, i < lenS.getD k 0 → chS k i = nI (wch k i) ∧ 97 ≤ wch k i ∧ wch k i ≤ 122 by decide +kernel) k hk i hi
theorem lenS_45 {k : Nat} (hk : k < 6) : 4 ≤ lenS.getD k 0 ∧ lenS.getD k 0 ≤ 5 := (show ∀ k, k < 6 → 4 ≤ lenS.getD k 0 ∧ lenS.getD k 0 ≤ 5 by decide +kernel) k hk
/-- the bytes from s to e are word k -/
abbrev isW (t : Nat → Nat) (s e k : Nat) : Prop := e - s = lenS.getD k 0 ∧ ∀ i, i < lenS.getD k 0 → t (s + i) = wch k i
theorem isW_un {t : Nat → Nat} {s e k k' : Nat} (hk : k < 6) (hk' : k' < 6) (h : isW t s e k) (h' : isW t s e k') : k = k' := by
  have key : ∀ k, k < 6 → ∀ k', k' < 6 → (lenS.getD k 0 = lenS.getD k' 0 ∧ ∀ i, i < lenS.getD k 0 → wch k i = wch k' i) → k = k' := by decide +kernel
  refine key k hk k' hk' ⟨h.1.symm.trans h'.1, fun i hi => ?_⟩
  rw [← h.2 i hi, ← h'.2 i (by rw [← h'.1, h.1]; exact hi)]
theorem wordOf_X {k : Nat} (hk : k < 6) (σ : ST) : fX8_wordOf_0 (nI k) σ = k := by
  simp only [fX8_wordOf_0, fX8_wordOf_0b0, fX8_wordOf_0b51, fX8_wordOf_0b48, fX8_wordOf_0b45, fX8_wordOf_0b42, fX8_wordOf_0b39, fX8_wordOf_0b36]
  rcases (show k = 0 ∨ k = 1 ∨ k = 2 ∨ k = 3 ∨ k = 4 ∨ k = 5 by omega) with rfl | rfl | rfl | rfl | rfl | rfl <;> rfl
theorem isWord_l {t : Nat → Nat} {T : Nat} {σ : ST} (h : TX σ t T) {k s : Nat} (hk : k < 6) (hs : s + lenS.getD k 0 ≤ T) : ∀ (fu i : Nat), i ≤ lenS.getD k 0 → lenS.getD k 0 - i < fu → (fX8_isWord_0l15 fu k (nI s) (nI i) σ = 1 ∧ ∀ j, i ≤ j → j < lenS.getD k 0 → t (s + j) = wch k j) ∨ (fX8_isWord_0l15 fu k (nI s) (nI i) σ = 0 ∧ ¬ ∀ j, j < lenS.getD k 0 → t (s + j) = wch k j)
  | 0, _, _, hf => absurd hf (Nat.not_lt_zero _)
  | fu + 1, i, hi, hf => by
    have hT := h.2.1
    have hl := lenS_45 hk
    have e0 : (nI i).toNatClampNeg = i := nI_clamp (by omega)
    have e1 : (nI (s + i)).toNatClampNeg = s + i := nI_clamp (by omega)
    show (fX8_isWord_0b15 (fX8_isWord_0l15 fu) k (nI s) (nI i) σ = 1 ∧ _) ∨ (fX8_isWord_0b15 (fX8_isWord_0l15 fu) k (nI s) (nI i) σ = 0 ∧ _)
    simp only [fX8_isWord_0, fX8_isWord_0b0, fX8_isWord_0b10, fX8_isWord_0b12, fX8_isWord_0b15, fX8_isWord_0b24, fX8_isWord_0b42, fX8_isWord_0b44, fX8_isWord_0b50, bd_e, e0, e1, nI_add, n_add1]
    by_cases c1 : lenS.getD k 0 ≤ i
    · rw [if_pos ((leN (by omega) (by omega)).mpr c1)]
      exact Or.inl ⟨rfl, fun j a b => by omega⟩
    · rw [if_neg (fun q => c1 ((leN (by omega) (by omega)).mp q))]
      have hb := h.2.2 (s + i) (by omega)
      have hw := wch_e hk (i := i) (by omega)
      rw [hb.1, hw.1]
      simp only [eqN (a := t (s + i)) (b := wch k i) (by omega) (by omega)]
      by_cases c2 : t (s + i) = wch k i
      · rw [if_pos c2]
        rcases isWord_l h hk hs fu (i + 1) (by omega) (by omega) with q | q
        · refine Or.inl ⟨q.1, fun j a b => ?_⟩
          rcases Nat.eq_or_lt_of_le a with c | c
          · rw [← c]
            exact c2
          · exact q.2 j c b
        · exact Or.inr q
      · rw [if_neg c2]
        exact Or.inr ⟨rfl, fun q => c2 (q i (by omega))⟩
theorem isWord_X {t : Nat → Nat} {T : Nat} {σ : ST} (h : TX σ t T) {k s e : Nat} (hk : k < 6) (hse : s ≤ e) (he : e ≤ T) : (fX8_isWord_0 k (nI s) (nI e) σ = 1 ∧ isW t s e k) ∨ (fX8_isWord_0 k (nI s) (nI e) σ = 0 ∧ ¬ isW t s e k) := by
  have hT := h.2.1
  have hl := lenS_45 hk
  have x : fX8_isWord_0 k (nI s) (nI e) σ = if nI e - nI s = nI (lenS.getD k 0) then fX8_isWord_0l15 4096 k (nI s) 0 σ else 0 := by
    simp only [fX8_isWord_0, fX8_isWord_0b0, fX8_isWord_0b10, fX8_isWord_0b12, fX8_isWord_0b15, fX8_isWord_0b24, fX8_isWord_0b42, fX8_isWord_0b44, fX8_isWord_0b50, bd_e]
  rw [x, pk_sub (a := e) (b := s) hse]
  simp only [eqN (a := e - s) (b := lenS.getD k 0) (by omega) (by omega)]
  by_cases c1 : e - s = lenS.getD k 0
  · rw [if_pos c1]
    rcases isWord_l h hk (s := s) (by omega) 4096 0 (by omega) (by omega) with q | q
    · rw [nI_0] at q
      exact Or.inl ⟨q.1, c1, fun i hi => q.2 i (Nat.zero_le _) hi⟩
    · rw [nI_0] at q
      exact Or.inr ⟨q.1, fun r => q.2 r.2⟩
  · rw [if_neg c1]
    exact Or.inr ⟨rfl, fun r => c1 r.1⟩
/-- the class's word: its number, if there is one -/
theorem rw_l {t : Nat → Nat} {T : Nat} {σ : ST} (h : TX σ t T) {s e : Nat} (hse : s ≤ e) (he : e ≤ T) : ∀ (fu k : Nat), k ≤ 6 → 6 - k < fu → (∀ k', k' < k → ¬ isW t s e k') → (∃ j, j < 6 ∧ isW t s e j ∧ fX8_readWord_0l46 fu (nI s) (nI k) (sI σ 1 (nI e)) = (nI j, sI σ 1 (nI e))) ∨ ((∀ j, j < 6 → ¬ isW t s e j) ∧ fX8_readWord_0l46 fu (nI s) (nI k) (sI σ 1 (nI e)) = (-1, sI σ 1 (nI e)))
  | 0, _, _, hf, _ => absurd hf (Nat.not_lt_zero _)
  | fu + 1, k, hk, hf, hn => by
    have a1 : (sI σ 1 (nI e)).1 1 = nI e := sI_eq _ _ _
    have h' : TX (sI σ 1 (nI e)) t T := h
    show (∃ j, j < 6 ∧ isW t s e j ∧ fX8_readWord_0b46 (fX8_readWord_0l46 fu) (nI s) (nI k) (sI σ 1 (nI e)) = (nI j, sI σ 1 (nI e))) ∨ (_ ∧ fX8_readWord_0b46 (fX8_readWord_0l46 fu) (nI s) (nI k) (sI σ 1 (nI e)) = (-1, sI σ 1 (nI e)))
    simp only [fX8_readWord_0, fX8_readWord_0b0, fX8_readWord_0b5, fX8_readWord_0b16, fX8_readWord_0b31, fX8_readWord_0b44, fX8_readWord_0b46, fX8_readWord_0b52, fX8_readWord_0b68, fX8_readWord_0b70, fX8_readWord_0b76, bd_e, a1, n_add1]
    by_cases c1 : 6 ≤ k
    · rw [if_pos (show 6 ≤ nI k from (leN (a := 6) (by omega) (by omega)).mpr c1)]
      exact Or.inr ⟨fun j hj => hn j (by omega), rfl⟩
    · rw [if_neg (show ¬ 6 ≤ nI k from fun q => c1 ((leN (a := 6) (by omega) (by omega)).mp q)), wordOf_X (by omega)]
      rcases isWord_X h' (k := k) (by omega) hse he with q | q
      · rw [q.1, if_neg (by decide)]
        exact Or.inl ⟨k, by omega, q.2, rfl⟩
      · rw [q.1, if_pos rfl]
        refine rw_l h hse he fu (k + 1) (by omega) (by omega) (fun k' hk' => ?_)
        rcases Nat.eq_or_lt_of_le (Nat.le_of_lt_succ hk') with c | c
        · rw [c]
          exact q.2
        · exact hn k' c
theorem rw_l5 {t : Nat → Nat} {T : Nat} {s : Nat} : ∀ (fu : Nat) (σ : ST) (p : Nat), TX σ t T → p ≤ T → T - p < fu → fX8_readWord_0l5 fu (nI s) (sI σ 1 (nI p)) = fX8_readWord_0b44 (nI s) (sI σ 1 (nI (rn isLe t T p)))
  | 0, _, _, _, _, hf => absurd hf (Nat.not_lt_zero _)
  | fu + 1, σ, p, h, hp, hf => by
    have hT := h.2.1
    have e0 : (nI p).toNatClampNeg = p := nI_clamp (by omega)
    have a1 : (sI σ 1 (nI p)).1 1 = nI p := sI_eq _ _ _
    have a0 : (sI σ 1 (nI p)).1 0 = nI T := h.1
    show fX8_readWord_0b5 (fX8_readWord_0l5 fu) (nI s) (sI σ 1 (nI p)) = _
    unfold fX8_readWord_0b5
    simp only [bd_e, a0, a1]
    by_cases c1 : T ≤ p
    · rw [if_pos ((leN (by omega) (by omega)).mpr c1), rn_stop (fun q => by omega)]
    · have hb := h.2.2 p (by omega)
      rw [if_neg (fun q => c1 ((leN (by omega) (by omega)).mp q))]
      unfold fX8_readWord_0b16 fX8_readWord_0b31
      simp only [bd_e, a1, e0, show (sI σ 1 (nI p)).2.2 0 p = nI (t p) from hb.1, let_X hb.2, ite01, n_add1, sI_sI]
      by_cases c2 : isLe (t p) = true
      · rw [if_neg (fun q => q c2), rn_go (by omega) c2]
        exact rw_l5 fu σ (p + 1) h (by omega) (by omega)
      · rw [if_pos c2, rn_stop (fun q => c2 q.2)]
theorem readWord_x {t : Nat → Nat} {T : Nat} {σ : ST} (h : TX σ t T) {p : Nat} (hp : p ≤ T) : fX8_readWord_0 (sI σ 1 (nI p)) = fX8_readWord_0b44 (nI p) (sI σ 1 (nI (rn isLe t T p))) := by
  have hT := h.2.1
  have a1 : (sI σ 1 (nI p)).1 1 = nI p := sI_eq _ _ _
  have x := rw_l5 (s := p) 4096 σ p h hp (by omega)
  rw [← x]
  unfold fX8_readWord_0 fX8_readWord_0b0
  rw [bd_e, a1]
theorem readWord_y (s : Int32) (τ : ST) : fX8_readWord_0b44 s τ = fX8_readWord_0l46 4096 s (nI 0) τ := by
  rw [nI_0]
  rfl
theorem readWord_X {t : Nat → Nat} {T : Nat} {σ : ST} (h : TX σ t T) {p : Nat} (hp : p ≤ T) : (∃ j, j < 6 ∧ isW t p (rn isLe t T p) j ∧ fX8_readWord_0 (sI σ 1 (nI p)) = (nI j, sI σ 1 (nI (rn isLe t T p)))) ∨ ((∀ j, j < 6 → ¬ isW t p (rn isLe t T p) j) ∧ fX8_readWord_0 (sI σ 1 (nI p)) = (-1, sI σ 1 (nI (rn isLe t T p)))) := by
  rw [readWord_x h hp, readWord_y]
  exact rw_l h (rn_ge hp) (rn_le hp) 4096 0 (by omega) (by omega) (fun k' hk' => absurd hk' (Nat.not_lt_zero _))
/-- a number's value, held at 10000 -/
def nv (t : Nat → Nat) (p : Nat) : Nat → Nat
  | 0 => 0
  | n + 1 => min (nv t p n * 10 + (t (p + n) - 48)) 10000
theorem nv_le (t : Nat → Nat) (p n : Nat) : nv t p n ≤ 10000 := by
  cases n with
  | zero => exact Nat.zero_le _
  | succ n => exact Nat.min_le_right _ _
