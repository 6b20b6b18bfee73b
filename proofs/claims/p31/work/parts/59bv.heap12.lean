/-! the class's best dealing out is the reference's -/
theorem WO_bound {L : Nat → Nat → Int32} {n : Nat} (hn : n ≤ 9) (hL : ∀ x y, x < n → y < n → -20200 ≤ (L x y).toInt ∧ (L x y).toInt ≤ 20200) (a : Nat → Nat) : ¬ WO L a n ≤ -1000000000 := by
  have z : (0 : Int32).toInt = 0 := rfl
  have add : ∀ (x y : Int32) (p q : Int), p ≤ 1900000 → q ≤ 1900000 → -p ≤ x.toInt → x.toInt ≤ p → -q ≤ y.toInt → y.toInt ≤ q → -(p + q) ≤ (x + y).toInt ∧ (x + y).toInt ≤ p + q := fun x y p q hp hq h1 h2 h3 h4 => by
    rw [Int32.toInt_add, Int.bmod_eq_of_le (by omega) (by omega)]
    omega
  have row : ∀ i, i < n → ∀ j, j ≤ i → -(20200 * (j : Int)) ≤ (rs L a i j).toInt ∧ (rs L a i j).toInt ≤ 20200 * (j : Int) := by
    intro i hi j
    induction j with
    | zero =>
      intro _
      show -(20200 * ((0 : Nat) : Int)) ≤ (0 : Int32).toInt ∧ (0 : Int32).toInt ≤ 20200 * ((0 : Nat) : Int)
      rw [z]
      omega
    | succ j ih =>
      intro hj
      obtain ⟨h1, h2⟩ := ih (by omega)
      obtain ⟨l1, l2⟩ := hL j i (by omega) hi
      have st : -20200 ≤ (if a i = a j then L j i else 0 : Int32).toInt ∧ (if a i = a j then L j i else 0 : Int32).toInt ≤ 20200 := by
        by_cases c : a i = a j
        · rw [if_pos c]
          exact ⟨l1, l2⟩
        · rw [if_neg c, z]
          omega
      have k := add (rs L a i j) (if a i = a j then L j i else 0) (20200 * (j : Int)) 20200 (by omega) (by omega) h1 h2 st.1 st.2
      show -(20200 * ((j + 1 : Nat) : Int)) ≤ (rs L a i j + (if a i = a j then L j i else 0)).toInt ∧ (rs L a i j + (if a i = a j then L j i else 0)).toInt ≤ 20200 * ((j + 1 : Nat) : Int)
      omega
  have tot : ∀ i, i ≤ n → -(181800 * (i : Int)) ≤ (WO L a i).toInt ∧ (WO L a i).toInt ≤ 181800 * (i : Int) := by
    intro i
    induction i with
    | zero =>
      intro _
      show -(181800 * ((0 : Nat) : Int)) ≤ (0 : Int32).toInt ∧ (0 : Int32).toInt ≤ 181800 * ((0 : Nat) : Int)
      rw [z]
      omega
    | succ i ih =>
      intro hi
      obtain ⟨h1, h2⟩ := ih (by omega)
      obtain ⟨r1, r2⟩ := row i (by omega) i (Nat.le_refl _)
      have k := add (WO L a i) (rs L a i i) (181800 * (i : Int)) 181800 (by omega) (by omega) h1 h2 (by omega) (by omega)
      show -(181800 * ((i + 1 : Nat) : Int)) ≤ (WO L a i + rs L a i i).toInt ∧ (WO L a i + rs L a i i).toInt ≤ 181800 * ((i + 1 : Nat) : Int)
      omega
  intro h
  obtain ⟨t1, t2⟩ := tot n (Nat.le_refl _)
  rw [Int32.le_iff_toInt_le, show (-1000000000 : Int32).toInt = -1000000000 by decide] at h
  omega
theorem findBest_X {L : Nat → Nat → Int32} {n : Nat} {σ : ST} (hn : n ≤ 9) (hW : ∀ a, ¬ WO L a n ≤ -1000000000) (hT : TIED L n σ) : CBB (BEST L n) n (fX0_findBest_0 σ) ∧ TIED L n (fX0_findBest_0 σ) := by
  generalize g1 : sI (sI σ 12 0) 11 (-1000000000) = τ0
  generalize g2 : sA τ0 45 (fun j => if j < 9 then 0 else τ0.2.2 45 j) = τ1
  have T1 : TIED L n τ1 := by
    have q : ∀ x, x < 9 → Nat.beq (21 + x) 45 = false := fun x hx => beq_f (by omega)
    refine ⟨by rw [← g2, ← g1]; exact hT.1, fun x y hxy => ?_, fun a ha x hx => ?_⟩
    · have h1 := hxy.1
      have h2 := hxy.2
      rw [← g2, sA_ne _ _ (q x (by omega)), sA_ne _ _ (q y (by omega)), ← g1]
      exact hT.2.1 x y hxy
    · rw [← g2, sA_ne _ _ rfl, ← g1]
      exact hT.2.2 a ha x hx
  have e : fX0_findBest_0 σ = fX0_deal_0 10 (nI 0) (nI (hpi (fun _ => 0) 0)) (WO L (fun _ => 0) 0) 0 τ1 := by
    unfold fX0_findBest_0 fX0_findBest_0b0
    simp only [bd_e, g1, g2]
    show fX0_deal_0 10 0 0 0 0 τ1 = fX0_deal_0 10 (nI 0) (nI 0) 0 0 τ1
    rw [nI_0]
  obtain ⟨τ', y1, y2, _, y4⟩ := deal_X hn hW n 0 (fun _ => 0) (false, 0, fun _ => 0) 0 τ1 10 (by omega) (by omega) (Nat.le_refl _) T1 (by rw [← g2, ← g1]; rfl) ⟨fun j hj => absurd hj (Nat.not_lt_zero _), fun v hv => by
    rw [← g2, sA_eq]
    show (if v < 9 then 0 else τ0.2.2 45 v) = nI 0
    rw [if_pos hv, nI_0]⟩ ⟨fun q => absurd q (by decide), fun _ => by rw [← g2, ← g1]; rfl⟩
  rw [e, y1]
  exact ⟨y2, T1.fr hn y4⟩
