def σ0 : ST := (fun j => cond (Nat.beq j 21) (-1) (cond (Nat.beq j 22) 1 (cond (Nat.beq j 23) 1 (cond (Nat.beq j 24) 1 0))), fun _ => 0, fun a => cond (Nat.beq a 1) nowF (cond (Nat.beq a 66) ruleF (fun _ => 0)))
theorem INV.start : INV σ0 := by
  refine ⟨fun k N e => ?_, fun a N e j => ?_⟩
  · have h : σ0.1 k = 0 := by
      show cond (Nat.beq k 21) (-1) (cond (Nat.beq k 22) 1 (cond (Nat.beq k 23) 1 (cond (Nat.beq k 24) 1 0))) = 0
      cases c1 : Nat.beq k 21
      · cases c2 : Nat.beq k 22
        · cases c3 : Nat.beq k 23
          · cases c4 : Nat.beq k 24
            · rfl
            · rw [Nat.eq_of_beq_eq_true c4] at e; cases e
          · rw [Nat.eq_of_beq_eq_true c3] at e; cases e
        · rw [Nat.eq_of_beq_eq_true c2] at e; cases e
      · rw [Nat.eq_of_beq_eq_true c1] at e; cases e
    rw [h]
    exact ⟨0, Nat.zero_le _, rfl⟩
  · have h : σ0.2.2 a j = 0 := by
      show (cond (Nat.beq a 1) nowF (cond (Nat.beq a 66) ruleF (fun _ => 0))) j = 0
      cases c1 : Nat.beq a 1
      · cases c2 : Nat.beq a 66
        · rfl
        · rw [Nat.eq_of_beq_eq_true c2] at e; cases e
      · rw [Nat.eq_of_beq_eq_true c1] at e; cases e
    rw [h]
    exact ⟨0, Nat.zero_le _, rfl⟩
