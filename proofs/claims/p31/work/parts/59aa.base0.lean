/-! steps taken off by a row, not by reckoning -/
theorem bd_e {α β : Type} (x : α) (F : α → β) : bd x F = F x := Eq.trans rfl rfl
theorem bp_e {α β γ : Type} (x : α × β) (F : α → β → γ) : bp x F = F x.1 x.2 := Eq.trans rfl rfl
