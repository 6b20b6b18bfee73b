/-! the rows, words of both sides: what the calls do to them -/
theorem pin1 {α β : Type} {a a' : α} {b b' : β} (h : (a, b) = (a', b')) : a = a' := congrArg Prod.fst h
theorem pin2 {α β : Type} {a a' : α} {b b' : β} (h : (a, b) = (a', b')) : b = b' := congrArg Prod.snd h
theorem ite01 {c : Prop} [Decidable c] : ((if c then (1 : Int32) else 0) = 0) ↔ ¬ c := by
  by_cases h : c
  · rw [if_pos h]; exact ⟨fun q => absurd q (by decide), fun q => absurd h q⟩
  · rw [if_neg h]; exact ⟨fun _ => h, fun _ => rfl⟩
theorem within_X (x lo hi : Int32) (σ : ST) : fX11_within_0 x lo hi σ = if ¬ x < lo ∧ ¬ hi < x then 1 else 0 := by
  simp only [fX11_within_0, fX11_within_0b0, fX11_within_0b5, fX11_within_0b10, fX11_within_0b14, fX11_within_0b15]
  by_cases h1 : x < lo
  · rw [if_pos h1, if_neg (fun q => q.1 h1)]
  · rw [if_neg h1]
    by_cases h2 : hi < x
    · rw [if_pos h2, if_neg (fun q => q.2 h2)]
    · rw [if_neg h2, if_pos ⟨h1, h2⟩]
theorem in_M (x lo hi : Int32) (σ : ST) : fX12_in_0 x lo hi σ = if ¬ x < lo ∧ ¬ hi < x then 1 else 0 := by
  simp only [fX12_in_0, fX12_in_0b0, fX12_in_0b5, fX12_in_0b10, fX12_in_0b14, fX12_in_0b15]
  by_cases h1 : x < lo
  · rw [if_pos h1, if_neg (fun q => q.1 h1)]
  · rw [if_neg h1]
    by_cases h2 : hi < x
    · rw [if_pos h2, if_neg (fun q => q.2 h2)]
    · rw [if_neg h2, if_pos ⟨h1, h2⟩]
theorem loud_X (x : Int32) (σ : ST) : fX11_isLoudness_0 x σ = if LD x then 1 else 0 := by
  simp only [fX11_isLoudness_0, fX11_isLoudness_0b0, bd, within_X]
theorem row_X (a b c d : Int32) (σ : ST) : fX11_row_0 a b c d σ = if LD4 a b c d then (if σ.1 2 < 48 then fX7_addRow_0 a b c d (fX11_nothingIsFound_0 σ) else (-3, σ)) else (-1, σ) := by
  simp only [fX11_row_0, fX11_row_0b0, fX11_row_0b7, fX11_row_0b14, fX11_row_0b21, fX11_row_0b31, fX11_row_0b43, fX11_row_0b46, fX11_row_0b29, bd, bp, loud_X, ite01]
  by_cases h1 : LD a
  · by_cases h2 : LD b
    · by_cases h3 : LD c
      · by_cases h4 : LD d
        · rw [if_neg (fun q => q h1), if_neg (fun q => q h2), if_neg (fun q => q h3), if_neg (fun q => q h4), if_pos (show LD4 a b c d from ⟨h1, h2, h3, h4⟩)]
        · rw [if_neg (fun q => q h1), if_neg (fun q => q h2), if_neg (fun q => q h3), if_pos h4, if_neg (fun q : LD4 a b c d => h4 q.2.2.2)]
      · rw [if_neg (fun q => q h1), if_neg (fun q => q h2), if_pos h3, if_neg (fun q : LD4 a b c d => h3 q.2.2.1)]
    · rw [if_neg (fun q => q h1), if_pos h2, if_neg (fun q : LD4 a b c d => h2 q.2.1)]
  · rw [if_pos h1, if_neg (fun q : LD4 a b c d => h1 q.1)]
theorem row_M (a b c d : Int32) (σ : ST) : fX12_row_0 a b c d σ = if LD4 a b c d then (if σ.1 31 = 48 then (-3, σ) else ((fX12_addRow_0 a b c d 0 σ).1 31 - 1, fX12_addRow_0 a b c d 0 σ)) else (-1, σ) := by
  simp only [fX12_row_0, fX12_row_0b0, fX12_row_0b10, fX12_row_0b20, fX12_row_0b30, fX12_row_0b43, fX12_row_0b52, fX12_row_0b55, fX12_row_0b41, bd, bp, in_M, ite01]
  by_cases h1 : LD a
  · by_cases h2 : LD b
    · by_cases h3 : LD c
      · by_cases h4 : LD d
        · rw [if_neg (fun q => q h1), if_neg (fun q => q h2), if_neg (fun q => q h3), if_neg (fun q => q h4), if_pos (show LD4 a b c d from ⟨h1, h2, h3, h4⟩)]
        · rw [if_neg (fun q => q h1), if_neg (fun q => q h2), if_neg (fun q => q h3), if_pos h4, if_neg (fun q : LD4 a b c d => h4 q.2.2.2)]
      · rw [if_neg (fun q => q h1), if_neg (fun q => q h2), if_pos h3, if_neg (fun q : LD4 a b c d => h3 q.2.2.1)]
    · rw [if_neg (fun q => q h1), if_pos h2, if_neg (fun q : LD4 a b c d => h2 q.2.1)]
  · rw [if_pos h1, if_neg (fun q : LD4 a b c d => h1 q.1)]
theorem sA_1 (σ : ST) (k : Nat) (f : Nat → Int32) : (sA σ k f).1 = σ.1 := rfl
theorem sI_22 (σ : ST) (k : Nat) (v : Int32) : (sI σ k v).2.2 = σ.2.2 := rfl
theorem sA_eq (σ : ST) (k : Nat) (f : Nat → Int32) : (sA σ k f).2.2 k = f := by
  show cond (Nat.beq k k) f (σ.2.2 k) = f
  rw [Nat.beq_refl k]
  rfl
theorem sA_ne (σ : ST) {k j : Nat} (f : Nat → Int32) (h : Nat.beq j k = false) : (sA σ k f).2.2 j = σ.2.2 j := by
  show cond (Nat.beq j k) f (σ.2.2 j) = σ.2.2 j
  rw [h]
  rfl
theorem sI_eq (σ : ST) (k : Nat) (v : Int32) : (sI σ k v).1 k = v := by
  show cond (Nat.beq k k) v (σ.1 k) = v
  rw [Nat.beq_refl k]
  rfl
theorem sI_ne (σ : ST) {k j : Nat} (v : Int32) (h : Nat.beq j k = false) : (sI σ k v).1 j = σ.1 j := by
  show cond (Nat.beq j k) v (σ.1 j) = σ.1 j
  rw [h]
  rfl
theorem n_mul4 (R : Nat) : nI R * 4 = nI (R * 4) := pk_mul R 4
theorem n_4mul (R : Nat) : 4 * nI R = nI (4 * R) := pk_mul 4 R
theorem n_add1 (n : Nat) : nI n + 1 = nI (n + 1) := nI_add n 1
theorem n_add2 (n : Nat) : nI n + 2 = nI (n + 2) := nI_add n 2
theorem n_add3 (n : Nat) : nI n + 3 = nI (n + 3) := nI_add n 3
theorem nar1 : vp_nar .boolean 1 = 1 := by decide +kernel
theorem nar0 : vp_nar .boolean 0 = 0 := by decide +kernel
theorem lt48 {R : Nat} (h : R < 48) : nI R < 48 := (nI_ltI (b := 48) (by omega) (by omega)).mpr h
theorem addDeaf_X {τ : ST} {R : Nat} (h : τ.1 2 = nI R) (hR : R < 48) : ∃ τ', fX7_addDeaf_0 τ = (nI R, τ') ∧ τ'.1 2 = nI (R + 1) ∧ τ'.2.2 4 = upd (τ.2.2 4) R 1 ∧ τ'.2.2 5 = upd (τ.2.2 5) R 0 ∧ τ'.2.2 6 = upd (τ.2.2 6) R 0 ∧ τ'.2.2 3 = τ.2.2 3 := by
  have e0 : (nI R).toNatClampNeg = R := nI_clamp (by omega)
  generalize hx : fX7_addDeaf_0 τ = x
  simp only [fX7_addDeaf_0, fX7_addDeaf_0b0, fX7_addDeaf_0b9, fX7_addDeaf_0b12, bd, h, if_pos (lt48 hR), sA_1, e0, n_add1, nar1, nar0] at hx
  subst hx
  exact ⟨_, rfl, rfl, rfl, rfl, rfl, rfl⟩
