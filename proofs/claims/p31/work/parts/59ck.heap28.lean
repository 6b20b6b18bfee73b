/-! what the class's calls keep: rows, rules, cut, heaps, near ones -/
def FXE (σ : ST) : Prop := ∃ V H c c1 N r2 r3 r4, FX V H c c1 N r2 r3 r4 σ
def KH (σ : ST) : Prop := KHP σ ∧ FXE σ
theorem FXE.fr {I J : List (Nat × Nat)} {σ τ : ST} (h : FXE σ) (f : Fr I J σ τ) (hh : ((!inR I 2 && [3, 4, 5].all (fun k => !inR J k)) && !inR J 1) = true) : FXE τ := by
  obtain ⟨V, H, c, c1, N, r2, r3, r4, hF⟩ := h
  exact ⟨V, H, c, c1, N, r2, r3, r4, hF.fr f hh⟩
theorem FXE.same {U : Nat} {σ τ : ST} (h : FXE σ) (f : Fr kII (kAA U) σ τ) : FXE τ := h.fr f rfl
theorem KH.fr {I J : List (Nat × Nat)} {σ τ : ST} (h : KH σ) (f : Fr I J σ τ) (h1 : subR I kII = true) (h2 : subR J (kAA 9999) = true) (hl : LQ (σ.2.1 0) (σ.2.1 1) τ) : KH τ := ⟨h.1.fr f h1 h2 hl, h.2.same (U := 9999) (f.wide h1 h2)⟩
theorem KH.putI {σ : ST} (h : KH σ) {k : Nat} {v : Int32} (hh : inR kII k = true) : KH (sI σ k v) := ⟨h.1.putI hh, h.2.same (U := 9999) ((Fr.refl σ).putI hh)⟩
theorem KH.putA {σ : ST} (h : KH σ) {k : Nat} {f : Nat → Int32} (hh : inR (kAA 9999) k = true) : KH (sA σ k f) := ⟨h.1.putA hh, h.2.same (U := 9999) ((Fr.refl σ).putA hh)⟩
theorem KH.putL {σ : ST} (h : KH σ) {k : Nat} {v : Int64} (h0 : Nat.beq 0 k = false) (h1 : Nat.beq 1 k = false) : KH (sL σ k v) := ⟨h.1.putL h0 h1, h.2⟩
theorem KH.putG {σ : ST} (h : KH σ) {k : Nat} {f : Nat → Int32} (hk : 48 ≤ k) : KH (sA σ k f) := by
  refine ⟨h.1.putG hk, h.2.same (U := k) ⟨fun _ _ => rfl, fun a e => sA_ne _ _ (beq_f fun q => ?_)⟩⟩
  subst q
  have z : Nat.ble 47 a = true := Nat.ble_eq.mpr (by omega)
  have z2 : Nat.ble a a = true := Nat.ble_eq.mpr (Nat.le_refl _)
  simp only [inR, List.any_cons, List.any_nil, z, z2, Bool.and_true, Bool.or_true, Bool.or_false, Bool.true_or, Bool.and_self] at e
  exact absurd e (by decide)
theorem kn_fX11_cutNow_0 {σ : ST} (h : KH σ) : KH (fX11_cutNow_0 σ) := ⟨kh_fX11_cutNow_0 h.1, h.2.fr (cutNow_X h.1.1).2.2 rfl⟩
theorem kn_fX11_heapNow_0 {σ : ST} (h : KH σ) : KH (fX11_heapNow_0 σ).2 := by
  obtain ⟨V, H, c, c1, N, r2, r3, r4, hF⟩ := h.2
  obtain ⟨k1, _, _, _, k5⟩ := heapNow_X h.1 hF
  exact ⟨k1, h.2.fr k5 rfl⟩
theorem heapNow_1 {σ : ST} (h : KH σ) (q : ¬ (fX11_heapNow_0 σ).1 = 0) : (fX11_heapNow_0 σ).2.1 23 = 0 := by
  obtain ⟨V, H, c, c1, N, r2, r3, r4, hF⟩ := h.2
  obtain ⟨_, k2, k3, _, _⟩ := heapNow_X h.1 hF
  rcases Nat.lt_or_ge 9 (CUT V H c N).1.1 with z | z
  · exact absurd (k3 z) q
  · exact (k2 z).2.2
theorem kn_near {σ : ST} (h : KH σ) (h23 : σ.1 23 = 0) : KH (fX11_nearNow_0 σ) := by
  obtain ⟨V, H, c, c1, N, r2, r3, r4, hF⟩ := h.2
  obtain ⟨k1, _, k3⟩ := nearNow_X h.1 h23 hF
  exact ⟨k1, h.2.fr k3 rfl⟩
theorem byWay_X (a : Int32) (σ : ST) : fX11_byWay_0 a σ = if a = 0 then 48 else 54 := by
  unfold fX11_byWay_0 fX11_byWay_0b0 fX11_byWay_0b4 fX11_byWay_0b14 fX11_byWay_0b18 fX11_byWay_0b18a
  rfl
theorem near_X (a : Int32) (σ : ST) : fX11_near_0 a σ = if ¬ a < 0 ∧ ¬ 4 < a then (if (fX11_heapNow_0 σ).1 = 0 then (-2, (fX11_heapNow_0 σ).2) else if a ≤ 2 then (if a = 0 then (fX11_nearNow_0 (fX11_heapNow_0 σ).2).1 14 else if a = 1 then (fX11_nearNow_0 (fX11_heapNow_0 σ).2).1 15 else (fX11_nearNow_0 (fX11_heapNow_0 σ).2).1 16, fX11_nearNow_0 (fX11_heapNow_0 σ).2) else (if a - 3 = 0 then (fX11_heapNow_0 σ).2.1 10 else (fX11_heapNow_0 σ).2.1 17, (fX11_heapNow_0 σ).2)) else (-1, σ) := by
  simp only [fX11_near_0, fX11_near_0b0, fX11_near_0b9, fX11_near_0b11, fX11_near_0b18, fX11_near_0b21, fX11_near_0b26, fX11_near_0b33a, fX11_near_0b33, fX11_near_0b37, fX11_near_0b45, fX11_near_0b53, fX11_near_0b58, fX11_near_0b68, fX11_near_0b75, bd_e, bp_e, within_X, ite01, byWay_X]
  by_cases c : ¬ a < 0 ∧ ¬ 4 < a
  · rw [if_neg (fun w => w c), if_pos c]
    by_cases d : (fX11_heapNow_0 σ).1 = 0
    · rw [if_pos d, if_pos d]
    · rw [if_neg d, if_neg d]
      by_cases e : a ≤ 2
      · rw [if_pos e, if_pos e]
        by_cases f : a = 0
        · rw [if_pos f, if_pos f]
        · rw [if_neg f, if_neg f]
          by_cases g : a = 1
          · rw [if_pos g, if_pos g]
          · rw [if_neg g, if_neg g]
      · rw [if_neg e, if_neg e]
        by_cases f : a - 3 = 0
        · rw [if_pos f, if_pos f, if_pos rfl]
        · rw [if_neg f, if_neg f, if_neg (by decide)]
  · rw [if_pos c, if_neg c]
theorem kn_fX11_near_0 {a : Int32} {σ : ST} (h : KH σ) : KH (fX11_near_0 a σ).2 := by
  rw [near_X]
  by_cases c : ¬ a < 0 ∧ ¬ 4 < a
  · rw [if_pos c]
    by_cases d : (fX11_heapNow_0 σ).1 = 0
    · rw [if_pos d]
      exact kn_fX11_heapNow_0 h
    · rw [if_neg d]
      by_cases e : a ≤ 2
      · rw [if_pos e]
        exact kn_near (kn_fX11_heapNow_0 h) (heapNow_1 h d)
      · rw [if_neg e]
        exact kn_fX11_heapNow_0 h
  · rw [if_neg c]
    exact h
