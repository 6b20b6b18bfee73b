/-! the class's cut, when it is wanted: it is of the rows and rules as they stand -/
def JCUT (σ : ST) : Prop := σ.1 22 = 0 → ∀ V H c c1 N, c ≤ 999 → σ.2.2 1 0 = nI c → σ.2.2 1 1 = nI c1 → RWX V H c1 N σ → CUTX V H c N σ
theorem CUTX.fr {V : Nat → Nat} {H : Nat → Bool} {c N : Nat} {I J : List (Nat × Nat)} {σ τ : ST} (h : CUTX V H c N σ) (f : Fr I J σ τ) (hh : ([5, 6, 7, 8].all (fun k => !inR I k) && [12, 13, 14, 15, 16, 17].all (fun k => !inR J k)) = true) : CUTX V H c N τ := by
  simp only [List.all_cons, List.all_nil, Bool.and_true, Bool.and_eq_true, Bool.not_eq_true'] at hh
  obtain ⟨⟨h1, h2, h3, h4⟩, h5, h6, h7, h8, h9, h10⟩ := hh
  refine ⟨h.1.fr f ?_, (f.1 _ h2).trans h.2.1, (f.1 _ h3).trans h.2.2.1, (f.1 _ h4).trans h.2.2.2.1, h.2.2.2.2⟩
  simp only [List.all_cons, List.all_nil, h1, h5, h6, h7, h8, h9, h10]
  rfl
/-- arrays, ints that the class's cut hangs on -/
def kI (k : Nat) : Bool := [2, 5, 6, 7, 8, 22].contains k
def kA (k : Nat) : Bool := [1, 3, 4, 5, 12, 13, 14, 15, 16, 17].contains k
theorem JCUT.same {U : Nat} {σ τ : ST} (h : JCUT σ) (f : Fr [(0, 1), (3, 4), (9, 21), (23, 999)] [(0, 0), (2, 2), (6, 11), (18, U)] σ τ) : JCUT τ := by
  intro h22 V H c c1 N hc h0 h1 hR
  have b : Fr [(0, 1), (3, 4), (9, 21), (23, 999)] [(0, 0), (2, 2), (6, 11), (18, U)] τ σ := ⟨fun k e => (f.1 k e).symm, fun k e => (f.2 k e).symm⟩
  exact (h ((f.1 22 rfl).symm.trans h22) V H c c1 N hc (by rw [b.2 1 rfl]; exact h0) (by rw [b.2 1 rfl]; exact h1) (hR.fr b rfl)).fr f rfl
def KCU (σ : ST) : Prop := (∃ V H c c1 N, c ≤ 999 ∧ c1 ≤ 999 ∧ σ.2.2 1 0 = nI c ∧ σ.2.2 1 1 = nI c1 ∧ RWX V H c1 N σ) ∧ JCUT σ
theorem KCU.same {U : Nat} {σ τ : ST} (h : KCU σ) (f : Fr [(0, 1), (3, 4), (9, 21), (23, 999)] [(0, 0), (2, 2), (6, 11), (18, U)] σ τ) : KCU τ := by
  obtain ⟨⟨V, H, c, c1, N, h1, h2, h3, h4, h5⟩, h6⟩ := h
  exact ⟨⟨V, H, c, c1, N, h1, h2, by rw [f.2 1 rfl]; exact h3, by rw [f.2 1 rfl]; exact h4, h5.fr f rfl⟩, h6.same f⟩
theorem KCU.fr {I J : List (Nat × Nat)} {σ τ : ST} (h : KCU σ) (f : Fr I J σ τ) (h1 : subR I [(0, 1), (3, 4), (9, 21), (23, 999)] = true) (h2 : subR J [(0, 0), (2, 2), (6, 11), (18, 9999)] = true) : KCU τ := h.same (U := 9999) (f.wide h1 h2)
theorem KCU.putI {σ : ST} (h : KCU σ) {k : Nat} {v : Int32} (hh : inR [(0, 1), (3, 4), (9, 21), (23, 999)] k = true) : KCU (sI σ k v) := h.same (U := 9999) ((Fr.refl σ).putI hh)
theorem KCU.putA {σ : ST} (h : KCU σ) {k : Nat} {f : Nat → Int32} (hh : inR [(0, 0), (2, 2), (6, 11), (18, 9999)] k = true) : KCU (sA σ k f) := h.same (U := 9999) ((Fr.refl σ).putA hh)
theorem KCU.putL {σ : ST} (h : KCU σ) {k : Nat} {v : Int64} : KCU (sL σ k v) := h.same (U := 9999) ⟨fun _ _ => rfl, fun _ _ => rfl⟩
theorem KCU.putG {σ : ST} (h : KCU σ) {k : Nat} {f : Nat → Int32} (hk : 18 ≤ k) : KCU (sA σ k f) := by
  refine h.same (U := k) ⟨fun _ _ => rfl, fun a e => sA_ne _ _ (beq_f fun q => ?_)⟩
  subst q
  have z : Nat.ble 18 a = true := Nat.ble_eq.mpr hk
  have z2 : Nat.ble a a = true := Nat.ble_eq.mpr (Nat.le_refl _)
  simp only [inR, List.any_cons, List.any_nil, z, z2, Bool.and_true, Bool.or_true, Bool.or_false, Bool.true_or, Bool.and_self] at e
  exact absurd e (by decide)
theorem cutNow_X {σ : ST} (h : KCU σ) : KCU (fX11_cutNow_0 σ) ∧ (fX11_cutNow_0 σ).1 22 = 0 ∧ Fr [(3, 8), (22, 22)] [(8, 19)] σ (fX11_cutNow_0 σ) := by
  obtain ⟨⟨V, H, c, c1, N, h1, h2, h3, h4, h5⟩, h6⟩ := h
  have z0 : (0 : Int32).toNatClampNeg = 0 := by decide
  have z1 : (1 : Int32).toNatClampNeg = 1 := by decide
  have e : fX11_cutNow_0 σ = if σ.1 22 = 0 then σ else sI (fX2_cut_0 (nI c) (nI c1) σ) 22 0 := by
    unfold fX11_cutNow_0 fX11_cutNow_0b0 fX11_cutNow_0b7 fX11_cutNow_0b43 fX8_ruleNow_0 fX8_ruleNow_0b0 fX8_ruleNow_0b4 fX8_ruleNow_0b10 fX8_ruleNow_0b20
    simp only [bd_e, z0, z1]
    rw [if_neg (show ¬ (0 : Int32) < 0 by decide), if_neg (show ¬ (6 : Int32) ≤ 0 by decide), if_neg (show ¬ (1 : Int32) < 0 by decide), if_neg (show ¬ (6 : Int32) ≤ 1 by decide), h3, h4]
  rw [e]
  by_cases q : σ.1 22 = 0
  · rw [if_pos q]
    exact ⟨⟨⟨V, H, c, c1, N, h1, h2, h3, h4, h5⟩, h6⟩, q, Fr.refl σ⟩
  · rw [if_neg q]
    have f1 : Fr [(22, 22)] [] (fX2_cut_0 (nI c) (nI c1) σ) (sI (fX2_cut_0 (nI c) (nI c1) σ) 22 0) := (Fr.refl _).putI rfl
    obtain ⟨_, f0⟩ := cut_X h1 h5
    have fA : Fr [(3, 8), (22, 22)] [(8, 19)] σ (sI (fX2_cut_0 (nI c) (nI c1) σ) 22 0) := (f0.wide rfl rfl).call f1 rfl rfl
    have fB : Fr [(3, 8), (22, 22)] [(8, 19)] (sI (fX2_cut_0 (nI c) (nI c1) σ) 22 0) σ := ⟨fun k e => (fA.1 k e).symm, fun k e => (fA.2 k e).symm⟩
    refine ⟨⟨⟨V, H, c, c1, N, h1, h2, by rw [fA.2 1 rfl]; exact h3, by rw [fA.2 1 rfl]; exact h4, h5.fr fA rfl⟩, ?_⟩, sI_eq _ _ _, fA⟩
    intro _ V' H' c' c1' N' k0 k1 k2 k3
    rw [fA.2 1 rfl] at k1 k2
    have g1 := cut_X k0 (k3.fr fB rfl)
    rw [← k1, ← k2, h3, h4] at g1
    exact g1.1.fr f1 rfl
theorem kc_fX11_cutNow_0 {σ : ST} (h : KCU σ) : KCU (fX11_cutNow_0 σ) := (cutNow_X h).1
theorem KCU.put8 {σ : ST} (h : KCU σ) {k : Nat} {f : Nat → Int32} (hk : k ≤ 3) : KCU (sA σ (8 + k) f) := by
  rcases (show k = 0 ∨ k = 1 ∨ k = 2 ∨ k = 3 by omega) with rfl | rfl | rfl | rfl <;> exact h.putA rfl
theorem kc_take102 {K : Int32 → Int32 → ST → ST} (hK : ∀ a b τ, KCU τ → KCU (K a b τ)) {k : Nat} (hk : k ≤ 3) : ∀ (fu : Nat) (l2 l3 l5 l6 : Int32) (τ : ST), KCU τ → KCU (fX3_take_0l102 K fu l2 l3 k l5 l6 τ)
  | 0, _, _, _, _, _, h => h
  | fu + 1, l2, l3, l5, l6, τ, h => by
    have p1 : KCU (fX3_take_0b137 K l2 l3 k l5 l6 τ) := by
      unfold fX3_take_0b137
      simp only [bd_e]
      exact hK _ _ _ (h.put8 hk)
    show KCU (fX3_take_0b102 K (fX3_take_0l102 K fu) l2 l3 k l5 l6 τ)
    unfold fX3_take_0b102 fX3_take_0b107 fX3_take_0b119
    simp only [bd_e]
    by_cases c1 : l6 ≤ 0
    · rw [if_pos c1]
      exact p1
    · rw [if_neg c1]
      by_cases c2 : τ.2.2 (8 + k) (l6 - 1).toNatClampNeg ≤ l5
      · rw [if_pos c2]
        exact p1
      · rw [if_neg c2]
        exact kc_take102 hK hk fu _ _ _ _ _ (h.put8 hk)
theorem clamp3 {x : Int32} (h : ¬ 4 ≤ x) : x.toNatClampNeg ≤ 3 := by
  have z : (4 : Int32).toInt = 4 := rfl
  rw [Int32.le_iff_toInt_le, z] at h
  show x.toInt.toNat ≤ 3
  omega
theorem kc_take22 : ∀ (fu : Nat) (l2 l3 : Int32) (τ : ST), KCU τ → KCU (fX3_take_0l22 fu l2 l3 τ)
  | 0, _, _, _, h => h
  | fu + 1, l2, l3, τ, h => by
    show KCU (fX3_take_0b22 (fX3_take_0l22 fu) l2 l3 τ)
    unfold fX3_take_0b22 fX3_take_0b150 fX3_take_0b27
    simp only [bd_e]
    by_cases c1 : 4 ≤ l3
    · rw [if_pos c1]
      exact h.putI rfl
    · rw [if_neg c1]
      have k3 := clamp3 c1
      have ih : ∀ a b ρ, KCU ρ → KCU (fX3_take_0l22 fu a b ρ) := fun a b ρ q => kc_take22 fu a b ρ q
      by_cases c2 : τ.1 3 ≤ 0
      · rw [if_pos c2]
        unfold fX3_take_0b96
        simp only [bd_e]
        exact kc_take102 ih k3 _ _ _ _ _ _ h
      · rw [if_neg c2]
        unfold fX3_take_0b54 fX3_take_0b96
        simp only [bd_e]
        exact kc_take102 ih k3 _ _ _ _ _ _ (h.putI rfl)
theorem kc_fX3_take_0 {p : Int32} {σ : ST} (h : KCU σ) : KCU (fX3_take_0 p σ) := by
  unfold fX3_take_0 fX3_take_0b0 fX3_take_0b9 fX3_take_0b13 fX3_take_0b19 fX3_take_0b20
  simp only [bd_e]
  by_cases c1 : 48 ≤ σ.1 3
  · rw [if_pos c1]
    exact h
  · rw [if_neg c1]
    by_cases c2 : p < 0
    · rw [if_pos c2]
      exact h
    · rw [if_neg c2]
      by_cases c3 : p < 48
      · rw [if_pos c3]
        exact kc_take22 _ _ _ _ h
      · rw [if_neg c3]
        exact h
