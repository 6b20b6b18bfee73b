/-! the reference's search is the search by depth -/
theorem RB.fr85 {B : BB} {n : Nat} {l2 : Int32} {σ τ : ST} (h : RB B n l2 σ) (f : Fr [] [(85, 85)] σ τ) : RB B n l2 τ := by
  refine ⟨h.1, fun c => ?_⟩
  rw [f.1 39 rfl, f.2 86 rfl]
  exact h.2 c
theorem GNS.fr {L : Nat → Nat → Int32} {n : Nat} {I J : List (Nat × Nat)} {σ τ : ST} (h : GNS L n σ) (f : Fr I J σ τ) (hh : inR J 88 = false) : GNS L n τ := by
  unfold GNS
  rw [f.2 _ hh]
  exact h
theorem enum_M {L : Nat → Nat → Int32} {n : Nat} (hn : n ≤ 9) (hs : ∀ x y, x < n → y < n → L x y = L y x) : ∀ (d i h : Nat) (a : Nat → Nat) (B : BB) (l2 : Int32) (τ : ST) (F : Nat), i + d = n → 1 ≤ i → hpi a i = h → h ≤ i → (∀ j, i ≤ j → a j = 0) → τ.1 35 = nI n → GNS L n τ → RA a n τ → RB B n l2 τ → ∃ (a' : Nat → Nat) (τ' : ST) (g : Nat), fX12_findBest_0l27 (cnt d h + F) 1 l2 τ = GO g F i τ' ∧ 4096 ≤ g + d ∧ RA a' n τ' ∧ (∀ j, j < i → a' j = a j) ∧ RB (dfs L n d i h a B) n 1 τ' ∧ Fr [(39, 39)] [(85, 86)] τ τ' := by
  intro d
  induction d with
  | zero =>
    intro i h a B l2 τ F hd hi hh hhi hz h35 hG hA hB
    obtain ⟨τ', y1, y2, y3, y4⟩ := leaf_M F hn h35 hG hs hA hB
    have ei : i = n := by omega
    refine ⟨a, τ', 4096, ?_, by omega, y2, fun _ _ => rfl, y3, y4.wide rfl rfl⟩
    rw [ei, ← y1, show cnt 0 h + F = F + 1 from Nat.add_comm 1 F]
  | succ d ih =>
    intro i h a B l2 τ F hd hi hh hhi hz h35 hG hA hB
    have inner : ∀ (k v : Nat) (B : BB) (l2 : Int32) (τ : ST), v + k = h → τ.1 35 = nI n → GNS L n τ → RA (stA a i v) n τ → RB B n l2 τ → ∃ (a' : Nat → Nat) (τ' : ST) (g : Nat), fX12_findBest_0l27 (sumF (fun v => cnt d (max h (v + 1))) (k + 1) v + F) 1 l2 τ = GO g F i τ' ∧ 4096 ≤ g + (d + 1) ∧ RA a' n τ' ∧ (∀ j, j < i → a' j = a j) ∧ RB (fv (fun v C => dfs L n d (i + 1) (max h (v + 1)) (stA a i v) C) (k + 1) v B) n 1 τ' ∧ Fr [(39, 39)] [(85, 86)] τ τ' := by
      intro k
      induction k with
      | zero =>
        intro v B l2 τ hv h35 hG hA hB
        have pre : ∀ j, j < i → stA a i v j = a j := fun j hj => if_neg (by omega)
        have at_i : stA a i v i = v := if_pos rfl
        have hp : hpi (stA a i v) (i + 1) = max h (v + 1) := by
          show max (hpi (stA a i v) i) (stA a i v i + 1) = _
          rw [at_i, hpi_congr i pre, hh]
        obtain ⟨a1, τ1, g1, y1, y2, y3, y4, y5, y6⟩ := ih (i + 1) (max h (v + 1)) (stA a i v) B l2 τ (0 + F) (by omega) (by omega) hp (by omega) (fun j hj => (if_neg (show ¬ j = i by omega)).trans (hz j (by omega))) h35 hG hA hB
        obtain ⟨g2, rfl⟩ : ∃ g2, g1 = g2 + 1 := ⟨g1 - 1, by omega⟩
        have a1i : a1 i = v := (y4 i (by omega)).trans at_i
        have hp1 : hpi a1 i = h := (hpi_congr i (fun j hj => (y4 j (by omega)).trans (pre j hj))).trans hh
        refine ⟨a1, τ1, g2, ?_, by omega, y3, fun j hj => (y4 j (by omega)).trans (pre j hj), y5, y6⟩
        have es : sumF (fun v => cnt d (max h (v + 1))) (0 + 1) v + F = cnt d (max h (v + 1)) + (0 + F) := Nat.add_assoc _ _ _
        rw [es, y1, go_up hn hi (by omega) y3 (by omega), Nat.zero_add]
      | succ k ihk =>
        intro v B l2 τ hv h35 hG hA hB
        have pre : ∀ j, j < i → stA a i v j = a j := fun j hj => if_neg (by omega)
        have at_i : stA a i v i = v := if_pos rfl
        have hp : hpi (stA a i v) (i + 1) = max h (v + 1) := by
          show max (hpi (stA a i v) i) (stA a i v i + 1) = _
          rw [at_i, hpi_congr i pre, hh]
        obtain ⟨a1, τ1, g1, y1, y2, y3, y4, y5, y6⟩ := ih (i + 1) (max h (v + 1)) (stA a i v) B l2 τ (sumF (fun v => cnt d (max h (v + 1))) (k + 1) (v + 1) + F) (by omega) (by omega) hp (by omega) (fun j hj => (if_neg (show ¬ j = i by omega)).trans (hz j (by omega))) h35 hG hA hB
        obtain ⟨g2, rfl⟩ : ∃ g2, g1 = g2 + 1 := ⟨g1 - 1, by omega⟩
        have a1i : a1 i = v := (y4 i (by omega)).trans at_i
        have hp1 : hpi a1 i = h := (hpi_congr i (fun j hj => (y4 j (by omega)).trans (pre j hj))).trans hh
        obtain ⟨τ2, w1, w2, w3⟩ := go_next (g := g2) (fu := sumF (fun v => cnt d (max h (v + 1))) (k + 1) (v + 1) + F) (i := i) (a := a1) (b := stA a i (v + 1)) (τ := τ1) hn hi (by omega) (by rw [y6.1 35 rfl]; exact h35) y3 (by omega) (by omega) (fun j hj => (if_neg (show ¬ j = i by omega)).trans ((y4 j (by omega)).trans (pre j hj)).symm) ((if_pos rfl).trans (by rw [a1i])) (fun j hj => (if_neg (show ¬ j = i by omega)).trans (hz j (by omega)))
        have f2 : Fr [(39, 39)] [(85, 86)] τ τ2 := y6.call w3 rfl rfl
        obtain ⟨a3, τ3, g3, z1, z2, z3, z4, z5, z6⟩ := ihk (v + 1) _ 1 τ2 (by omega) (by rw [f2.1 35 rfl]; exact h35) (hG.fr f2 rfl) w2 (y5.fr85 w3)
        refine ⟨a3, τ3, g3, ?_, z2, z3, z4, z5, f2.call z6 rfl rfl⟩
        have es : sumF (fun v => cnt d (max h (v + 1))) (k + 1 + 1) v + F = cnt d (max h (v + 1)) + (sumF (fun v => cnt d (max h (v + 1))) (k + 1) (v + 1) + F) := Nat.add_assoc _ _ _
        rw [es, y1, w1, z1]
    have hst : stA a i 0 = a := by
      funext j
      show (if j = i then 0 else a j) = a j
      by_cases c : j = i
      · rw [if_pos c, c, hz i (Nat.le_refl _)]
      · rw [if_neg c]
    exact inner h 0 B l2 τ (by omega) h35 hG (by rw [hst]; exact hA) hB
