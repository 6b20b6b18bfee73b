/-! the reference goes through all dealings out, in order -/
abbrev BB : Type := Bool × Int32 × (Nat → Nat)
def bbu (B : BB) (w : Int32) (a : Nat → Nat) : BB := if B.1 = true ∧ w ≤ B.2.1 then B else (true, w, a)
def fv (f : Nat → BB → BB) : Nat → Nat → BB → BB
  | 0, _, B => B
  | k + 1, v, B => fv f k (v + 1) (f v B)
def sumF (f : Nat → Nat) : Nat → Nat → Nat
  | 0, _ => 0
  | k + 1, v => f v + sumF f k (v + 1)
def stA (a : Nat → Nat) (i v : Nat) : Nat → Nat := fun j => if j = i then v else a j
/-- the best of all dealings out that begin with the i first of a, h heaps of them; d pieces are to be dealt -/
def dfs (L : Nat → Nat → Int32) (n : Nat) : Nat → Nat → Nat → (Nat → Nat) → BB → BB
  | 0, _, _, a, B => bbu B (WO L a n) a
  | d + 1, i, h, a, B => fv (fun v C => dfs L n d (i + 1) (max h (v + 1)) (stA a i v) C) (h + 1) 0 B
def cnt : Nat → Nat → Nat
  | 0, _ => 1
  | d + 1, h => sumF (fun v => cnt d (max h (v + 1))) (h + 1) 0
def RA (a : Nat → Nat) (n : Nat) (τ : ST) : Prop := ∀ j, j < n → τ.2.2 85 j = nI (a j) ∧ a j ≤ 9
def RB (B : BB) (n : Nat) (l2 : Int32) (τ : ST) : Prop := l2 = (if B.1 = true then 1 else 0) ∧ (B.1 = true → τ.1 39 = B.2.1 ∧ ∀ j, j < n → τ.2.2 86 j = nI (B.2.2 j))
/-- the reference stands in goOn, at piece i - 1 -/
noncomputable def GO (g fu i : Nat) (τ : ST) : Int32 × ST := bp (fX12_goOn_0l7 g (nI i - 1) τ) fun v s => fX12_findBest_0l27 fu v 1 s
theorem cp60_l {K : Int32 → Int32 → ST → Int32 × ST} {a : Nat → Nat} {n : Nat} (hn : n ≤ 9) : ∀ (fu d j : Nat) (τ : ST), j + d = n → d < fu → τ.1 35 = nI n → RA a n τ → (∀ k, k < j → τ.2.2 86 k = nI (a k)) → ∃ τ', fX12_findBest_0l60 K fu (nI j) τ = fX12_findBest_0b89 K τ' ∧ (∀ k, k < n → τ'.2.2 86 k = nI (a k)) ∧ Fr [] [(86, 86)] τ τ' := by
  intro fu
  induction fu with
  | zero =>
    intro d j τ _ h
    exact absurd h (Nat.not_lt_zero _)
  | succ fu ih =>
    intro d j τ hd hf h35 hA h0
    cases d with
    | zero =>
      have ej : j = n := by omega
      subst ej
      refine ⟨τ, ?_, h0, Fr.refl τ⟩
      show fX12_findBest_0b60 K (fX12_findBest_0l60 K fu) (nI j) τ = _
      unfold fX12_findBest_0b60
      simp only [bd_e, h35]
      rw [if_pos ((leN (by omega) (by omega)).mpr (Nat.le_refl _))]
    | succ d =>
      have e0 : fX12_findBest_0l60 K (fu + 1) (nI j) τ = fX12_findBest_0l60 K fu (nI (j + 1)) (sA τ 86 (upd (τ.2.2 86) j (nI (a j)))) := by
        show fX12_findBest_0b60 K (fX12_findBest_0l60 K fu) (nI j) τ = _
        unfold fX12_findBest_0b60 fX12_findBest_0b69
        simp only [bd_e, h35, n_add1, show (nI j).toNatClampNeg = j from nI_clamp (by omega), (hA j (by omega)).1]
        rw [if_neg (fun q => absurd ((leN (by omega) (by omega)).mp q) (by omega))]
      have f1 : Fr [] [(86, 86)] τ (sA τ 86 (upd (τ.2.2 86) j (nI (a j)))) := (Fr.refl τ).putA rfl
      obtain ⟨τ2, z1, z2, z3⟩ := ih d (j + 1) (sA τ 86 (upd (τ.2.2 86) j (nI (a j)))) (by omega) (by omega) h35 (by unfold RA; rw [f1.2 85 rfl]; exact hA) (fun k hk => by
        rw [sA_eq]
        rcases Nat.eq_or_lt_of_le (Nat.le_of_lt_succ hk) with c | c
        · rw [c, pk_us]
        · rw [pk_un (by omega)]
          exact h0 k c)
      exact ⟨τ2, e0.trans z1, z2, f1.call z3 rfl rfl⟩
theorem leaf_M {L : Nat → Nat → Int32} {a : Nat → Nat} {B : BB} {n : Nat} {l2 : Int32} {τ : ST} (fu : Nat) (hn : n ≤ 9) (h35 : τ.1 35 = nI n) (hG : GNS L n τ) (hs : ∀ x y, x < n → y < n → L x y = L y x) (hA : RA a n τ) (hB : RB B n l2 τ) : ∃ τ', fX12_findBest_0l27 (fu + 1) 1 l2 τ = GO 4096 fu n τ' ∧ RA a n τ' ∧ RB (bbu B (WO L a n) a) n 1 τ' ∧ Fr [(39, 39)] [(86, 86)] τ τ' := by
  have ew := worth_M hn h35 hG hs hA
  have e89 : ∀ ρ : ST, ρ.1 35 = nI n → fX12_findBest_0b89 (fX12_findBest_0l27 fu) ρ = GO 4096 fu n ρ := fun ρ hρ => by
    unfold fX12_findBest_0b89 GO fX12_goOn_0 fX12_goOn_0b0
    simp only [bd_e, bp_e, hρ]
  have e27 : fX12_findBest_0l27 (fu + 1) 1 l2 τ = fX12_findBest_0b31 (fX12_findBest_0l27 fu) l2 τ := by
    show fX12_findBest_0b27 (fX12_findBest_0l27 fu) 1 l2 τ = _
    unfold fX12_findBest_0b27
    rw [if_neg (show ¬ (1 : Int32) = 0 by decide)]
  have take : ∃ τ', fX12_findBest_0b52 (fX12_findBest_0l27 fu) (WO L a n) τ = GO 4096 fu n τ' ∧ RA a n τ' ∧ RB (true, WO L a n, a) n 1 τ' ∧ Fr [(39, 39)] [(86, 86)] τ τ' := by
    have f0 : Fr [(39, 39)] [] τ (sI τ 39 (WO L a n)) := (Fr.refl τ).putI rfl
    obtain ⟨τ', y1, y2, y3⟩ := cp60_l hn 4096 n 0 (sI τ 39 (WO L a n)) (K := fX12_findBest_0l27 fu) (a := a) (by omega) (by omega) h35 hA (fun k hk => absurd hk (Nat.not_lt_zero _))
    refine ⟨τ', ?_, by unfold RA; rw [y3.2 85 rfl]; exact hA, ⟨(if_pos rfl).symm, fun _ => ⟨by rw [y3.1 39 rfl, sI_eq], y2⟩⟩, (f0.wide rfl rfl).call y3 rfl rfl⟩
    unfold fX12_findBest_0b52
    simp only [bd_e]
    rw [← nI_0, y1]
    exact e89 τ' (by rw [y3.1 35 rfl]; exact h35)
  rw [e27]
  unfold fX12_findBest_0b31 fX12_findBest_0b44
  simp only [bd_e, ew]
  unfold bbu
  by_cases c : B.1 = true
  · have hl : l2 = 1 := by rw [hB.1, if_pos c]
    obtain ⟨b1, b2⟩ := hB.2 c
    rw [hl, if_neg (show ¬ (1 : Int32) = 0 by decide), b1]
    by_cases d : WO L a n ≤ B.2.1
    · rw [if_pos d, if_pos ⟨c, d⟩]
      exact ⟨τ, e89 τ h35, hA, ⟨(if_pos c).symm, fun _ => ⟨b1, b2⟩⟩, Fr.refl τ⟩
    · rw [if_neg d, if_neg (fun q => d q.2)]
      exact take
  · have hl : l2 = 0 := by rw [hB.1, if_neg c]
    rw [hl, if_pos rfl, if_neg (fun q => c q.1)]
    exact take
theorem go_up {g fu i : Nat} {a : Nat → Nat} {n : Nat} {τ : ST} (hn : n ≤ 9) (hi : 1 ≤ i) (hin : i < n) (hA : RA a n τ) (h : hpi a i ≤ a i) : GO (g + 1) fu (i + 1) τ = GO g fu i τ := by
  have e : fX12_goOn_0l7 (g + 1) (nI (i + 1) - 1) τ = fX12_goOn_0l7 g (nI i - 1) τ := by
    obtain ⟨a1, a2⟩ := hA i hin
    rw [nI_pred]
    show fX12_goOn_0b7 (fX12_goOn_0l7 g) (nI i) τ = _
    unfold fX12_goOn_0b7 fX12_goOn_0b11 fX12_goOn_0b65
    simp only [bd_e, heapsIn_M (a := a) (show i ≤ 9 by omega) (fun j hj => hA j (by omega)), show (nI i).toNatClampNeg = i from nI_clamp (by omega), a1, y_m1]
    rw [if_neg (show ¬ nI i ≤ 0 from fun q => absurd ((leN (b := 0) (by omega) (by omega)).mp q) (by omega)), if_pos ((leN (by omega) (by omega)).mpr h)]
  unfold GO
  rw [e]
theorem z42_l {K : Int32 → ST → Int32 × ST} {n : Nat} (hn : n ≤ 9) : ∀ (fu d j : Nat) (τ : ST), j + d = n → d < fu → τ.1 35 = nI n → ∃ τ', fX12_goOn_0l42 K fu (nI j) τ = (1, τ') ∧ (∀ k, j ≤ k → k < n → τ'.2.2 85 k = 0) ∧ (∀ k, k < j → τ'.2.2 85 k = τ.2.2 85 k) ∧ Fr [] [(85, 85)] τ τ' := by
  intro fu
  induction fu with
  | zero =>
    intro d j τ _ h
    exact absurd h (Nat.not_lt_zero _)
  | succ fu ih =>
    intro d j τ hd hf h35
    cases d with
    | zero =>
      have ej : j = n := by omega
      subst ej
      refine ⟨τ, ?_, fun k a b => by omega, fun _ _ => rfl, Fr.refl τ⟩
      show fX12_goOn_0b42 K (fX12_goOn_0l42 K fu) (nI j) τ = _
      unfold fX12_goOn_0b42 fX12_goOn_0b63
      simp only [bd_e, h35]
      rw [if_pos ((leN (by omega) (by omega)).mpr (Nat.le_refl _))]
    | succ d =>
      have e0 : fX12_goOn_0l42 K (fu + 1) (nI j) τ = fX12_goOn_0l42 K fu (nI (j + 1)) (sA τ 85 (upd (τ.2.2 85) j 0)) := by
        show fX12_goOn_0b42 K (fX12_goOn_0l42 K fu) (nI j) τ = _
        unfold fX12_goOn_0b42 fX12_goOn_0b50
        simp only [bd_e, h35, n_add1, show (nI j).toNatClampNeg = j from nI_clamp (by omega)]
        rw [if_neg (fun q => absurd ((leN (by omega) (by omega)).mp q) (by omega))]
      have f1 : Fr [] [(85, 85)] τ (sA τ 85 (upd (τ.2.2 85) j 0)) := (Fr.refl τ).putA rfl
      obtain ⟨τ2, z1, z2, z3, z4⟩ := ih d (j + 1) (sA τ 85 (upd (τ.2.2 85) j 0)) (by omega) (by omega) h35
      refine ⟨τ2, e0.trans z1, fun k hk hk2 => ?_, fun k hk => by rw [z3 k (by omega), sA_eq, pk_un (by omega)], f1.call z4 rfl rfl⟩
      rcases Nat.eq_or_lt_of_le hk with c | c
      · rw [← c, z3 j (by omega), sA_eq, pk_us]
      · exact z2 k c hk2
theorem go_next {g fu i : Nat} {a b : Nat → Nat} {n : Nat} {τ : ST} (hn : n ≤ 9) (hi : 1 ≤ i) (hin : i < n) (h35 : τ.1 35 = nI n) (hA : RA a n τ) (h : a i < hpi a i) (h9 : a i < 9) (hb1 : ∀ j, j < i → b j = a j) (hb2 : b i = a i + 1) (hb3 : ∀ j, i < j → b j = 0) : ∃ τ', GO (g + 1) fu (i + 1) τ = fX12_findBest_0l27 fu 1 1 τ' ∧ RA b n τ' ∧ Fr [] [(85, 85)] τ τ' := by
  obtain ⟨a1, a2⟩ := hA i hin
  have hp := hpi_le (a := a) i (fun k hk => (hA k (by omega)).2)
  have f1 : Fr [] [(85, 85)] τ (sA τ 85 (upd (τ.2.2 85) i (nI (a i + 1)))) := (Fr.refl τ).putA rfl
  obtain ⟨τ2, z1, z2, z3, z4⟩ := z42_l (K := fX12_goOn_0l7 g) hn 4096 (n - (i + 1)) (i + 1) (sA τ 85 (upd (τ.2.2 85) i (nI (a i + 1)))) (by omega) (by omega) h35
  have e : fX12_goOn_0l7 (g + 1) (nI (i + 1) - 1) τ = (1, τ2) := by
    rw [nI_pred, ← z1]
    show fX12_goOn_0b7 (fX12_goOn_0l7 g) (nI i) τ = _
    unfold fX12_goOn_0b7 fX12_goOn_0b11 fX12_goOn_0b28
    simp only [bd_e, heapsIn_M (a := a) (show i ≤ 9 by omega) (fun j hj => hA j (by omega)), show (nI i).toNatClampNeg = i from nI_clamp (by omega), a1, n_add1]
    rw [if_neg (show ¬ nI i ≤ 0 from fun q => absurd ((leN (b := 0) (by omega) (by omega)).mp q) (by omega)), if_neg (fun q => absurd ((leN (by omega) (by omega)).mp q) (by omega))]
  refine ⟨τ2, ?_, fun j hj => ?_, f1.call z4 rfl rfl⟩
  · unfold GO
    rw [e, bp_e]
  · rcases Nat.lt_trichotomy j i with c | c | c
    · rw [z3 j (by omega), sA_eq, pk_un (by omega), hb1 j c]
      exact hA j hj
    · subst c
      rw [z3 j (by omega), sA_eq, pk_us, hb2]
      exact ⟨rfl, by omega⟩
    · rw [z2 j c hj, hb3 j c]
      exact ⟨nI_0.symm, Nat.zero_le _⟩
