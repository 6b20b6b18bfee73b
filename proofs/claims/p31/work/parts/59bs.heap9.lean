/-! the reference's best dealing out -/
def BEST (L : Nat → Nat → Int32) (n : Nat) : BB := dfs L n n 0 0 (fun _ => 0) (false, 0, fun _ => 0)
theorem BEST_succ (L : Nat → Nat → Int32) (m : Nat) : BEST L (m + 1) = dfs L (m + 1) m 1 1 (fun _ => 0) (false, 0, fun _ => 0) := by
  have e : stA (fun _ => 0) 0 0 = fun _ => 0 := by
    funext j
    show (if j = 0 then 0 else 0) = 0
    by_cases c : j = 0
    · rw [if_pos c]
    · rw [if_neg c]
  show dfs L (m + 1) m (0 + 1) (max 0 (0 + 1)) (stA (fun _ => 0) 0 0) (false, 0, fun _ => 0) = _
  rw [e]
  rfl
theorem cnt_le : ∀ d, d ≤ 8 → cnt d 1 ≤ 21147 := by decide +kernel
theorem begin_M (σ : ST) : (∀ j, j < 10 → (fX12_begin_0 σ).2.2 85 j = 0) ∧ Fr [] [(85, 85)] σ (fX12_begin_0 σ) := by
  have loop : ∀ (fu d j : Nat) (τ : ST), j + d = 10 → d < fu → (∀ k, k < j → τ.2.2 85 k = 0) → ∃ τ', fX12_begin_0l2 fu (nI j) τ = τ' ∧ (∀ k, k < 10 → τ'.2.2 85 k = 0) ∧ Fr [] [(85, 85)] τ τ' := by
    intro fu
    induction fu with
    | zero =>
      intro d j τ _ h
      exact absurd h (Nat.not_lt_zero _)
    | succ fu ih =>
      intro d j τ hd hf h0
      cases d with
      | zero =>
        have ej : j = 10 := by omega
        subst ej
        refine ⟨τ, ?_, h0, Fr.refl τ⟩
        show fX12_begin_0b2 (fX12_begin_0l2 fu) (nI 10) τ = _
        unfold fX12_begin_0b2 fX12_begin_0b21
        rw [if_pos (show 10 ≤ nI 10 by decide)]
      | succ d =>
        have e0 : fX12_begin_0l2 (fu + 1) (nI j) τ = fX12_begin_0l2 fu (nI (j + 1)) (sA τ 85 (upd (τ.2.2 85) j 0)) := by
          show fX12_begin_0b2 (fX12_begin_0l2 fu) (nI j) τ = _
          unfold fX12_begin_0b2 fX12_begin_0b8
          simp only [bd_e, n_add1, show (nI j).toNatClampNeg = j from nI_clamp (by omega)]
          rw [if_neg (show ¬ 10 ≤ nI j from fun q => absurd ((leN (a := 10) (by omega) (by omega)).mp q) (by omega))]
        have f1 : Fr [] [(85, 85)] τ (sA τ 85 (upd (τ.2.2 85) j 0)) := (Fr.refl τ).putA rfl
        obtain ⟨τ2, z1, z2, z3⟩ := ih d (j + 1) (sA τ 85 (upd (τ.2.2 85) j 0)) (by omega) (by omega) (fun k hk => by
          rw [sA_eq]
          rcases Nat.eq_or_lt_of_le (Nat.le_of_lt_succ hk) with c | c
          · rw [c, pk_us]
          · rw [pk_un (by omega)]
            exact h0 k c)
        exact ⟨τ2, e0.trans z1, z2, f1.call z3 rfl rfl⟩
  obtain ⟨τ, y1, y2, y3⟩ := loop 4096 10 0 σ (by omega) (by omega) (fun k hk => absurd hk (Nat.not_lt_zero _))
  have e : fX12_begin_0 σ = τ := by
    rw [← y1, nI_0]
    rfl
  rw [e]
  exact ⟨y2, y3⟩
theorem go_end {g F i : Nat} (hi : i ≤ 1) (τ : ST) : GO (g + 1) (F + 1) i τ = (1, τ) := by
  have c : nI i - 1 ≤ 0 := by
    rcases (show i = 0 ∨ i = 1 by omega) with rfl | rfl <;> decide
  unfold GO
  have e : fX12_goOn_0l7 (g + 1) (nI i - 1) τ = (0, τ) := by
    show fX12_goOn_0b7 (fX12_goOn_0l7 g) (nI i - 1) τ = _
    unfold fX12_goOn_0b7 fX12_goOn_0b71
    rw [if_pos c]
  rw [e, bp_e]
  show fX12_findBest_0b27 (fX12_findBest_0l27 F) 0 1 τ = _
  unfold fX12_findBest_0b27 fX12_findBest_0b99
  rw [if_pos rfl]
theorem best_loop {L : Nat → Nat → Int32} {n : Nat} {τ : ST} (big : Nat) (hbig : 21149 ≤ big) (hn : n ≤ 9) (hs : ∀ x y, x < n → y < n → L x y = L y x) (h35 : τ.1 35 = nI n) (hG : GNS L n τ) (hA : RA (fun _ => 0) n τ) : ∃ τ', fX12_findBest_0l27 big 1 0 τ = (1, τ') ∧ RB (BEST L n) n 1 τ' ∧ Fr [(39, 39)] [(85, 86)] τ τ' := by
  have hB : RB (false, 0, fun _ => 0) n 0 τ := ⟨rfl, fun c => absurd c (by decide)⟩
  rcases Nat.eq_zero_or_pos n with c | c
  · subst c
    obtain ⟨F, rfl⟩ : ∃ F, big = F + 1 + 1 := ⟨big - 2, by omega⟩
    obtain ⟨τ', y1, _, y3, y4⟩ := leaf_M (F + 1) hn h35 hG hs hA hB
    refine ⟨τ', ?_, y3, y4.wide rfl rfl⟩
    rw [y1]
    exact go_end (by omega) τ'
  · obtain ⟨m, rfl⟩ : ∃ m, n = m + 1 := ⟨n - 1, by omega⟩
    have hc := cnt_le m (by omega)
    obtain ⟨F, hF⟩ : ∃ F, big = cnt m 1 + (F + 1) := ⟨big - cnt m 1 - 1, by omega⟩
    obtain ⟨a', τ', g, y1, y2, _, _, y5, y6⟩ := enum_M hn hs m 1 1 (fun _ => 0) (false, 0, fun _ => 0) 0 τ (F + 1) (by omega) (by omega) rfl (by omega) (fun _ _ => rfl) h35 hG hA hB
    obtain ⟨g', rfl⟩ : ∃ g', g = g' + 1 := ⟨g - 1, by omega⟩
    refine ⟨τ', ?_, by rw [BEST_succ]; exact y5, y6⟩
    rw [hF, y1]
    exact go_end (by omega) τ'
theorem findBest_M {L : Nat → Nat → Int32} {n : Nat} {σ : ST} (h35 : (fX12_findPieces_0 σ).1 35 = nI n) (hf : Fr [(35, 38)] [(75, 84)] σ (fX12_findPieces_0 σ)) (hn48 : n ≤ 48) : (n ≤ 9 → (∀ x y, x < n → y < n → L x y = L y x) → (∀ x y, x < n → y < n → RK (fX12_findPieces_0 σ) x y = L x y) → ∃ τ', fX12_findBest_0 σ = (1, τ') ∧ τ'.1 35 = nI n ∧ τ'.1 39 = (BEST L n).2.1 ∧ GNS L n τ' ∧ (∀ j, j < n → τ'.2.2 86 j = nI ((BEST L n).2.2 j)) ∧ Fr [(39, 39)] [(85, 86), (88, 88)] (fX12_findPieces_0 σ) τ') ∧ (9 < n → fX12_findBest_0 σ = (0, fX12_findPieces_0 σ)) := by
  constructor
  · intro hn hs hL
    obtain ⟨g1, g2⟩ := findGains_M hn h35 hL
    obtain ⟨b1, b2⟩ := begin_M (fX12_findGains_0 (fX12_findPieces_0 σ))
    have fA : Fr [(39, 39)] [(85, 86), (88, 88)] (fX12_findPieces_0 σ) (fX12_begin_0 (fX12_findGains_0 (fX12_findPieces_0 σ))) := (g2.wide rfl rfl).call b2 rfl rfl
    have hbest : ∀ big : Nat, 21149 ≤ big → ∃ τ', fX12_findBest_0l27 big 1 0 (fX12_begin_0 (fX12_findGains_0 (fX12_findPieces_0 σ))) = (1, τ') ∧ RB (BEST L n) n 1 τ' ∧ Fr [(39, 39)] [(85, 86)] (fX12_begin_0 (fX12_findGains_0 (fX12_findPieces_0 σ))) τ' := fun big hb => best_loop big hb hn hs (by rw [fA.1 35 rfl]; exact h35) (g1.fr b2 rfl) (fun j hj => ⟨(b1 j (by omega)).trans nI_0.symm, Nat.zero_le _⟩)
    obtain ⟨τ', y1, y2, y3⟩ := hbest 1000000002 (by omega)
    have hb1 : (BEST L n).1 = true := by
      have z := y2.1
      by_cases c : (BEST L n).1 = true
      · exact c
      · rw [if_neg c] at z
        exact absurd z (by decide)
    refine ⟨τ', ?_, by rw [y3.1 35 rfl, fA.1 35 rfl]; exact h35, (y2.2 hb1).1, (g1.fr b2 rfl).fr y3 rfl, (y2.2 hb1).2, fA.call y3 rfl rfl⟩
    · rw [← y1]
      unfold fX12_findBest_0 fX12_findBest_0b0 fX12_findBest_0b15
      simp only [bd_e, h35]
      rw [if_pos (show nI n ≤ 9 from (leN (b := 9) (by omega) (by omega)).mpr hn)]
  · intro hn
    unfold fX12_findBest_0 fX12_findBest_0b0 fX12_findBest_0b13
    simp only [bd_e, h35]
    rw [if_neg (show ¬ nI n ≤ 9 from fun q => absurd ((leN (b := 9) (by omega) (by omega)).mp q) (by omega))]
