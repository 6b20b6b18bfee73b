/-! the class's search by depth, all of it -/
/-- what the search stands on: i pieces dealt as a says -/
def DSI (a : Nat → Nat) (i : Nat) (τ : ST) : Prop := (∀ j, j < i → τ.2.2 44 j = nI (a j)) ∧ ∀ v, v < 9 → τ.2.2 45 v = nI (mk a v i)
theorem TIED.fr {L : Nat → Nat → Int32} {n : Nat} {σ τ : ST} (h : TIED L n σ) (hn : n ≤ 9) (f : Fr [(10, 11), (14, 16)] [(41, 41), (44, 45)] σ τ) : TIED L n τ := by
  have q : ∀ x, x < 9 → inR [(41, 41), (44, 45)] (21 + x) = false := fun x hx => by
    rcases (show x = 0 ∨ x = 1 ∨ x = 2 ∨ x = 3 ∨ x = 4 ∨ x = 5 ∨ x = 6 ∨ x = 7 ∨ x = 8 by omega) with rfl | rfl | rfl | rfl | rfl | rfl | rfl | rfl | rfl <;> rfl
  refine ⟨(f.1 9 rfl).trans h.1, fun x y hxy => ?_, ?_⟩
  · have h1 := hxy.1
    have h2 := hxy.2
    rw [f.2 _ (q x (by omega)), f.2 _ (q y (by omega))]
    exact h.2.1 x y hxy
  · rw [f.2 40 rfl]
    exact h.2.2
theorem deal_X {L : Nat → Nat → Int32} {n : Nat} (hn : n ≤ 9) (hW : ∀ a, ¬ WO L a n ≤ -1000000000) : ∀ (d i : Nat) (a : Nat → Nat) (B : BB) (m : Int64) (τ : ST) (D : Nat), i + d = n → d < D → hpi a i ≤ i → TIED L n τ → τ.1 12 = 0 → DSI a i τ → CBB B n τ → ∃ τ', fX0_deal_0 D (nI i) (nI (hpi a i)) (WO L a i) m τ = τ' ∧ CBB (dfs L n d i (hpi a i) a B) n τ' ∧ DSI a i τ' ∧ Fr [(10, 11), (14, 16)] [(41, 41), (44, 45)] τ τ' := by
  intro d
  induction d with
  | zero =>
    intro i a B m τ D hd hD hh hT h12 hS hB
    obtain ⟨D, rfl⟩ : ∃ E, D = E + 1 := ⟨D - 1, by omega⟩
    have ei : i = n := by omega
    subst ei
    obtain ⟨k1, k2⟩ := meet_X (a := a) (B := B) (w := WO L a i) (m := m) hn h12 hS.1 hB (hW a)
    have k3 : Fr [(10, 11), (14, 16)] [(41, 41), (44, 45)] τ (fX0_meet_0 (nI i) (nI (hpi a i)) (WO L a i) m τ) := k2.wide rfl rfl
    refine ⟨_, ?_, k1, ⟨fun j hj => by rw [k2.2 44 rfl]; exact hS.1 j hj, fun v hv => by rw [k2.2 45 rfl]; exact hS.2 v hv⟩, k3⟩
    show fX0_deal_0b0 (fX0_deal_0 D) (nI i) (nI (hpi a i)) (WO L a i) m τ = _
    unfold fX0_deal_0b0 fX0_deal_0b14
    simp only [bd_e, hT.1]
    rw [if_pos ((leN (by omega) (by omega)).mpr (Nat.le_refl _))]
  | succ d ih =>
    intro i a B m τ D hd hD hh hT h12 hS hB
    obtain ⟨D, rfl⟩ : ∃ E, D = E + 1 := ⟨D - 1, by omega⟩
    have ni : (nI i).toNatClampNeg = i := nI_clamp (by omega)
    have inner : ∀ (k v fu : Nat) (B : BB) (τ : ST), v + k = hpi a i + 1 → k < fu → TIED L n τ → τ.1 12 = 0 → DSI a i τ → CBB B n τ → ∃ τ', fX0_deal_0l31 (fX0_deal_0 D) fu (nI i) (nI (hpi a i)) (WO L a i) m (nI v) τ = τ' ∧ CBB (fv (fun v C => dfs L n d (i + 1) (max (hpi a i) (v + 1)) (stA a i v) C) k v B) n τ' ∧ DSI a i τ' ∧ Fr [(10, 11), (14, 16)] [(41, 41), (44, 45)] τ τ' := by
      intro k
      induction k with
      | zero =>
        intro v fu B τ hv hfu hT h12 hS hB
        obtain ⟨fu, rfl⟩ : ∃ g, fu = g + 1 := ⟨fu - 1, by omega⟩
        refine ⟨τ, ?_, hB, hS, Fr.refl τ⟩
        show fX0_deal_0b31 (fX0_deal_0 D) (fX0_deal_0l31 (fX0_deal_0 D) fu) (nI i) (nI (hpi a i)) (WO L a i) m (nI v) τ = _
        unfold fX0_deal_0b31 fX0_deal_0b126
        rw [if_pos ((nI_ltI (by omega) (by omega)).mpr (by omega))]
      | succ k ihk =>
        intro v fu B τ hv hfu hT h12 hS hB
        obtain ⟨fu, rfl⟩ : ∃ g, fu = g + 1 := ⟨fu - 1, by omega⟩
        have nv : (nI v).toNatClampNeg = v := nI_clamp (by omega)
        have hmk := mk_lt a v i
        have p9 := pow9 (show i ≤ 9 by omega)
        have pre : ∀ j, j < i → stA a i v j = a j := fun j hj => if_neg (by omega)
        have at_i : stA a i v i = v := if_pos rfl
        have hp : hpi (stA a i v) (i + 1) = max (hpi a i) (v + 1) := by
          show max (hpi (stA a i v) i) (stA a i v i + 1) = _
          rw [at_i, hpi_congr i pre]
        generalize g1 : sA τ 44 (upd (τ.2.2 44) i (nI v)) = τ1
        generalize g2 : sA τ1 45 (upd (τ1.2.2 45) v (nI (2 ^ i + mk a v i))) = τ2
        have f2 : Fr [(10, 11), (14, 16)] [(41, 41), (44, 45)] τ τ2 := by
          rw [← g2, ← g1]
          exact ((Fr.refl τ).putA rfl).putA rfl
        have a44 : τ2.2.2 44 = upd (τ.2.2 44) i (nI v) := by rw [← g2, sA_ne _ _ rfl, ← g1, sA_eq]
        have a45 : τ2.2.2 45 = upd (τ.2.2 45) v (nI (2 ^ i + mk a v i)) := by rw [← g2, sA_eq, ← g1, sA_ne _ _ rfl]
        have T2 := hT.fr hn f2
        have eg : WO L a i + fX1_gainOf_0 (nI i) (nI (mk a v i)) τ2 = WO L (stA a i v) (i + 1) := by
          rw [gain_X T2 hn (by omega) hmk, gs_rs i (Nat.le_refl _)]
          show _ = WO L (stA a i v) i + rs L (stA a i v) i i
          rw [WO_congr i pre]
        have S2 : DSI (stA a i v) (i + 1) τ2 := by
          refine ⟨fun j hj => ?_, fun u hu => ?_⟩
          · rw [a44]
            rcases Nat.eq_or_lt_of_le (Nat.le_of_lt_succ hj) with c | c
            · rw [c, pk_us, at_i]
            · rw [pk_un (by omega), pre j c]
              exact hS.1 j c
          · rw [a45]
            show _ = nI (if stA a i v i = u then 2 ^ i + mk (stA a i v) u i else mk (stA a i v) u i)
            rw [at_i, mk_congr u i pre]
            by_cases c : v = u
            · rw [if_pos c, ← c, pk_us]
            · rw [if_neg c, pk_un (fun q => c q.symm)]
              exact hS.2 u hu
        have hB2 : CBB B n τ2 := by
          unfold CBB
          rw [← g2, ← g1]
          exact hB
        have emax : (if nI (hpi a i) < nI (v + 1) then nI (v + 1) else nI (hpi a i)) = nI (max (hpi a i) (v + 1)) := by
          by_cases c : hpi a i < v + 1
          · rw [if_pos ((nI_ltI (by omega) (by omega)).mpr c), show max (hpi a i) (v + 1) = v + 1 by omega]
          · rw [if_neg (fun z => c (y_lt (by omega) (by omega) z)), show max (hpi a i) (v + 1) = hpi a i by omega]
        have eor : nI (mk a v i) ||| (1 : Int32) <<< (nI i &&& 31) = nI (2 ^ i + mk a v i) := by
          rw [y_shl1 (show i < 31 by omega), y_or, Nat.or_comm, or_pow hmk]
        have run : ∀ mm : Int64, ∃ τ', fX0_deal_0 D (nI (i + 1)) (nI (max (hpi a i) (v + 1))) (WO L (stA a i v) (i + 1)) mm τ2 = τ' ∧ CBB (dfs L n d (i + 1) (max (hpi a i) (v + 1)) (stA a i v) B) n τ' ∧ DSI (stA a i v) (i + 1) τ' ∧ Fr [(10, 11), (14, 16)] [(41, 41), (44, 45)] τ2 τ' := fun mm => by
          have r := ih (i + 1) (stA a i v) B mm τ2 D (by omega) (by omega) (by rw [hp]; omega) T2 ((f2.1 12 rfl).trans h12) S2 hB2
          rw [hp] at r
          exact r
        have e0 : ∃ mm : Int64, fX0_deal_0l31 (fX0_deal_0 D) (fu + 1) (nI i) (nI (hpi a i)) (WO L a i) m (nI v) τ = fX0_deal_0l31 (fX0_deal_0 D) fu (nI i) (nI (hpi a i)) (WO L a i) m (nI (v + 1)) (sA (fX0_deal_0 D (nI (i + 1)) (nI (max (hpi a i) (v + 1))) (WO L (stA a i v) (i + 1)) mm τ2) 45 (upd ((fX0_deal_0 D (nI (i + 1)) (nI (max (hpi a i) (v + 1))) (WO L (stA a i v) (i + 1)) mm τ2).2.2 45) v (nI (mk a v i)))) := by
          refine ⟨m ||| (nI (mk a v i)).toInt64 <<< ((fX0_placeOfPairs_0 (nI i) τ2).toInt64 &&& 63), ?_⟩
          show fX0_deal_0b31 (fX0_deal_0 D) (fX0_deal_0l31 (fX0_deal_0 D) fu) (nI i) (nI (hpi a i)) (WO L a i) m (nI v) τ = _
          unfold fX0_deal_0b31 fX0_deal_0b37 fX0_deal_0b44
          rw [if_neg (fun z => absurd (y_lt (by omega) (by omega) z) (by omega)), if_neg (show ¬ 9 ≤ nI v from fun q => absurd ((leN (a := 9) (by omega) (by omega)).mp q) (by omega))]
          simp only [bd_e, ni, nv, hS.2 v (by omega), g1, eor, g2, n_add1, emax, eg]
        obtain ⟨mm, e1⟩ := e0
        obtain ⟨τ3, y1, y2, y3, y4⟩ := run mm
        rw [y1] at e1
        generalize g4 : sA τ3 45 (upd (τ3.2.2 45) v (nI (mk a v i))) = τ4 at e1
        have f4 : Fr [(10, 11), (14, 16)] [(41, 41), (44, 45)] τ3 τ4 := by
          rw [← g4]
          exact (Fr.refl _).putA rfl
        have fA := (f2.call y4 rfl rfl).call f4 rfl rfl
        have S4 : DSI a i τ4 := by
          refine ⟨fun j hj => ?_, fun u hu => ?_⟩
          · rw [← g4, sA_ne _ _ rfl, y3.1 j (by omega), pre j hj]
          · rw [← g4, sA_eq]
            by_cases c : u = v
            · rw [c, pk_us]
            · rw [pk_un c, y3.2 u hu]
              show nI (if stA a i v i = u then 2 ^ i + mk (stA a i v) u i else mk (stA a i v) u i) = _
              rw [at_i, if_neg (fun q => c q.symm), mk_congr u i pre]
        have B4 : CBB (dfs L n d (i + 1) (max (hpi a i) (v + 1)) (stA a i v) B) n τ4 := by
          unfold CBB
          rw [← g4]
          exact y2
        obtain ⟨τ5, z1, z2, z3, z4⟩ := ihk (v + 1) fu _ τ4 (by omega) (by omega) (hT.fr hn fA) ((fA.1 12 rfl).trans h12) S4 B4
        exact ⟨τ5, e1.trans z1, z2, z3, fA.call z4 rfl rfl⟩
    obtain ⟨τ5, z1, z2, z3, z4⟩ := inner (hpi a i + 1) 0 4096 B τ (by omega) (by omega) hT h12 hS hB
    refine ⟨τ5, ?_, z2, z3, z4⟩
    rw [← z1, nI_0]
    show fX0_deal_0b0 (fX0_deal_0 D) (nI i) (nI (hpi a i)) (WO L a i) m τ = _
    unfold fX0_deal_0b0 fX0_deal_0b8 fX0_deal_0b28
    simp only [bd_e, hT.1]
    rw [if_neg (fun q => absurd ((leN (by omega) (by omega)).mp q) (by omega)), if_pos (show nI i < 9 from (nI_ltI (b := 9) (by omega) (by omega)).mpr (by omega))]
