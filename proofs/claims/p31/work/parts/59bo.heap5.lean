/-! the reference's links, laid down -/
theorem fgn12_l {K : Int32 → ST → ST} {n i : Nat} {L : Nat → Nat → Int32} (hn : n ≤ 9) (hi : i < n) : ∀ (fu d j : Nat) (τ : ST), j + d = n → d < fu → τ.1 35 = nI n → (∀ x y, x < n → y < n → RK τ x y = L x y) → (∀ x y, x < n → y < n → x ≠ y → (x < i ∨ (x = i ∧ y < j)) → τ.2.2 88 (9 * x + y) = L x y) → ∃ τ', fX12_findGains_0l12 K fu (nI i) (nI j) τ = K (nI (i + 1)) τ' ∧ (∀ x y, x < n → y < n → x ≠ y → x < i + 1 → τ'.2.2 88 (9 * x + y) = L x y) ∧ Fr [] [(88, 88)] τ τ' := by
  intro fu
  induction fu with
  | zero =>
    intro d j τ _ h
    exact absurd h (Nat.not_lt_zero _)
  | succ fu ih =>
    intro d j τ hd hf h35 hL h0
    cases d with
    | zero =>
      have ej : j = n := by omega
      subst ej
      refine ⟨τ, ?_, fun x y hx hy hxy hi' => h0 x y hx hy hxy (by omega), Fr.refl τ⟩
      show fX12_findGains_0b12 K (fX12_findGains_0l12 K fu) (nI i) (nI j) τ = _
      unfold fX12_findGains_0b12 fX12_findGains_0b72
      simp only [bd_e, h35, n_add1]
      rw [if_pos ((leN (by omega) (by omega)).mpr (Nat.le_refl _))]
    | succ d =>
      have hRK : fX12_likeOf_0 (nI i) (nI j) τ - (if fX12_touch_0 (nI i) (nI j) τ = 0 then 0 else τ.2.2 66 4) = L i j := hL i j hi (by omega)
      have z4 : (4 : Int32).toNatClampNeg = 4 := by decide
      have e9 : (9 : Int32) * nI i = nI (9 * i) := pk_mul 9 i
      have e0 : fX12_findGains_0l12 K (fu + 1) (nI i) (nI j) τ = fX12_findGains_0l12 K fu (nI i) (nI (j + 1)) (sA τ 88 (upd (τ.2.2 88) (9 * i + j) (if i = j then 0 else L i j))) := by
        show fX12_findGains_0b12 K (fX12_findGains_0l12 K fu) (nI i) (nI j) τ = _
        unfold fX12_findGains_0b12 fX12_findGains_0b20 fX12_findGains_0b39 fX12_findGains_0b35 fX12_findGains_0b54 fX12_findGains_0b63 fX12_findGains_0b64 fX12_findGains_0b65
        simp only [bd_e, h35, n_add1, e9, nI_add, show (nI (9 * i + j)).toNatClampNeg = 9 * i + j from nI_clamp (by omega), z4, nI_eq (a := i) (b := j) (by omega) (by omega)]
        rw [if_neg (fun q => absurd ((leN (by omega) (by omega)).mp q) (by omega))]
        by_cases c : i = j
        · rw [if_pos c, if_pos c]
        · rw [if_neg c, if_neg c]
          by_cases d : fX12_touch_0 (nI i) (nI j) τ = 0
          · rw [if_pos d] at hRK ⊢
            rw [hRK]
          · rw [if_neg d] at hRK ⊢
            rw [hRK]
      have f1 : Fr [] [(88, 88)] τ (sA τ 88 (upd (τ.2.2 88) (9 * i + j) (if i = j then 0 else L i j))) := (Fr.refl τ).putA rfl
      obtain ⟨τ2, z1, z2, z3⟩ := ih d (j + 1) (sA τ 88 (upd (τ.2.2 88) (9 * i + j) (if i = j then 0 else L i j))) (by omega) (by omega) h35 (fun x y hx hy => by
        rw [← hL x y hx hy]
        unfold RK
        rw [rlike_congr (by omega) (by omega) (f1.2 66 rfl) (f1.2 76 rfl) (f1.2 78 rfl), rtouch_congr (f1.2 75 rfl) (f1.2 76 rfl), f1.2 66 rfl]) (fun x y hx hy hxy hlt => by
        rw [sA_eq]
        by_cases c : x = i ∧ y = j
        · rw [c.1, c.2, pk_us, if_neg (by rw [← c.1, ← c.2]; exact hxy)]
        · rw [pk_un (by omega)]
          exact h0 x y hx hy hxy (by omega))
      exact ⟨τ2, e0.trans z1, z2, f1.call z3 rfl rfl⟩
theorem fgn2_l {n : Nat} {L : Nat → Nat → Int32} (hn : n ≤ 9) : ∀ (fu d i : Nat) (τ : ST), i + d = n → d < fu → τ.1 35 = nI n → (∀ x y, x < n → y < n → RK τ x y = L x y) → (∀ x y, x < n → y < n → x ≠ y → x < i → τ.2.2 88 (9 * x + y) = L x y) → ∃ τ', fX12_findGains_0l2 fu (nI i) τ = τ' ∧ GNS L n τ' ∧ Fr [] [(88, 88)] τ τ' := by
  intro fu
  induction fu with
  | zero =>
    intro d i τ _ h
    exact absurd h (Nat.not_lt_zero _)
  | succ fu ih =>
    intro d i τ hd hf h35 hL h0
    cases d with
    | zero =>
      have ei : i = n := by omega
      subst ei
      refine ⟨τ, ?_, fun x y hx hy hxy => h0 x y hx hy hxy hx, Fr.refl τ⟩
      show fX12_findGains_0b2 (fX12_findGains_0l2 fu) (nI i) τ = _
      unfold fX12_findGains_0b2 fX12_findGains_0b78
      simp only [bd_e, h35]
      rw [if_pos ((leN (by omega) (by omega)).mpr (Nat.le_refl _))]
    | succ d =>
      have e0 : fX12_findGains_0l2 (fu + 1) (nI i) τ = fX12_findGains_0l12 (fX12_findGains_0l2 fu) 4096 (nI i) (nI 0) τ := by
        show fX12_findGains_0b2 (fX12_findGains_0l2 fu) (nI i) τ = _
        unfold fX12_findGains_0b2 fX12_findGains_0b10
        simp only [bd_e, h35, nI_0]
        rw [if_neg (fun q => absurd ((leN (by omega) (by omega)).mp q) (by omega))]
      obtain ⟨τ1, y1, y2, y3⟩ := fgn12_l hn (show i < n by omega) 4096 n 0 τ (K := fX12_findGains_0l2 fu) (L := L) (by omega) (by omega) h35 hL (fun x y hx hy hxy hlt => h0 x y hx hy hxy (by omega))
      obtain ⟨τ2, z1, z2, z3⟩ := ih d (i + 1) τ1 (by omega) (by omega) ((y3.1 35 rfl).trans h35) (fun x y hx hy => by
        rw [← hL x y hx hy]
        unfold RK
        rw [rlike_congr (by omega) (by omega) (y3.2 66 rfl) (y3.2 76 rfl) (y3.2 78 rfl), rtouch_congr (y3.2 75 rfl) (y3.2 76 rfl), y3.2 66 rfl]) y2
      exact ⟨τ2, (e0.trans y1).trans z1, z2, y3.call z3 rfl rfl⟩
theorem findGains_M {n : Nat} {L : Nat → Nat → Int32} {τ : ST} (hn : n ≤ 9) (h35 : τ.1 35 = nI n) (hL : ∀ x y, x < n → y < n → RK τ x y = L x y) : GNS L n (fX12_findGains_0 τ) ∧ Fr [] [(88, 88)] τ (fX12_findGains_0 τ) := by
  obtain ⟨τ', y1, y2, y3⟩ := fgn2_l hn 4096 n 0 τ (by omega) (by omega) h35 hL (fun x y _ _ _ h => absurd h (Nat.not_lt_zero _))
  have e : fX12_findGains_0 τ = τ' := by
    rw [← y1, nI_0]
    rfl
  rw [e]
  exact ⟨y2, y3⟩
/-- both sides' links are one, and go both ways -/
theorem RK_LK {V : Nat → Nat} {H : Nat → Bool} {c N : Nat} {σ τ : ST} {r2 r4 : Int32} (hX : CUTX V H c N σ) (hM : FPM V H c N τ) (hN : N ≤ 48) (h2 : τ.2.2 66 2 = r2) (h4 : τ.2.2 66 4 = r4) {i j : Nat} (hi : i < (CUT V H c N).1.1) (hj : j < (CUT V H c N).1.1) : RK τ i j = LK r2 r4 σ i j := by
  unfold RK LK
  rw [← likeness_eq (side_of hX hM) hi hj h2, touch_X hX hN hi hj, touch_M hM hN hX.2.2.2.2 hi hj, h4]
theorem LK_comm {V : Nat → Nat} {H : Nat → Bool} {c N : Nat} {σ : ST} {r2 r4 : Int32} (hX : CUTX V H c N σ) (hN : N ≤ 48) {i j : Nat} (hi : i < (CUT V H c N).1.1) (hj : j < (CUT V H c N).1.1) : LK r2 r4 σ i j = LK r2 r4 σ j i := by
  have hn := hX.2.2.2.2
  unfold LK
  rw [lik_comm (by omega) (by omega), touch_X hX hN hi hj, touch_X hX hN hj hi, TCH_comm]
