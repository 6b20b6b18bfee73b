/-! the reference: rows asked for; the prices of a stretch -/
theorem cn_rng (i l : Nat) : ∀ r, cn (fun r => decide (i ≤ r ∧ r < i + l)) r = min (r - i) l
  | 0 => by
    rw [Nat.zero_sub, Nat.zero_min]
    rfl
  | r + 1 => by
    show cn (fun r => decide (i ≤ r ∧ r < i + l)) r + (if decide (i ≤ r ∧ r < i + l) = true then 1 else 0) = _
    rw [cn_rng i l r]
    by_cases c : i ≤ r ∧ r < i + l
    · rw [if_pos (decide_eq_true c)]
      omega
    · rw [if_neg (fun q => c (of_decide_eq_true q))]
      omega
theorem ask_l {i l N : Nat} (hl : 1 ≤ l) (hN : N ≤ 48) (hil : i + l ≤ N) : ∀ (fu m r : Nat) (τ : ST), r + m = N → m < fu → τ.1 31 = nI N → (∀ j, j < r → τ.2.2 80 j = if decide (i ≤ j ∧ j < i + l) = true then 1 else 0) → ∃ τ', fX12_askRows_0l2 fu (nI i) (nI l) (nI r) τ = fX12_findMiddle_0 τ' ∧ (∀ j, j < N → τ'.2.2 80 j = if decide (i ≤ j ∧ j < i + l) = true then 1 else 0) ∧ Fr [] [(80, 80)] τ τ'
  | 0, _, _, _, _, h, _, _ => absurd h (Nat.not_lt_zero _)
  | fu + 1, 0, r, τ, hr, _, h31, h80 => by
    have r0 : r = N := by omega
    subst r0
    refine ⟨τ, ?_, h80, Fr.refl τ⟩
    show fX12_askRows_0b2 (fX12_askRows_0l2 fu) (nI i) (nI l) (nI r) τ = _
    unfold fX12_askRows_0b2 fX12_askRows_0b32
    simp only [bd_e, h31]
    rw [if_pos ((leN (by omega) (by omega)).mpr (Nat.le_refl _))]
  | fu + 1, m + 1, r, τ, hr, hf, h31, h80 => by
    have e0 : fX12_askRows_0l2 (fu + 1) (nI i) (nI l) (nI r) τ = fX12_askRows_0b2 (fX12_askRows_0l2 fu) (nI i) (nI l) (nI r) τ := rfl
    have ev : vp_nar .boolean (fX12_in_0 (nI r) (nI i) (nI (i + l) - 1) τ) = if decide (i ≤ r ∧ r < i + l) = true then 1 else 0 := by
      rw [show nI (i + l) - 1 = nI (i + l - 1) from pk_sub (b := 1) (by omega), in_M]
      by_cases c : i ≤ r ∧ r < i + l
      · rw [if_pos (decide_eq_true c), if_pos ⟨fun q => absurd (y_lt (by omega) (by omega) q) (by omega), fun q => absurd (y_lt (by omega) (by omega) q) (by omega)⟩, nar1]
      · rw [if_neg (fun q => c (of_decide_eq_true q)), if_neg (fun q => c ⟨y_nlt (by omega) (by omega) q.1, by have := y_nlt (by omega) (by omega) q.2; omega⟩), nar0]
    rw [e0]
    unfold fX12_askRows_0b2 fX12_askRows_0b10
    simp only [bd_e, h31, nI_add, n_add1, ev, show (nI r).toNatClampNeg = r from nI_clamp (by omega)]
    rw [if_neg (fun q => absurd ((leN (by omega) (by omega)).mp q) (by omega))]
    obtain ⟨τ2, z1, z2, z3⟩ := ask_l hl hN hil fu m (r + 1) (sA τ 80 (upd (τ.2.2 80) r (if decide (i ≤ r ∧ r < i + l) = true then 1 else 0))) (by omega) (by omega) h31 (fun j hj => by
      rw [sA_eq]
      rcases Nat.eq_or_lt_of_le (Nat.le_of_lt_succ hj) with c | c
      · rw [c, pk_us]
      · rw [pk_un (by omega)]
        exact h80 j c)
    exact ⟨τ2, z1, z2, ((Fr.refl τ).putA rfl).call z3 rfl rfl⟩
theorem ask_M {V : Nat → Nat} {i l N : Nat} {σ : ST} (hl : 1 ≤ l) (hN : N ≤ 48) (hil : i + l ≤ N) (h31 : σ.1 31 = nI N) (hR : ROWS 68 i (i + l) V σ) : (∀ k, k < 4 → (fX12_askRows_0 (nI i) (nI l) σ).2.2 81 k = nI (MI (cvW V i) l k)) ∧ (fX12_askRows_0 (nI i) (nI l) σ).1 38 = nI (SP (cvW V i) l) ∧ Fr [(38, 38)] [(80, 82)] σ (fX12_askRows_0 (nI i) (nI l) σ) := by
  obtain ⟨τ, y1, y2, y3⟩ := ask_l hl hN hil 4096 N 0 σ (by omega) (by omega) h31 (fun j hj => absurd hj (Nat.not_lt_zero _))
  have cN : cn (fun r => decide (i ≤ r ∧ r < i + l)) N = l := by
    rw [cn_rng]
    omega
  have hA : ASK (fun r => decide (i ≤ r ∧ r < i + l)) N (cvW V i) τ := by
    refine ⟨hN, (y3.1 31 rfl).trans h31, y2, fun r hr hA k hk => ?_, ?_⟩
    · obtain ⟨a, b⟩ := of_decide_eq_true hA
      rw [y3.2 68 rfl, cn_rng, show min (r - i) l = r - i by omega, (hR r a b k hk).1]
      unfold cvW
      rw [show i + (r - i) = r by omega]
    · rw [cN]
      exact hR.cvW (Nat.le_refl _)
  obtain ⟨m1, m2, m3⟩ := mid_M hA
  rw [cN] at m1 m2
  have e : fX12_askRows_0 (nI i) (nI l) σ = fX12_findMiddle_0 τ := by
    rw [← y1, nI_0]
    rfl
  rw [e]
  exact ⟨m1, m2, (y3.wide rfl rfl).call m3 rfl rfl⟩
theorem mc26_l {K : Int32 → Int32 → Int32 → ST → ST} {V C : Nat → Nat} {c N b' i : Nat} {l1 : Int32} (hN : N ≤ 48) (hb : b' + 1 ≤ N) (hc : c ≤ 999) (hi : i < b' + 1) (hC : ∀ x, C x ≤ 47952) : ∀ (fu m n : Nat) (τ : ST), i + n + m = b' + 1 → m < fu → τ.1 31 = nI N → τ.2.2 66 0 = nI c → ROWS 68 i (b' + 1) V τ → (∀ x, i < x → x ≤ b' + 1 → τ.2.2 83 x = nI (C x)) → τ.2.2 84 i = nI (if n = 0 then 0 else (bF (wt V c i C) (n - 1)).2) → (n ≠ 0 → τ.2.2 83 i = nI (bF (wt V c i C) (n - 1)).1) → ∃ τ', fX12_cut_0l26 K fu l1 (nI b') (nI i) (nI (n + 1)) τ = K l1 (nI b') (nI i - 1) τ' ∧ τ'.2.2 83 i = nI (bF (wt V c i C) (b' - i)).1 ∧ τ'.2.2 84 i = nI (bF (wt V c i C) (b' - i)).2 ∧ (∀ x, x ≠ i → τ'.2.2 83 x = τ.2.2 83 x ∧ τ'.2.2 84 x = τ.2.2 84 x) ∧ Fr [(38, 38)] [(80, 84)] τ τ'
  | 0, _, _, _, _, h, _, _, _, _, _, _ => absurd h (Nat.not_lt_zero _)
  | fu + 1, 0, n, τ, hm, _, h31, h66, hR, h83, hi84, hi83 => by
    have e0 : fX12_cut_0l26 K (fu + 1) l1 (nI b') (nI i) (nI (n + 1)) τ = fX12_cut_0b26 K (fX12_cut_0l26 K fu) l1 (nI b') (nI i) (nI (n + 1)) τ := rfl
    have n0 : n ≠ 0 := by omega
    have en : n - 1 = b' - i := by omega
    rw [if_neg n0, en] at hi84
    rw [en] at hi83
    refine ⟨τ, ?_, hi83 n0, hi84, fun x _ => ⟨rfl, rfl⟩, Fr.refl τ⟩
    rw [e0]
    unfold fX12_cut_0b26 fX12_cut_0b108
    simp only [bd_e, nI_add, n_add1, y_m1]
    rw [if_pos ((nI_ltI (by omega) (by omega)).mpr (by omega))]
  | fu + 1, m + 1, n, τ, hm, hf, h31, h66, hR, h83, hi84, hi83 => by
    have e0 : fX12_cut_0l26 K (fu + 1) l1 (nI b') (nI i) (nI (n + 1)) τ = fX12_cut_0b26 K (fX12_cut_0l26 K fu) l1 (nI b') (nI i) (nI (n + 1)) τ := rfl
    obtain ⟨_, g2, f1⟩ := ask_M (V := V) (i := i) (l := n + 1) (N := N) (σ := τ) (by omega) hN (by omega) h31 (hR.sub (Nat.le_refl _) (by omega))
    generalize hτ1 : fX12_askRows_0 (nI i) (nI (n + 1)) τ = τ1 at *
    have hw : ∀ l, l ≤ b' + 1 - i → wt V c i C l ≤ 67959 := fun l hl => by
      have q1 := SP_le (w := cvW V i) (n := l) (by omega) (hR.cvW (by omega))
      have q2 := hC (i + l)
      unfold wt
      omega
    have ew : nI (SP (cvW V i) (n + 1)) + nI c + nI (C (i + (n + 1))) = nI (wt V c i C (n + 1)) := by
      rw [nI_add, nI_add]
      rfl
    have z0 : (0 : Int32).toNatClampNeg = 0 := by decide
    rw [e0]
    unfold fX12_cut_0b26 fX12_cut_0b36
    simp only [bd_e, nI_add, n_add1, hτ1]
    rw [if_neg (fun q => absurd (y_lt (by omega) (by omega) q) (by omega))]
    simp only [g2, f1.2 66 rfl, z0, h66, show (nI (i + (n + 1))).toNatClampNeg = i + (n + 1) from nI_clamp (by omega), show (nI i).toNatClampNeg = i from nI_clamp (by omega), f1.2 83 rfl, h83 (i + (n + 1)) (by omega) (by omega), ew, f1.2 84 rfl, hi84]
    have f1' : Fr [(38, 38)] [(80, 84)] τ τ1 := f1.wide rfl rfl
    have w1 := hw (n + 1) (by omega)
    have skip : n ≠ 0 → (bF (wt V c i C) (n - 1)).1 < wt V c i C (n + 1) → ∃ τ', fX12_cut_0b102 K (fX12_cut_0l26 K fu) l1 (nI b') (nI i) (nI (n + 1)) τ1 = K l1 (nI b') (nI i - 1) τ' ∧ τ'.2.2 83 i = nI (bF (wt V c i C) (b' - i)).1 ∧ τ'.2.2 84 i = nI (bF (wt V c i C) (b' - i)).2 ∧ (∀ x, x ≠ i → τ'.2.2 83 x = τ.2.2 83 x ∧ τ'.2.2 84 x = τ.2.2 84 x) ∧ Fr [(38, 38)] [(80, 84)] τ τ' := by
      intro n0 lt
      have eb : bF (wt V c i C) n = bF (wt V c i C) (n - 1) := by rw [bF_succ _ n0, if_pos lt]
      unfold fX12_cut_0b102
      simp only [bd_e, n_add1]
      obtain ⟨τ2, z1, z2, z3, z4, z5⟩ := mc26_l hN hb hc hi hC fu m (n + 1) τ1 (K := K) (l1 := l1) (V := V) (by omega) (by omega) ((f1.1 31 rfl).trans h31) (by rw [f1.2 66 rfl]; exact h66) (hR.fr f1 rfl) (fun x p q => by rw [f1.2 83 rfl]; exact h83 x p q) (by rw [f1.2 84 rfl, hi84, if_neg n0, if_neg (by omega), show n + 1 - 1 = n by omega, eb]) (fun _ => by rw [f1.2 83 rfl, hi83 n0, show n + 1 - 1 = n by omega, eb])
      exact ⟨τ2, z1, z2, z3, fun x hx => ⟨(z4 x hx).1.trans (by rw [f1.2 83 rfl]), (z4 x hx).2.trans (by rw [f1.2 84 rfl])⟩, f1'.call z5 rfl rfl⟩
    have put : bF (wt V c i C) n = (wt V c i C (n + 1), n + 1) → ∃ τ', fX12_cut_0b86 K (fX12_cut_0l26 K fu) l1 (nI b') (nI i) (nI (n + 1)) (nI (wt V c i C (n + 1))) τ1 = K l1 (nI b') (nI i - 1) τ' ∧ τ'.2.2 83 i = nI (bF (wt V c i C) (b' - i)).1 ∧ τ'.2.2 84 i = nI (bF (wt V c i C) (b' - i)).2 ∧ (∀ x, x ≠ i → τ'.2.2 83 x = τ.2.2 83 x ∧ τ'.2.2 84 x = τ.2.2 84 x) ∧ Fr [(38, 38)] [(80, 84)] τ τ' := by
      intro eb
      unfold fX12_cut_0b86 fX12_cut_0b102
      simp only [bd_e, n_add1, show (nI i).toNatClampNeg = i from nI_clamp (by omega)]
      generalize hs1 : sA τ1 83 (upd (τ1.2.2 83) i (nI (wt V c i C (n + 1)))) = τ2
      generalize hs2 : sA τ2 84 (upd (τ2.2.2 84) i (nI (n + 1))) = τ3
      have a83 : τ3.2.2 83 = upd (τ.2.2 83) i (nI (wt V c i C (n + 1))) := by
        rw [← hs2, sA_ne _ _ rfl, ← hs1, sA_eq, f1.2 83 rfl]
      have a84 : τ3.2.2 84 = upd (τ.2.2 84) i (nI (n + 1)) := by
        rw [← hs2, sA_eq, ← hs1, sA_ne _ _ rfl, f1.2 84 rfl]
      have f2 : Fr [] [(83, 84)] τ1 τ3 := by
        rw [← hs2, ← hs1]
        exact ((Fr.refl _).putA rfl).putA rfl
      have f3 := f1'.call f2 rfl rfl
      obtain ⟨τ4, z1, z2, z3, z4, z5⟩ := mc26_l hN hb hc hi hC fu m (n + 1) τ3 (K := K) (l1 := l1) (V := V) (by omega) (by omega) ((f3.1 31 rfl).trans h31) (by rw [f3.2 66 rfl]; exact h66) (hR.fr f3 rfl) (fun x p q => by rw [a83, pk_un (by omega)]; exact h83 x p q) (by rw [a84, pk_us, if_neg (by omega), show n + 1 - 1 = n by omega, eb]) (fun _ => by rw [a83, pk_us, show n + 1 - 1 = n by omega, eb])
      exact ⟨τ4, z1, z2, z3, fun x hx => ⟨(z4 x hx).1.trans (by rw [a83, pk_un hx]), (z4 x hx).2.trans (by rw [a84, pk_un hx])⟩, f3.call z5 rfl rfl⟩
    by_cases n0 : n = 0
    · rw [if_pos n0, if_pos nI_0]
      refine put ?_
      subst n0
      rfl
    · obtain ⟨l, l1', l2, l3⟩ := bF_mem (wt V c i C) (n - 1)
      have w3 : (bF (wt V c i C) (n - 1)).2 = l := by rw [l3]
      rw [if_neg n0, if_neg (show ¬ nI (bF (wt V c i C) (n - 1)).2 = 0 from fun q => absurd ((nI_eq (b := 0) (by omega) (by omega)).mp (q.trans nI_0.symm)) (by omega))]
      have w2 : (bF (wt V c i C) (n - 1)).1 ≤ 67959 := by
        rw [l3]
        exact hw l (by omega)
      unfold fX12_cut_0b75
      simp only [bd_e, show (nI i).toNatClampNeg = i from nI_clamp (by omega), f1.2 83 rfl, hi83 n0, nI_ltI (a := (bF (wt V c i C) (n - 1)).1) (b := wt V c i C (n + 1)) (by omega) (by omega)]
      by_cases q : (bF (wt V c i C) (n - 1)).1 < wt V c i C (n + 1)
      · rw [if_pos q]
        exact skip n0 q
      · rw [if_neg q]
        refine put ?_
        rw [bF_succ _ n0, if_neg q]
theorem mc11_l {V : Nat → Nat} {c a b' N : Nat} (hN : N ≤ 48) (hb : b' + 1 ≤ N) (hc : c ≤ 999) : ∀ (fu p : Nat) (τ : ST), a ≤ p → p ≤ b' + 1 → p - a < fu → τ.1 31 = nI N → τ.2.2 66 0 = nI c → ROWS 68 a (b' + 1) V τ → (∀ x, p ≤ x → x ≤ b' + 1 → τ.2.2 83 x = nI ((cs V c (b' + 1) (b' + 1 - p)).1 x)) → (∀ x, p ≤ x → x < b' + 1 → τ.2.2 84 x = nI ((cs V c (b' + 1) (b' + 1 - p)).2 x)) → ∃ τ', fX12_cut_0l11 fu (nI a) (nI b') (nI p - 1) τ = fX12_cut_0b114 (nI a) (nI b') τ' ∧ (∀ x, a ≤ x → x ≤ b' + 1 → τ'.2.2 83 x = nI ((cs V c (b' + 1) (b' + 1 - a)).1 x)) ∧ (∀ x, a ≤ x → x < b' + 1 → τ'.2.2 84 x = nI ((cs V c (b' + 1) (b' + 1 - a)).2 x)) ∧ Fr [(38, 38)] [(80, 84)] τ τ'
  | 0, _, _, _, _, h, _, _, _, _, _ => absurd h (Nat.not_lt_zero _)
  | fu + 1, p, τ, h1, h2, hf, h31, h66, hR, h83, h84 => by
    have e0 : fX12_cut_0l11 (fu + 1) (nI a) (nI b') (nI p - 1) τ = fX12_cut_0b11 (fX12_cut_0l11 fu) (nI a) (nI b') (nI p - 1) τ := rfl
    rw [e0]
    unfold fX12_cut_0b11
    rcases Nat.eq_or_lt_of_le h1 with q | q
    · subst q
      rw [if_pos (by
        rw [Int32.lt_iff_toInt_lt, y_sub1 (by omega), nI_toInt (by omega)]
        omega)]
      exact ⟨τ, rfl, h83, h84, Fr.refl τ⟩
    · obtain ⟨i, rfl⟩ : ∃ i, p = i + 1 := ⟨p - 1, by omega⟩
      rw [nI_pred, if_neg (fun z => absurd (y_lt (by omega) (by omega) z) (by omega))]
      unfold fX12_cut_0b16
      simp only [bd_e, show (nI i).toNatClampNeg = i from nI_clamp (by omega)]
      have ec : ∀ x, (cs V c (b' + 1) (b' + 1 - i)).1 x = if x = i then (bF (wt V c i (cs V c (b' + 1) (b' + 1 - (i + 1))).1) (b' - i)).1 else (cs V c (b' + 1) (b' + 1 - (i + 1))).1 x := fun x => by
        obtain ⟨m, hm⟩ : ∃ m, b' + 1 - i = m + 1 := ⟨b' - i, by omega⟩
        rw [hm, show b' + 1 - (i + 1) = m by omega, show b' - i = m by omega]
        show (if x = b' + 1 - 1 - m then _ else _) = _
        rw [show b' + 1 - 1 - m = i by omega]
      have ec2 : ∀ x, (cs V c (b' + 1) (b' + 1 - i)).2 x = if x = i then (bF (wt V c i (cs V c (b' + 1) (b' + 1 - (i + 1))).1) (b' - i)).2 else (cs V c (b' + 1) (b' + 1 - (i + 1))).2 x := fun x => by
        obtain ⟨m, hm⟩ : ∃ m, b' + 1 - i = m + 1 := ⟨b' - i, by omega⟩
        rw [hm, show b' + 1 - (i + 1) = m by omega, show b' - i = m by omega]
        show (if x = b' + 1 - 1 - m then _ else _) = _
        rw [show b' + 1 - 1 - m = i by omega]
      generalize ht : sA τ 84 (upd (τ.2.2 84) i 0) = τ1
      have a84 : τ1.2.2 84 = upd (τ.2.2 84) i 0 := by rw [← ht, sA_eq]
      have a83 : τ1.2.2 83 = τ.2.2 83 := by rw [← ht, sA_ne _ _ rfl]
      have f3 : Fr [(38, 38)] [(80, 84)] τ τ1 := by
        rw [← ht]
        exact (Fr.refl _).putA rfl
      obtain ⟨τ2, z1, z2, z3, z4, z5⟩ := mc26_l hN hb hc (show i < b' + 1 by omega) (fun x => by
        have t1 := cs_le V c (b' + 1) (b' + 1 - (i + 1)) x
        have t2 : (b' + 1 - (i + 1)) * c ≤ 48 * 999 := Nat.mul_le_mul (by omega) hc
        omega) 4096 (b' + 1 - i) 0 τ1 (K := fX12_cut_0l11 fu) (l1 := nI a) (V := V) (C := (cs V c (b' + 1) (b' + 1 - (i + 1))).1) (by omega) (by omega) ((f3.1 31 rfl).trans h31) (by rw [f3.2 66 rfl]; exact h66) ((hR.sub (by omega) (Nat.le_refl _)).fr f3 rfl) (fun x p q => by rw [a83]; exact h83 x (by omega) q) (by rw [a84, pk_us]; exact nI_0.symm) (fun q => absurd rfl q)
      obtain ⟨τ3, y1, y2, y3, y4⟩ := mc11_l hN hb hc fu i τ2 (by omega) (by omega) (by omega) (by rw [z5.1 31 rfl, f3.1 31 rfl, h31]) (by rw [z5.2 66 rfl, f3.2 66 rfl]; exact h66) ((hR.fr f3 rfl).fr z5 rfl) (fun x p q => by
        rw [ec]
        by_cases d : x = i
        · rw [if_pos d, d, z2]
        · rw [if_neg d, (z4 x d).1, a83]
          exact h83 x (by omega) q) (fun x p q => by
        rw [ec2]
        by_cases d : x = i
        · rw [if_pos d, d, z3]
        · rw [if_neg d, (z4 x d).2, a84, pk_un d]
          exact h84 x (by omega) q)
      refine ⟨τ3, ?_, y2, y3, (f3.call z5 rfl rfl).call y4 rfl rfl⟩
      rw [← y1, ← z1]
      rfl
