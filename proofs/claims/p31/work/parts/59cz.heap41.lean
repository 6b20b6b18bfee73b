/-! the reference's most right; errors -/
theorem mr2_l : ∀ (fu d j : Nat) (τ : ST), j + d = 54 → d < fu → (∀ x, x < j → τ.2.2 93 x = 0) → ∃ τ', fX12_mostRight_0l2 fu (nI j) τ = fX12_mostRight_0b21 τ' ∧ (∀ x, x < 54 → τ'.2.2 93 x = 0) ∧ Fr [] [(93, 93)] τ τ'
  | 0, _, _, _, _, h, _ => absurd h (Nat.not_lt_zero _)
  | fu + 1, 0, j, τ, hd, _, h0 => by
    have ej : j = 54 := by omega
    subst ej
    refine ⟨τ, ?_, h0, Fr.refl τ⟩
    show fX12_mostRight_0b2 (fX12_mostRight_0l2 fu) (nI 54) τ = _
    unfold fX12_mostRight_0b2
    rw [if_pos (show 54 ≤ nI 54 by decide)]
  | fu + 1, d + 1, j, τ, hd, hf, h0 => by
    have f1 : Fr [] [(93, 93)] τ (sA τ 93 (upd (τ.2.2 93) j 0)) := (Fr.refl τ).putA rfl
    obtain ⟨τ2, z1, z2, z3⟩ := mr2_l fu d (j + 1) (sA τ 93 (upd (τ.2.2 93) j 0)) (by omega) (by omega) (fun x hx => by
      rw [sA_eq]
      rcases Nat.eq_or_lt_of_le (Nat.le_of_lt_succ hx) with c | c
      · rw [c, pk_us]
      · rw [pk_un (by omega)]
        exact h0 x c)
    refine ⟨τ2, ?_, z2, f1.call z3 rfl rfl⟩
    rw [← z1]
    show fX12_mostRight_0b2 (fX12_mostRight_0l2 fu) (nI j) τ = _
    unfold fX12_mostRight_0b2
    rw [if_neg (show ¬ 54 ≤ nI j from fun q => absurd ((leN (a := 54) (by omega) (by omega)).mp q) (by omega))]
    unfold fX12_mostRight_0b8
    simp only [bd_e, n_add1, show (nI j).toNatClampNeg = j from nI_clamp (by omega)]
theorem mr83_l : ∀ (fu d j : Nat) (τ : ST), j + d = 512 → d < fu → (∀ x, x < j → τ.2.2 92 x = 0) → ∃ τ', fX12_mostRight_0l83 fu (nI j) τ = fX12_mostRight_0b103 τ' ∧ (∀ x, x < 512 → τ'.2.2 92 x = 0) ∧ Fr [] [(92, 92)] τ τ'
  | 0, _, _, _, _, h, _ => absurd h (Nat.not_lt_zero _)
  | fu + 1, 0, j, τ, hd, _, h0 => by
    have ej : j = 512 := by omega
    subst ej
    refine ⟨τ, ?_, h0, Fr.refl τ⟩
    show fX12_mostRight_0b83 (fX12_mostRight_0l83 fu) (nI 512) τ = _
    unfold fX12_mostRight_0b83
    rw [if_pos (show 512 ≤ nI 512 by decide)]
  | fu + 1, d + 1, j, τ, hd, hf, h0 => by
    have f1 : Fr [] [(92, 92)] τ (sA τ 92 (upd (τ.2.2 92) j 0)) := (Fr.refl τ).putA rfl
    obtain ⟨τ2, z1, z2, z3⟩ := mr83_l fu d (j + 1) (sA τ 92 (upd (τ.2.2 92) j 0)) (by omega) (by omega) (fun x hx => by
      rw [sA_eq]
      rcases Nat.eq_or_lt_of_le (Nat.le_of_lt_succ hx) with c | c
      · rw [c, pk_us]
      · rw [pk_un (by omega)]
        exact h0 x c)
    refine ⟨τ2, ?_, z2, f1.call z3 rfl rfl⟩
    rw [← z1]
    show fX12_mostRight_0b83 (fX12_mostRight_0l83 fu) (nI j) τ = _
    unfold fX12_mostRight_0b83
    rw [if_neg (show ¬ 512 ≤ nI j from fun q => absurd ((leN (a := 512) (by omega) (by omega)).mp q) (by omega))]
    unfold fX12_mostRight_0b90
    simp only [bd_e, n_add1, show (nI j).toNatClampNeg = j from nI_clamp (by omega)]
/-- what the reference's counting stands on -/
def CTM (s : PSt) (a tr : Nat → Nat) (n N : Nat) (τ : ST) : Prop := N ≤ 48 ∧ n ≤ 9 ∧ τ.1 31 = nI N ∧ (∀ r, r < N → τ.2.2 77 r = s.2.2 r) ∧ (∀ q, q < n → τ.2.2 86 q = nI (a q) ∧ a q < 9) ∧ TRU tr N τ
theorem CTM.fr {s : PSt} {a tr : Nat → Nat} {n N : Nat} {I J : List (Nat × Nat)} {σ τ : ST} (h : CTM s a tr n N σ) (f : Fr I J σ τ) (hh : (!inR I 31 && !inR J 77 && !inR J 86 && !inR J 6 && !inR J 71) = true) : CTM s a tr n N τ := by
  simp only [Bool.and_eq_true, Bool.not_eq_true'] at hh
  obtain ⟨⟨⟨⟨h1, h2⟩, h3⟩, h4⟩, h5⟩ := hh
  exact ⟨h.1, h.2.1, by rw [f.1 _ h1]; exact h.2.2.1, by rw [f.2 _ h2]; exact h.2.2.2.1, by rw [f.2 _ h3]; exact h.2.2.2.2.1, h.2.2.2.2.2.fr f h4 h5⟩
theorem mr23_l {s : PSt} {a tr : Nat → Nat} {n N : Nat} (hs : s.1 = n) (hp : PCO s) : ∀ (fu d r : Nat) (τ : ST), r + d = N → d < fu → CTM s a tr n N τ → (∀ h, h < 9 → ∀ t, t < 5 → τ.2.2 93 (9 * (t + 1) + h) = nI (TG2 s a tr t h r)) → ∃ τ', fX12_mostRight_0l23 fu (nI r) τ = fX12_mostRight_0b81 τ' ∧ (∀ h, h < 9 → ∀ t, t < 5 → τ'.2.2 93 (9 * (t + 1) + h) = nI (TG2 s a tr t h N)) ∧ Fr [] [(93, 93)] τ τ' := by
  intro fu
  induction fu with
  | zero =>
    intro d r τ _ h
    exact absurd h (Nat.not_lt_zero _)
  | succ fu ih =>
    intro d r τ hd hf hC h0
    have hC' := hC
    obtain ⟨hN, hn, h31, h77, h86, hT⟩ := hC'
    cases d with
    | zero =>
      have er : r = N := by omega
      subst er
      refine ⟨τ, ?_, h0, Fr.refl τ⟩
      show fX12_mostRight_0b23 (fX12_mostRight_0l23 fu) (nI r) τ = _
      unfold fX12_mostRight_0b23
      rw [bd_e, h31, if_pos ((leN (by omega) (by omega)).mpr (Nat.le_refl _))]
    | succ d =>
      obtain ⟨_, t1, t3⟩ := hT r (by omega)
      have nr : (nI r).toNatClampNeg = r := nI_clamp (by omega)
      have eT : ∀ t h, TG2 s a tr t h (r + 1) = TG2 s a tr t h r + (if decide (¬ s.2.2 r = -9 ∧ tr r = t + 1 ∧ HR s a r = h) = true then 1 else 0) := fun _ _ => rfl
      have e75 : ∀ ρ : ST, fX12_mostRight_0b75 (fX12_mostRight_0l23 fu) (nI r) ρ = fX12_mostRight_0l23 fu (nI (r + 1)) ρ := fun ρ => by
        unfold fX12_mostRight_0b75
        rw [bd_e, n_add1]
      have eA : fX12_mostRight_0l23 (fu + 1) (nI r) τ = if s.2.2 r = -9 then fX12_mostRight_0b75 (fX12_mostRight_0l23 fu) (nI r) τ else fX12_mostRight_0b42 (fX12_mostRight_0l23 fu) (nI r) τ := by
        show fX12_mostRight_0b23 (fX12_mostRight_0l23 fu) (nI r) τ = _
        unfold fX12_mostRight_0b23
        rw [bd_e, h31, if_neg (fun q => absurd ((leN (by omega) (by omega)).mp q) (by omega))]
        unfold fX12_mostRight_0b31
        rw [bd_e, nr, h77 r (by omega)]
      have skip : fX12_mostRight_0l23 (fu + 1) (nI r) τ = fX12_mostRight_0l23 fu (nI (r + 1)) τ → (¬ (0 < tr r ∧ ¬ s.2.2 r = -9)) → ∃ τ', fX12_mostRight_0l23 (fu + 1) (nI r) τ = fX12_mostRight_0b81 τ' ∧ (∀ h, h < 9 → ∀ t, t < 5 → τ'.2.2 93 (9 * (t + 1) + h) = nI (TG2 s a tr t h N)) ∧ Fr [] [(93, 93)] τ τ' := fun e hne => by
        obtain ⟨τ2, z1, z2, z3⟩ := ih d (r + 1) τ (by omega) (by omega) hC (fun h hh t ht => by
          rw [eT, if_neg (fun w => by
            have q := of_decide_eq_true w
            exact hne ⟨by omega, q.1⟩), Nat.add_zero]
          exact h0 h hh t ht)
        exact ⟨τ2, e.trans z1, z2, z3⟩
      rcases hp r with z | ⟨q, q1, q2, _, _⟩
      · refine skip ?_ (fun w => w.2 z)
        rw [eA, if_pos z, e75]
      · have nq : (nI q).toNatClampNeg = q := nI_clamp (by omega)
        obtain ⟨a1, a2⟩ := h86 q (by omega)
        have hne : ¬ s.2.2 r = -9 := by
          rw [q2]
          exact neg9_nI (by omega)
        by_cases c1 : tr r = 0
        · refine skip ?_ (fun w => by omega)
          rw [eA, if_neg hne]
          unfold fX12_mostRight_0b42
          rw [bd_e, nr, t1, c1, if_pos (show nI 0 ≤ 0 by decide), e75]
        · have eH : HR s a r = a q := by
            unfold HR
            rw [q2, nq]
          have eh : fX12_heapOfRow_0 (nI r) τ = nI (a q) := by
            unfold fX12_heapOfRow_0 fX12_heapOfRow_0b0
            rw [bd_e, nr, h77 r (by omega), if_neg hne]
            unfold fX12_heapOfRow_0b16 fX12_heapOfRow_0b27
            rw [bd_e, bd_e, nr, h77 r (by omega), q2, nq, a1]
          have ix : (nI (9 * tr r + a q)).toNatClampNeg = 9 * tr r + a q := nI_clamp (by omega)
          have ev : τ.2.2 93 (9 * tr r + a q) = nI (TG2 s a tr (tr r - 1) (a q) r) := by
            have z := h0 (a q) a2 (tr r - 1) (by omega)
            rw [show tr r - 1 + 1 = tr r by omega] at z
            exact z
          have f1 : Fr [] [(93, 93)] τ (sA τ 93 (upd (τ.2.2 93) (9 * tr r + a q) (nI (TG2 s a tr (tr r - 1) (a q) r + 1)))) := (Fr.refl τ).putA rfl
          have eC : fX12_mostRight_0l23 (fu + 1) (nI r) τ = fX12_mostRight_0l23 fu (nI (r + 1)) (sA τ 93 (upd (τ.2.2 93) (9 * tr r + a q) (nI (TG2 s a tr (tr r - 1) (a q) r + 1)))) := by
            rw [eA, if_neg hne]
            unfold fX12_mostRight_0b42
            rw [bd_e, nr, t1, if_neg (show ¬ nI (tr r) ≤ 0 from fun w => absurd ((leN (b := 0) (by omega) (by omega)).mp w) (by omega))]
            unfold fX12_mostRight_0b51
            simp only [bd_e, nr, t1, eh, show (9 : Int32) * nI (tr r) = nI (9 * tr r) from pk_mul 9 (tr r), nI_add, ix, ev, n_add1]
            rw [e75]
          obtain ⟨τ2, z1, z2, z3⟩ := ih d (r + 1) _ (by omega) (by omega) (hC.fr f1 rfl) (fun h hh t ht => by
            rw [eT, sA_eq]
            by_cases ch : h = a q ∧ t = tr r - 1
            · obtain ⟨c3, c4⟩ := ch
              subst c3
              rw [c4, show tr r - 1 + 1 = tr r by omega, pk_us, if_pos (decide_eq_true ⟨hne, by omega, eH⟩)]
            · rw [pk_un (fun w => ch (by omega)), if_neg (fun w => by
                have z := of_decide_eq_true w
                exact ch ⟨by rw [← z.2.2, eH], by omega⟩), Nat.add_zero]
              exact h0 h hh t ht)
          exact ⟨τ2, eC.trans z1, z2, f1.call z3 rfl rfl⟩
theorem mr138_l {K1 : Int32 → ST → Int32 × ST} {K2 : Int32 → Int32 → ST → Int32 × ST} {w : Nat → Nat → Nat} {t S : Nat} {τ : ST} (ht : t < 5) (hS : S < 512) (hw : ∀ j k, w j k ≤ 48) (hW : ∀ h, h < 9 → τ.2.2 93 (9 * (t + 1) + h) = nI (w h t)) (hG : ∀ x, x < 512 → τ.2.2 92 (512 * t + x) = nI (GG w 9 t x)) : ∀ (fu d h : Nat), h + d = 9 → d < fu → fX12_mostRight_0l138 K1 K2 fu (nI (t + 1)) (nI S) (nI (gvv (GG w 9 t) w t S h)) (nI h) τ = fX12_mostRight_0b214 K1 K2 (nI (t + 1)) (nI S) (nI (gvv (GG w 9 t) w t S 9)) τ
  | 0, _, _, _, h => absurd h (Nat.not_lt_zero _)
  | fu + 1, 0, h, hd, _ => by
    have eh : h = 9 := by omega
    subst eh
    show fX12_mostRight_0b138 K1 K2 (fX12_mostRight_0l138 K1 K2 fu) (nI (t + 1)) (nI S) _ (nI 9) τ = _
    unfold fX12_mostRight_0b138
    rw [if_pos (show 9 ≤ nI 9 by decide)]
  | fu + 1, d + 1, h, hd, hf => by
    have gl : ∀ x, GG w 9 t x ≤ 1000 := fun x => by
      have := GG_le (K := 9) hw t x
      omega
    have gle := gvv_le (w := w) (k := t) (S := S) (b := 1000) gl hw h
    have g1 := gl (S - 2 ^ h)
    have w1 := hw h t
    have eg : gvv (GG w 9 t) w t S (h + 1) = if S.testBit h = true then max (gvv (GG w 9 t) w t S h) (GG w 9 t (S - 2 ^ h) + w h t) else gvv (GG w 9 t) w t S h := rfl
    have ih := mr138_l (K1 := K1) (K2 := K2) ht hS hw hW hG fu d (h + 1) (by omega) (by omega)
    have e0 : fX12_mostRight_0l138 K1 K2 (fu + 1) (nI (t + 1)) (nI S) (nI (gvv (GG w 9 t) w t S h)) (nI h) τ = if nI (if S.testBit h = true then 1 else 0) = 1 then fX12_mostRight_0b155 K1 K2 (fX12_mostRight_0l138 K1 K2 fu) (nI (t + 1)) (nI S) (nI (gvv (GG w 9 t) w t S h)) (nI h) τ else fX12_mostRight_0b192 K1 K2 (fX12_mostRight_0l138 K1 K2 fu) (nI (t + 1)) (nI S) (nI (gvv (GG w 9 t) w t S h)) (nI h) τ := by
      show fX12_mostRight_0b138 K1 K2 (fX12_mostRight_0l138 K1 K2 fu) (nI (t + 1)) (nI S) (nI (gvv (GG w 9 t) w t S h)) (nI h) τ = _
      unfold fX12_mostRight_0b138
      rw [if_neg (show ¬ 9 ≤ nI h from fun q => absurd ((leN (a := 9) (by omega) (by omega)).mp q) (by omega))]
      unfold fX12_mostRight_0b145
      rw [bd_e, bd_e, bit1 hS (show h < 9 by omega)]
    have e193 : ∀ x : Nat, x < 2 ^ 20 → fX12_mostRight_0b193 K1 K2 (fX12_mostRight_0l138 K1 K2 fu) (nI (t + 1)) (nI S) (nI (gvv (GG w 9 t) w t S h)) (nI h) (nI x) τ = fX12_mostRight_0l138 K1 K2 fu (nI (t + 1)) (nI S) (nI (max (gvv (GG w 9 t) w t S h) x)) (nI (h + 1)) τ := fun x hx => by
      unfold fX12_mostRight_0b193
      by_cases c : x ≤ gvv (GG w 9 t) w t S h
      · rw [if_pos ((leN (by omega) (by omega)).mpr c), Nat.max_eq_left c]
        unfold fX12_mostRight_0b206 fX12_mostRight_0b207
        rw [bd_e, n_add1]
      · rw [if_neg (fun q => c ((leN (by omega) (by omega)).mp q)), Nat.max_eq_right (by omega)]
        unfold fX12_mostRight_0b201 fX12_mostRight_0b207
        rw [bd_e, n_add1]
    rw [e0, ← ih, eg]
    by_cases c : S.testBit h = true
    · have p := bit_pos c
      have ps : S - 2 ^ h ≤ 511 := Nat.le_trans (Nat.sub_le _ _) (by omega)
      have i1 : (nI (512 * t + (S - 2 ^ h))).toNatClampNeg = 512 * t + (S - 2 ^ h) := nI_clamp (by omega)
      have i2 : (nI (9 * (t + 1) + h)).toNatClampNeg = 9 * (t + 1) + h := nI_clamp (by omega)
      have cl := clr hS (show h < 9 by omega)
      rw [if_pos c] at cl
      rw [if_pos c, if_pos c, if_pos (show nI 1 = 1 from rfl)]
      unfold fX12_mostRight_0b155
      simp only [bd_e, show nI (t + 1) - 1 = nI t from pk_sub (b := 1) (by omega), show (512 : Int32) * nI t = nI (512 * t) from pk_mul 512 t, cl, nI_add, i1, hG (S - 2 ^ h) (by omega), show (9 : Int32) * nI (t + 1) = nI (9 * (t + 1)) from pk_mul 9 (t + 1), i2, hW h (by omega)]
      rw [e193 (GG w 9 t (S - 2 ^ h) + w h t) (by omega)]
    · rw [if_neg c, if_neg c, if_neg (show ¬ nI 0 = 1 by decide)]
      unfold fX12_mostRight_0b192
      have z := e193 0 (by omega)
      rw [nI_0, Nat.max_eq_left (Nat.zero_le _)] at z
      exact z
theorem mr113_l {K1 : Int32 → ST → Int32 × ST} {w : Nat → Nat → Nat} {t : Nat} (ht : t < 5) (hw : ∀ j k, w j k ≤ 48) : ∀ (fu d S : Nat) (τ : ST), S + d = 512 → d < fu → (∀ h, h < 9 → τ.2.2 93 (9 * (t + 1) + h) = nI (w h t)) → (∀ x, x < 512 → τ.2.2 92 (512 * t + x) = nI (GG w 9 t x)) → (∀ x, x < S → τ.2.2 92 (512 * (t + 1) + x) = nI (GG w 9 (t + 1) x)) → ∃ τ', fX12_mostRight_0l113 K1 fu (nI (t + 1)) (nI S) τ = K1 (nI (t + 2)) τ' ∧ (∀ x, x < 512 → τ'.2.2 92 (512 * (t + 1) + x) = nI (GG w 9 (t + 1) x)) ∧ Fr [] [(92, 92)] τ τ'
  | 0, _, _, _, _, h, _, _, _ => absurd h (Nat.not_lt_zero _)
  | fu + 1, 0, S, τ, hd, _, hW, hG, h0 => by
    have eS : S = 512 := by omega
    subst eS
    refine ⟨τ, ?_, h0, Fr.refl τ⟩
    show fX12_mostRight_0b113 K1 (fX12_mostRight_0l113 K1 fu) (nI (t + 1)) (nI 512) τ = _
    unfold fX12_mostRight_0b113
    rw [if_pos (show 512 ≤ nI 512 by decide)]
    unfold fX12_mostRight_0b233
    rw [bd_e, n_add1]
  | fu + 1, d + 1, S, τ, hd, hf, hW, hG, h0 => by
    have i1 : (nI (512 * t + S)).toNatClampNeg = 512 * t + S := nI_clamp (by omega)
    have i2 : (nI (512 * (t + 1) + S)).toNatClampNeg = 512 * (t + 1) + S := nI_clamp (by omega)
    have f1 : Fr [] [(92, 92)] τ (sA τ 92 (upd (τ.2.2 92) (512 * (t + 1) + S) (nI (GG w 9 (t + 1) S)))) := (Fr.refl τ).putA rfl
    obtain ⟨τ2, z1, z2, z3⟩ := mr113_l (K1 := K1) ht hw fu d (S + 1) (sA τ 92 (upd (τ.2.2 92) (512 * (t + 1) + S) (nI (GG w 9 (t + 1) S)))) (by omega) (by omega) (fun h hh => by rw [sA_ne _ _ rfl]; exact hW h hh) (fun x hx => by rw [sA_eq, pk_un (by omega)]; exact hG x hx) (fun x hx => by
      rw [sA_eq]
      rcases Nat.eq_or_lt_of_le (Nat.le_of_lt_succ hx) with c | c
      · rw [c, pk_us]
      · rw [pk_un (by omega)]
        exact h0 x c)
    refine ⟨τ2, ?_, z2, f1.call z3 rfl rfl⟩
    have m := mr138_l (K1 := K1) (K2 := fX12_mostRight_0l113 K1 fu) ht (show S < 512 by omega) hw hW hG 4096 9 0 (by omega) (by omega)
    have g0 : gvv (GG w 9 t) w t S 0 = GG w 9 t S := rfl
    rw [g0, nI_0] at m
    rw [← z1]
    show fX12_mostRight_0b113 K1 (fX12_mostRight_0l113 K1 fu) (nI (t + 1)) (nI S) τ = _
    unfold fX12_mostRight_0b113
    rw [if_neg (show ¬ 512 ≤ nI S from fun q => absurd ((leN (a := 512) (by omega) (by omega)).mp q) (by omega))]
    unfold fX12_mostRight_0b120
    simp only [bd_e, show nI (t + 1) - 1 = nI t from pk_sub (b := 1) (by omega), show (512 : Int32) * nI t = nI (512 * t) from pk_mul 512 t, nI_add, i1, hG S (by omega)]
    rw [m]
    unfold fX12_mostRight_0b214
    simp only [bd_e, show (512 : Int32) * nI (t + 1) = nI (512 * (t + 1)) from pk_mul 512 (t + 1), nI_add, i2, n_add1]
    rfl
theorem mr105_l {w : Nat → Nat → Nat} (hw : ∀ j k, w j k ≤ 48) : ∀ (fu d t : Nat) (τ : ST), t + d = 5 → d < fu → (∀ h, h < 9 → ∀ t, t < 5 → τ.2.2 93 (9 * (t + 1) + h) = nI (w h t)) → (∀ x, x < 512 → τ.2.2 92 (512 * t + x) = nI (GG w 9 t x)) → ∃ τ', fX12_mostRight_0l105 fu (nI (t + 1)) τ = (nI (GG w 9 5 511), τ') ∧ Fr [] [(92, 92)] τ τ'
  | 0, _, _, _, _, h, _, _ => absurd h (Nat.not_lt_zero _)
  | fu + 1, 0, t, τ, hd, _, hW, hG => by
    have et : t = 5 := by omega
    subst et
    refine ⟨τ, ?_, Fr.refl τ⟩
    show fX12_mostRight_0b105 (fX12_mostRight_0l105 fu) (nI 6) τ = _
    unfold fX12_mostRight_0b105
    rw [if_pos (show 6 ≤ nI 6 by decide)]
    unfold fX12_mostRight_0b239
    rw [bd_e, show (3071 : Int32).toNatClampNeg = 512 * 5 + 511 by decide, hG 511 (by omega)]
  | fu + 1, d + 1, t, τ, hd, hf, hW, hG => by
    obtain ⟨τ1, y1, y2, y3⟩ := mr113_l (K1 := fX12_mostRight_0l105 fu) (w := w) (t := t) (by omega) hw 4096 512 0 τ (by omega) (by omega) (fun h hh => hW h hh t (by omega)) hG (fun x hx => absurd hx (Nat.not_lt_zero _))
    obtain ⟨τ2, z1, z2⟩ := mr105_l hw fu d (t + 1) τ1 (by omega) (by omega) (fun h hh t ht => by rw [y3.2 93 rfl]; exact hW h hh t ht) y2
    refine ⟨τ2, ?_, y3.call z2 rfl rfl⟩
    rw [← z1, ← y1, nI_0]
    show fX12_mostRight_0b105 (fX12_mostRight_0l105 fu) (nI (t + 1)) τ = _
    unfold fX12_mostRight_0b105
    rw [if_neg (show ¬ 6 ≤ nI (t + 1) from fun q => absurd ((leN (a := 6) (by omega) (by omega)).mp q) (by omega))]
    rfl
theorem mostRight_M {s : PSt} {a tr : Nat → Nat} {n N : Nat} {τ : ST} (hs : s.1 = n) (hp : PCO s) (hC : CTM s a tr n N τ) : (fX12_mostRight_0 τ).1 = nI (GG (fun h t => TG2 s a tr t h N) 9 5 511) := by
  have hN := hC.1
  obtain ⟨τ1, y1, y2, y3⟩ := mr2_l 4096 54 0 τ (by omega) (by omega) (fun x hx => absurd hx (Nat.not_lt_zero _))
  obtain ⟨τ2, z1, z2, z3⟩ := mr23_l hs hp 4096 N 0 τ1 (by omega) (by omega) (hC.fr y3 rfl) (fun h hh t ht => by
    rw [y2 _ (by omega)]
    exact nI_0.symm)
  obtain ⟨τ3, u1, u2, u3⟩ := mr83_l 4096 512 0 τ2 (by omega) (by omega) (fun x hx => absurd hx (Nat.not_lt_zero _))
  obtain ⟨τ4, v1, v2⟩ := mr105_l (w := fun h t => TG2 s a tr t h N) (fun j k => TG2_le s a tr k j hN) 4096 5 0 τ3 (by omega) (by omega) (fun h hh t ht => by rw [u3.2 93 rfl]; exact z2 h hh t ht) (fun x hx => by
    rw [show 512 * 0 + x = x by omega, u2 x hx]
    exact nI_0.symm)
  have e1 : fX12_mostRight_0 τ = fX12_mostRight_0b21 τ1 := by
    rw [← y1, nI_0]
    rfl
  have e2 : fX12_mostRight_0b21 τ1 = fX12_mostRight_0b81 τ2 := by
    rw [← z1, nI_0]
    rfl
  have e3 : fX12_mostRight_0b81 τ2 = fX12_mostRight_0b103 τ3 := by
    rw [← u1, nI_0]
    rfl
  have e4 : fX12_mostRight_0b103 τ3 = fX12_mostRight_0l105 4096 (nI (0 + 1)) τ3 := rfl
  rw [e1, e2, e3, e4, v1]
theorem TG2_0 {s : PSt} {a tr : Nat → Nat} {p : Nat} (ha : ∀ r, ¬ s.2.2 r = -9 → HR s a r < p) (t h : Nat) (hh : p ≤ h) : ∀ N, TG2 s a tr t h N = 0
  | 0 => rfl
  | N + 1 => by
    have e : TG2 s a tr t h (N + 1) = TG2 s a tr t h N + (if decide (¬ s.2.2 N = -9 ∧ tr N = t + 1 ∧ HR s a N = h) = true then 1 else 0) := rfl
    rw [e, TG2_0 ha t h hh N, if_neg (fun w => by
      have z := of_decide_eq_true w
      have := ha N z.1
      omega)]
theorem errors_X (w : Int32) (σ : ST) : fX11_errors_0 w σ = if ¬ w < 0 ∧ ¬ 2 < w then (if w = 0 then (fX9_missed_0 (fX11_cutNow_0 σ), fX11_cutNow_0 σ) else if w = 1 then (fX9_madeUp_0 (fX11_cutNow_0 σ), fX11_cutNow_0 σ) else if (fX11_heapNow_0 (fX11_cutNow_0 σ)).1 = 0 then (-2, (fX11_heapNow_0 (fX11_cutNow_0 σ)).2) else fX9_wrong_0 (fX11_heapNow_0 (fX11_cutNow_0 σ)).2) else (-1, σ) := by
  unfold fX11_errors_0 fX11_errors_0b0 fX11_errors_0b9 fX11_errors_0b11 fX11_errors_0b19 fX11_errors_0b35 fX11_errors_0b40 fX11_errors_0b56 fX11_errors_0b63 fX11_errors_0b88 fX11_errors_0b90
  simp only [bd_e, bp_e, within_X, ite01, pmk]
  by_cases c : ¬ w < 0 ∧ ¬ 2 < w
  · rw [if_neg (fun q => q c), if_pos (show ¬ w < 0 ∧ ¬ 2 < w from c)]
  · rw [if_pos c, if_neg (show ¬ (¬ w < 0 ∧ ¬ 2 < w) from c)]
theorem errors_eq {V : Nat → Nat} {H : Nat → Bool} {c c1 N r2 r3 r4 r5 : Nat} {σ : ST} (hK : KH σ) (hB : FB V H c c1 N r2 r3 r4 r5 σ) (hJR : JR σ) (hI : INV σ) (w : Int32) {σ1 : ST} {v1 : Int32} (x1 : fX11_errors_0 w σ = (v1, σ1)) : v1 = (fX12_errors_0 w σ1).1 := by
  obtain ⟨k1, k2, k3⟩ := cutNow_X hK.1.1
  have hN := hB.1.2.2.2.2.1.1
  obtain ⟨tr, hT⟩ := tru_of hJR hI hB.1.2.2.2.2.1.2.1 hN
  have hB0 := hB.fr k3 rfl
  have hX0 := hB0.2.1.of_kcu k1 k2
  have kh0 := kn_fX11_cutNow_0 hK
  have hT0 := hT.fr k3 rfl rfl
  have hP := CUT_po V H c N
  rw [errors_X] at x1
  have eM : ∀ τ : ST, fX12_errors_0 w τ = if ¬ w < 0 ∧ ¬ 2 < w then fX12_errors_0l25 4096 w 0 0 0 0 (fX12_findPieces_0 τ) else (-1, τ) := fun τ => by
    unfold fX12_errors_0 fX12_errors_0b0 fX12_errors_0b9 fX12_errors_0b11
    simp only [bd_e, in_M, ite01]
    by_cases q : ¬ w < 0 ∧ ¬ 2 < w
    · rw [if_neg (fun z => z q), if_pos (show ¬ w < 0 ∧ ¬ 2 < w from q)]
    · rw [if_pos q, if_neg (show ¬ (¬ w < 0 ∧ ¬ 2 < w) from q)]
  by_cases cw : ¬ w < 0 ∧ ¬ 2 < w
  · rw [if_pos cw] at x1
    have eR : ∀ τ : ST, FB V H c c1 N r2 r3 r4 r5 τ → TRU tr N τ → fX12_errors_0 w τ = fX12_errors_0b130 w (nI (tM (CUT V H c N).1 tr N)) (nI (tU (CUT V H c N).1 tr N)) (nI (tB (CUT V H c N).1 tr N)) (fX12_findPieces_0 τ) := fun τ hτ hTτ => by
      obtain ⟨p1, p2⟩ := pieces_M hτ.1.1 hτ.1.2.2.2.2.2
      have z := err25_l (l1 := w) (s := (CUT V H c N).1) (τ := fX12_findPieces_0 τ) hN (by rw [p2.1 31 rfl]; exact hτ.1.2.2.2.2.2.2.1) p1.2.2.2 (hTτ.fr p2 rfl rfl) 4096 N 0 (by omega) (by omega)
      rw [show tM (CUT V H c N).1 tr 0 = 0 from rfl, show tU (CUT V H c N).1 tr 0 = 0 from rfl, show tB (CUT V H c N).1 tr 0 = 0 from rfl, nI_0] at z
      rw [eM, if_pos cw, z]
    have w3 : w = 0 ∨ w = 1 ∨ w = 2 := by
      rcases a03 ⟨cw.1, fun q => cw.2 (by
        rw [Int32.lt_iff_toInt_lt] at q ⊢
        have e2 : (2 : Int32).toInt = 2 := rfl
        have e3 : (3 : Int32).toInt = 3 := rfl
        omega)⟩ with h | h | h | h
      · exact Or.inl h
      · exact Or.inr (Or.inl h)
      · exact Or.inr (Or.inr h)
      · exact absurd (by rw [h]; decide) cw.2
    rcases w3 with rfl | rfl | rfl
    · rw [if_pos rfl] at x1
      have es := pin2 x1
      subst es
      rw [eR _ hB0 hT0, ← pin1 x1]
      have z := missed_l (s := (CUT V H c N).1) (σ := fX11_cutNow_0 σ) hN hB0.1.2.2.2.2.1.2.1 hX0.1.2.2 hT0 4096 N 0 (by omega) (by omega)
      rw [show tM (CUT V H c N).1 tr 0 = 0 from rfl, nI_0] at z
      exact z
    · rw [if_neg (show ¬ (1 : Int32) = 0 by decide), if_pos rfl] at x1
      have es := pin2 x1
      subst es
      rw [eR _ hB0 hT0, ← pin1 x1]
      have z := madeUp_l (s := (CUT V H c N).1) (σ := fX11_cutNow_0 σ) hN hB0.1.2.2.2.2.1.2.1 hX0.1.2.2 hT0 4096 N 0 (by omega) (by omega)
      rw [show tU (CUT V H c N).1 tr 0 = 0 from rfl, nI_0] at z
      exact z
    · rw [if_neg (show ¬ (2 : Int32) = 0 by decide), if_neg (show ¬ (2 : Int32) = 1 by decide)] at x1
      obtain ⟨_, h2, h3, h4, h5⟩ := heapNow_X kh0.1 hB0.2.1
      generalize gh : fX11_heapNow_0 (fX11_cutNow_0 σ) = hs at *
      have hB1 := hB0.fr h5 rfl
      have hT1 := hT0.fr h5 rfl rfl
      rcases Nat.lt_or_ge 9 (CUT V H c N).1.1 with z | z
      · rw [if_pos (h3 z)] at x1
        have es := pin2 x1
        subst es
        obtain ⟨p1, p2⟩ := pieces_M hB1.1.1 hB1.1.2.2.2.2.2
        obtain ⟨_, b2, _, _⟩ := findBest_R (hB1.fr p2 rfl) h4 hB1.1.2.2.2.2.1
        rw [eR _ hB1 hT1]
        unfold fX12_errors_0b130
        rw [if_pos (show (2 : Int32) ≤ 2 by decide)]
        unfold fX12_errors_0b145
        rw [bp_e, b2 z, if_pos rfl]
        exact (pin1 x1).symm
      · obtain ⟨q1, q2, _⟩ := h2 z
        rw [if_neg (by rw [q1]; decide)] at x1
        have hb : ∀ q', q' < (CUT V H c N).1.1 → hs.2.2.2 41 q' = nI ((BSc V H c N r2 r4).2.2 q') ∧ (BSc V H c N r2 r4).2.2 q' < 9 := fun q' hq' => ⟨(q2.h41 hq').1, Nat.lt_of_lt_of_le (q2.h41 hq').2 q2.h10.2⟩
        have hC : CTS (CUT V H c N).1 (BSc V H c N r2 r4).2.2 tr (CUT V H c N).1.1 N hs.2 := ⟨hN, z, hB1.1.2.2.2.2.1.2.1, h4.1.2.2, hb, hT1⟩
        obtain ⟨τ', y1, y2⟩ := wrong_X rfl hP hC q2.h10.1 q2.h10.2
        rw [y1] at x1
        have es := pin2 x1
        subst es
        have hB2 := hB1.fr y2 rfl
        have hT2 := hT1.fr y2 rfl rfl
        rw [eR _ hB2 hT2, ← pin1 x1]
        obtain ⟨p1, p2⟩ := pieces_M hB2.1.1 hB2.1.2.2.2.2.2
        obtain ⟨b1, _, _, _⟩ := findBest_R (hB2.fr p2 rfl) h4 hB1.1.2.2.2.2.1
        obtain ⟨τ1, w1, w2, _, _, w5, w6, w7⟩ := b1 z
        unfold fX12_errors_0b130
        rw [if_pos (show (2 : Int32) ≤ 2 by decide)]
        unfold fX12_errors_0b145
        rw [bp_e, w1, if_neg (show ¬ ((1 : Int32), τ1).1 = 0 from fun w => absurd (show (1 : Int32) = 0 from w) (by decide))]
        have f7 : Fr [(35, 39)] [(75, 86), (88, 88)] τ' τ1 := (p2.wide rfl rfl).call w7 rfl rfl
        have hM : CTM (CUT V H c N).1 (BSc V H c N r2 r4).2.2 tr (CUT V H c N).1.1 N τ1 := ⟨hN, z, by rw [f7.1 31 rfl]; exact hB2.1.2.2.2.2.2.2.1, w6.2.2.2, fun q' hq' => ⟨w5 q' hq', (hb q' hq').2⟩, hT2.fr f7 rfl rfl⟩
        have mr := mostRight_M rfl hP hM
        have two := GG_two (w := fun t h => TG2 (CUT V H c N).1 (BSc V H c N r2 r4).2.2 tr t h N) q2.h10.2 (fun t h hh => TG2_0 (fun r hr => by
          unfold HR
          rcases hP r with zz | ⟨q', q1', q2', _, _⟩
          · exact absurd zz hr
          · rw [q2', nI_clamp (by omega)]
            exact (q2.h41 q1').2) t h hh N)
        show _ = (fX12_errors_0b152 (nI (tB (CUT V H c N).1 tr N)) τ1).1
        unfold fX12_errors_0b152 fX12_errors_0b164
        rw [bp_e, bd_e, mr, two]
  · rw [if_neg cw] at x1
    rw [eM, if_neg cw]
    exact (pin1 x1).symm
