/-! keep and forget keep both sides' voices alike -/
theorem n_add4 (n : Nat) : nI n + 4 = nI (n + 4) := nI_add n 4
theorem keep_both {V : Nat → Nat} {H : Nat → Bool} {c c1 N r2 r3 r4 r5 : Nat} {σ σ1 σ2 : ST} {h a v1 v2 : Int32} (hK : KH σ) (hB : FB V H c c1 N r2 r3 r4 r5 σ) (hJ : JK σ) (x1 : fX11_keep_0 h a σ = (v1, σ1)) (x2 : fX12_keep_0 h a σ1 = (v2, σ2)) : JK σ2 ∧ v1 = v2 := by
  rw [keep_X] at x1
  rw [keep_M] at x2
  by_cases ha : ¬ a < 1 ∧ ¬ 99 < a
  · rw [if_pos ha] at x2
    by_cases hh : HNo h
    · rw [if_pos (show HNo h ∧ ¬ a < 1 ∧ ¬ 99 < a from ⟨hh, ha⟩)] at x1
      obtain ⟨v, a1, a2, a3, a4, a5, a6⟩ := refused_both hK hB h
      rw [a2] at x1
      obtain ⟨K, k1, k2, k3, k4⟩ := hJ
      rcases a1.cases with rfl | ⟨_, w2, w3⟩
      · rw [if_pos (show (0 : Int32) ≤ ((0 : Int32), (fX11_heapNow_0 σ).2).1 from (show (0 : Int32) ≤ 0 by decide))] at x1
        obtain ⟨x, rfl, hx, hx2, hx3⟩ := a1.lt hh
        have q := a3 hx2
        have x1' : fX5_add_0 (nI x) a (fX11_heapNow_0 σ).2 = (v1, σ1) := x1
        generalize gs : (fX11_heapNow_0 σ).2 = s at *
        have e19 : s.1 19 = nI K := (a6.1 19 rfl).trans k2
        have M99 : ∀ i, i < 4 → MH V (HS (CUT V H c N).1 (BSc V H c N r2 r4).2.2 x) N i ≤ 99 := fun i hi => MH_le fun r hr hA => (a5.1.2.2.2.2.1.2.2.2 r hr (HS_heard hA) i hi).2
        rcases Nat.lt_or_ge K 6 with hK6 | hK6
        · have eX : fX5_add_0 (nI x) a s = fX5_add_0l29 4096 (nI x) (nI K) (nI 0) (sA s 49 (upd (s.2.2 49) K a)) := by
            unfold fX5_add_0 fX5_add_0b0 fX5_add_0b12
            simp only [bd_e, e19, show (nI K).toNatClampNeg = K from nI_clamp (by omega), nI_0]
            rw [if_pos (show nI K < 6 from (nI_ltI (b := 6) (by omega) (by omega)).mpr hK6)]
          obtain ⟨τ', y1, y2, y3, y4, y5⟩ := add29_l (x := x) (K := K) (p := HPc V H c N r2 r4) (M := fun i => MH V (HS (CUT V H c N).1 (BSc V H c N r2 r4).2.2 x) N i) hx q.h10.2 hK6 4096 4 0 (sA s 49 (upd (s.2.2 49) K a)) (by omega) (by omega) q.h10.1 e19 (fun i hi => by rw [sA_ne _ _ rfl]; exact q.2.2.2.1 x hx i hi) (fun i hi => absurd hi (Nat.not_lt_zero _))
          rw [eX, y1] at x1'
          have er := pin1 x1'
          have es := pin2 x1'
          subst es
          have fA : Fr [(3, 12), (14, 19), (22, 23)] [(8, 19), (21, 29), (31, 47), (49, 50)] σ τ' := (((a6.wide rfl rfl)).putA rfl).call y5 rfl rfl
          have hB1 : FB V H c c1 N r2 r3 r4 r5 τ' := hB.fr fA rfl
          obtain ⟨τ2, b1, b2, _, b4⟩ := wrong_both hB1 a4 a5.1.2.2.2.2.1 hh a1
          rw [b1, if_pos rfl] at x2
          have x2' : fX12_keep_0b26 (nI x) a τ2 = (v2, σ2) := x2
          have e40 : τ2.1 40 = nI K := by rw [b4.1 40 rfl, fA.1 40 rfl]; exact k3
          have eM : fX12_keep_0b26 (nI x) a τ2 = fX12_keep_0l51 4096 (nI x) (nI 0) (sA τ2 90 (upd (τ2.2.2 90) K a)) := by
            unfold fX12_keep_0b26 fX12_keep_0b38
            simp only [bd_e, e40, show (nI K).toNatClampNeg = K from nI_clamp (by omega), nI_0]
            rw [if_neg (show ¬ nI K = 6 from fun w => absurd ((nI_eq (b := 6) (by omega) (by omega)).mp w) (by omega))]
          obtain ⟨τ3, z1, z2, z3, z4, z5⟩ := keep51_l (x := x) (K := K) (M := fun i => MH V (HS (CUT V H c N).1 (BSc V H c N r2 r4).2.2 x) N i) (by omega) hK6 4096 4 0 (sA τ2 90 (upd (τ2.2.2 90) K a)) (by omega) (by omega) e40 (fun i hi => by rw [sA_ne _ _ rfl]; exact (b2 hx2).1 x hx i hi) (fun i hi => absurd hi (Nat.not_lt_zero _))
          rw [eM, z1] at x2'
          have er2 := pin1 x2'
          have es2 := pin2 x2'
          subst es2
          have o49 : τ'.2.2 49 = upd (σ.2.2 49) K a := by rw [y5.2 49 rfl, sA_eq, a6.2 49 rfl]
          have o90 : τ3.2.2 90 = upd (σ.2.2 90) K a := by rw [z5.2 90 rfl, sA_eq, b4.2 90 rfl, fA.2 90 rfl]
          have p49 : τ3.2.2 49 = τ'.2.2 49 := by rw [z5.2 49 rfl, sA_ne _ _ rfl, b4.2 49 rfl]
          have p50 : τ3.2.2 50 = τ'.2.2 50 := by rw [z5.2 50 rfl, sA_ne _ _ rfl, b4.2 50 rfl]
          refine ⟨⟨K + 1, by omega, ?_, z2, fun v hv => ?_⟩, er.symm.trans er2⟩
          · rw [z5.1 19 rfl, sA_1, b4.1 19 rfl]
            exact y2
          · rw [o90, p49, o49, p50]
            rcases Nat.eq_or_lt_of_le (Nat.le_of_lt_succ hv) with d | d
            · subst d
              exact ⟨by rw [pk_us, pk_us], fun i hi => ⟨_, M99 i hi, y3 i hi, z3 i hi⟩⟩
            · obtain ⟨j1, j2⟩ := k4 v d
              refine ⟨by rw [pk_un (by omega), pk_un (by omega)]; exact j1, fun i hi => ?_⟩
              obtain ⟨m, m1, m2, m3⟩ := j2 i hi
              refine ⟨m, m1, ?_, ?_⟩
              · rw [y4 (v * 4 + i) (by omega), sA_ne _ _ rfl, a6.2 50 rfl]
                exact m2
              · rw [z4 (4 * v + i) (by omega), sA_ne _ _ rfl, b4.2 91 rfl, fA.2 91 rfl]
                exact m3
        · have K6 : K = 6 := by omega
          subst K6
          have eX : fX5_add_0 (nI x) a s = (-3, s) := by
            unfold fX5_add_0 fX5_add_0b0 fX5_add_0b9
            simp only [bd_e, e19]
            rw [if_neg (show ¬ nI 6 < 6 by decide)]
          rw [eX] at x1'
          have er := pin1 x1'
          have es := pin2 x1'
          subst es
          obtain ⟨τ2, b1, b2, _, b4⟩ := wrong_both a5 a4 a5.1.2.2.2.2.1 hh a1
          rw [b1, if_pos rfl] at x2
          have x2' : fX12_keep_0b26 (nI x) a τ2 = (v2, σ2) := x2
          have e40 : τ2.1 40 = nI 6 := by rw [b4.1 40 rfl, a6.1 40 rfl]; exact k3
          have eM : fX12_keep_0b26 (nI x) a τ2 = (-3, τ2) := by
            unfold fX12_keep_0b26 fX12_keep_0b35
            simp only [bd_e, e40]
            rw [if_pos (show nI 6 = 6 by decide)]
          rw [eM] at x2'
          have er2 := pin1 x2'
          have es2 := pin2 x2'
          subst es2
          have hJ' : JK σ := ⟨6, by omega, k2, k3, k4⟩
          exact ⟨(hJ'.fr a6 rfl).fr b4 rfl, er.symm.trans er2⟩
      · rw [if_neg w2] at x1
        have er := pin1 x1
        have es := pin2 x1
        subst es
        obtain ⟨τ2, b1, b2, _, b4⟩ := wrong_both a5 a4 a5.1.2.2.2.2.1 hh a1
        rw [b1, if_neg w3] at x2
        have er2 := pin1 x2
        have es2 := pin2 x2
        subst es2
        have hJ' : JK σ := ⟨K, k1, k2, k3, k4⟩
        exact ⟨(hJ'.fr a6 rfl).fr b4 rfl, er.symm.trans er2⟩
    · rw [if_neg (fun w => hh w.1)] at x1
      rw [wrong_bad hh, if_neg (show ¬ (-1 : Int32) = 0 by decide)] at x2
      rw [← pin2 x2, ← pin2 x1, ← pin1 x1, ← pin1 x2]
      exact ⟨hJ, rfl⟩
  · rw [if_neg (fun w => ha w.2)] at x1
    rw [if_neg ha] at x2
    rw [← pin2 x2, ← pin2 x1, ← pin1 x1, ← pin1 x2]
    exact ⟨hJ, rfl⟩
theorem rem46_l {K9 : Int32 → Int32 → ST → Int32 × ST} {l2 : Int32} {v u : Nat} {o : Nat → Int32} (hv : v ≤ u) (hu : u < 6) : ∀ (fu d k : Nat) (τ : ST), k + d = 4 → d < fu → (∀ j i, i < 4 → τ.2.2 50 (j * 4 + i) = if (v ≤ j ∧ j < u) ∨ (j = u ∧ i < k) then o ((j + 1) * 4 + i) else o (j * 4 + i)) → ∃ τ', fX5_remove_0l46 K9 fu l2 (nI u) (nI k) τ = K9 l2 (nI (u + 1)) τ' ∧ (∀ j i, i < 4 → τ'.2.2 50 (j * 4 + i) = if v ≤ j ∧ j < u + 1 then o ((j + 1) * 4 + i) else o (j * 4 + i)) ∧ Fr [] [(50, 50)] τ τ'
  | 0, _, _, _, _, h, _ => absurd h (Nat.not_lt_zero _)
  | fu + 1, 0, k, τ, hd, _, h0 => by
    have k4 : k = 4 := by omega
    subst k4
    refine ⟨τ, ?_, fun j i hi => ?_, Fr.refl τ⟩
    · show fX5_remove_0b46 K9 (fX5_remove_0l46 K9 fu) l2 (nI u) (nI 4) τ = _
      unfold fX5_remove_0b46 fX5_remove_0b82
      rw [if_pos (show 4 ≤ nI 4 by decide)]
      simp only [bd_e, n_add1]
    · rw [h0 j i hi]
      by_cases q : v ≤ j ∧ j < u + 1
      · rw [if_pos q, if_pos (by omega)]
      · rw [if_neg q, if_neg (by omega)]
  | fu + 1, d + 1, k, τ, hd, hf, h0 => by
    have f1 : Fr [] [(50, 50)] τ (sA τ 50 (upd (τ.2.2 50) (u * 4 + k) (o ((u + 1) * 4 + k)))) := (Fr.refl τ).putA rfl
    have e1 : τ.2.2 50 ((u + 1) * 4 + k) = o ((u + 1) * 4 + k) := by rw [h0 (u + 1) k (by omega), if_neg (by omega)]
    obtain ⟨τ2, z1, z2, z3⟩ := rem46_l (K9 := K9) (l2 := l2) (o := o) hv hu fu d (k + 1) (sA τ 50 (upd (τ.2.2 50) (u * 4 + k) (o ((u + 1) * 4 + k)))) (by omega) (by omega) (fun j i hi => by
      rw [sA_eq]
      by_cases q : j * 4 + i = u * 4 + k
      · have q1 : j = u := by omega
        have q2 : i = k := by omega
        subst q1
        subst q2
        rw [pk_us, if_pos (by omega)]
      · rw [pk_un q, h0 j i hi]
        by_cases w : (v ≤ j ∧ j < u) ∨ (j = u ∧ i < k)
        · rw [if_pos w, if_pos (by omega)]
        · rw [if_neg w, if_neg (by omega)])
    refine ⟨τ2, ?_, z2, f1.call z3 rfl rfl⟩
    rw [← z1]
    show fX5_remove_0b46 K9 (fX5_remove_0l46 K9 fu) l2 (nI u) (nI k) τ = _
    unfold fX5_remove_0b46 fX5_remove_0b52
    rw [if_neg (show ¬ 4 ≤ nI k from fun q => absurd ((leN (a := 4) (by omega) (by omega)).mp q) (by omega))]
    simp only [bd_e, n_add1, n_mul4, nI_add, show (nI ((u + 1) * 4 + k)).toNatClampNeg = (u + 1) * 4 + k from nI_clamp (by omega), show (nI (u * 4 + k)).toNatClampNeg = u * 4 + k from nI_clamp (by omega), e1]
theorem rem19_l {l2 : Int32} {v K : Nat} {o p : Nat → Int32} (hK : K ≤ 6) : ∀ (fu d u : Nat) (τ : ST), u + d + 1 = K → d < fu → v ≤ u → τ.1 19 = nI K → (∀ j, τ.2.2 49 j = if v ≤ j ∧ j < u then p (j + 1) else p j) → (∀ j i, i < 4 → τ.2.2 50 (j * 4 + i) = if v ≤ j ∧ j < u then o ((j + 1) * 4 + i) else o (j * 4 + i)) → ∃ τ', fX5_remove_0l19 fu l2 (nI u) τ = (l2, τ') ∧ τ'.1 19 = nI (K - 1) ∧ (∀ j, j < K - 1 → τ'.2.2 49 j = if v ≤ j then p (j + 1) else p j) ∧ (∀ j, j < K - 1 → ∀ i, i < 4 → τ'.2.2 50 (j * 4 + i) = if v ≤ j then o ((j + 1) * 4 + i) else o (j * 4 + i)) ∧ Fr [(19, 19)] [(49, 50)] τ τ'
  | 0, _, _, _, _, h, _, _, _, _ => absurd h (Nat.not_lt_zero _)
  | fu + 1, 0, u, τ, hd, _, hv, h19, hp, ho => by
    have eK : nI K - 1 = nI (K - 1) := pk_sub (b := 1) (by omega)
    refine ⟨sI τ 19 (nI (K - 1)), ?_, sI_eq _ _ _, fun j hj => ?_, fun j hj i hi => ?_, (Fr.refl τ).putI rfl⟩
    · show fX5_remove_0b19 (fX5_remove_0l19 fu) l2 (nI u) τ = _
      unfold fX5_remove_0b19 fX5_remove_0b88
      simp only [bd_e, h19, eK]
      rw [if_pos ((leN (by omega) (by omega)).mpr (by omega))]
    · show τ.2.2 49 j = _
      rw [hp j]
      by_cases q : v ≤ j
      · rw [if_pos q, if_pos (by omega)]
      · rw [if_neg q, if_neg (by omega)]
    · show τ.2.2 50 (j * 4 + i) = _
      rw [ho j i hi]
      by_cases q : v ≤ j
      · rw [if_pos q, if_pos (by omega)]
      · rw [if_neg q, if_neg (by omega)]
  | fu + 1, d + 1, u, τ, hd, hf, hv, h19, hp, ho => by
    have eK : nI K - 1 = nI (K - 1) := pk_sub (b := 1) (by omega)
    have f1 : Fr [(19, 19)] [(49, 50)] τ (sA τ 49 (upd (τ.2.2 49) u (p (u + 1)))) := (Fr.refl τ).putA rfl
    have e1 : τ.2.2 49 (u + 1) = p (u + 1) := by rw [hp (u + 1), if_neg (by omega)]
    obtain ⟨τ1, y1, y2, y3⟩ := rem46_l (K9 := fX5_remove_0l19 fu) (l2 := l2) (o := o) hv (by omega) 4096 4 0 (sA τ 49 (upd (τ.2.2 49) u (p (u + 1)))) (by omega) (by omega) (fun j i hi => by
      rw [sA_ne _ _ rfl, ho j i hi]
      by_cases q : v ≤ j ∧ j < u
      · rw [if_pos q, if_pos (by omega)]
      · rw [if_neg q, if_neg (by omega)])
    obtain ⟨τ2, z1, z2, z3, z4, z5⟩ := rem19_l (l2 := l2) (v := v) (o := o) (p := p) hK fu d (u + 1) τ1 (by omega) (by omega) (by omega) ((y3.1 19 rfl).trans h19) (fun j => by
      rw [y3.2 49 rfl, sA_eq]
      by_cases q : j = u
      · rw [q, pk_us, if_pos (by omega)]
      · rw [pk_un q, hp j]
        by_cases w : v ≤ j ∧ j < u
        · rw [if_pos w, if_pos (by omega)]
        · rw [if_neg w, if_neg (by omega)]) y2
    refine ⟨τ2, ?_, z2, z3, z4, (f1.call y3 rfl rfl).call z5 rfl rfl⟩
    rw [← z1, ← y1, nI_0]
    show fX5_remove_0b19 (fX5_remove_0l19 fu) l2 (nI u) τ = _
    unfold fX5_remove_0b19 fX5_remove_0b29
    simp only [bd_e, h19, eK, n_add1, show (nI (u + 1)).toNatClampNeg = u + 1 from nI_clamp (by omega), show (nI u).toNatClampNeg = u from nI_clamp (by omega), e1]
    rw [if_neg (fun q => absurd ((leN (by omega) (by omega)).mp q) (by omega))]
theorem fgt60_l {K9 : Int32 → Int32 → ST → Int32 × ST} {l2 : Int32} {v u : Nat} {o : Nat → Int32} (hv : v ≤ u) (hu : u < 6) : ∀ (fu d k : Nat) (τ : ST), k + d = 4 → d < fu → (∀ j i, i < 4 → τ.2.2 91 (4 * j + i) = if (v ≤ j ∧ j < u) ∨ (j = u ∧ i < k) then o (4 * j + 4 + i) else o (4 * j + i)) → ∃ τ', fX12_forget_0l60 K9 fu l2 (nI u) (nI k) τ = K9 l2 (nI (u + 1)) τ' ∧ (∀ j i, i < 4 → τ'.2.2 91 (4 * j + i) = if v ≤ j ∧ j < u + 1 then o (4 * j + 4 + i) else o (4 * j + i)) ∧ Fr [] [(91, 91)] τ τ'
  | 0, _, _, _, _, h, _ => absurd h (Nat.not_lt_zero _)
  | fu + 1, 0, k, τ, hd, _, h0 => by
    have k4 : k = 4 := by omega
    subst k4
    refine ⟨τ, ?_, fun j i hi => ?_, Fr.refl τ⟩
    · show fX12_forget_0b60 K9 (fX12_forget_0l60 K9 fu) l2 (nI u) (nI 4) τ = _
      unfold fX12_forget_0b60 fX12_forget_0b96
      rw [if_pos (show 4 ≤ nI 4 by decide)]
      simp only [bd_e, n_add1]
    · rw [h0 j i hi]
      by_cases q : v ≤ j ∧ j < u + 1
      · rw [if_pos q, if_pos (by omega)]
      · rw [if_neg q, if_neg (by omega)]
  | fu + 1, d + 1, k, τ, hd, hf, h0 => by
    have f1 : Fr [] [(91, 91)] τ (sA τ 91 (upd (τ.2.2 91) (4 * u + k) (o (4 * u + 4 + k)))) := (Fr.refl τ).putA rfl
    have e1 : τ.2.2 91 (4 * u + 4 + k) = o (4 * u + 4 + k) := by
      have z := h0 (u + 1) k (by omega)
      rw [show 4 * (u + 1) + k = 4 * u + 4 + k by omega, if_neg (by omega)] at z
      exact z
    obtain ⟨τ2, z1, z2, z3⟩ := fgt60_l (K9 := K9) (l2 := l2) (o := o) hv hu fu d (k + 1) (sA τ 91 (upd (τ.2.2 91) (4 * u + k) (o (4 * u + 4 + k)))) (by omega) (by omega) (fun j i hi => by
      rw [sA_eq]
      by_cases q : 4 * j + i = 4 * u + k
      · have q1 : j = u := by omega
        have q2 : i = k := by omega
        subst q1
        subst q2
        rw [pk_us, if_pos (by omega)]
      · rw [pk_un q, h0 j i hi]
        by_cases w : (v ≤ j ∧ j < u) ∨ (j = u ∧ i < k)
        · rw [if_pos w, if_pos (by omega)]
        · rw [if_neg w, if_neg (by omega)])
    refine ⟨τ2, ?_, z2, f1.call z3 rfl rfl⟩
    rw [← z1]
    show fX12_forget_0b60 K9 (fX12_forget_0l60 K9 fu) l2 (nI u) (nI k) τ = _
    unfold fX12_forget_0b60 fX12_forget_0b66
    rw [if_neg (show ¬ 4 ≤ nI k from fun q => absurd ((leN (a := 4) (by omega) (by omega)).mp q) (by omega))]
    simp only [bd_e, n_add1, n_4mul, n_add4, nI_add, show (nI (4 * u + 4 + k)).toNatClampNeg = 4 * u + 4 + k from nI_clamp (by omega), show (nI (4 * u + k)).toNatClampNeg = 4 * u + k from nI_clamp (by omega), e1]
theorem fgt35_l {l2 : Int32} {v K : Nat} {o p : Nat → Int32} (hK : K ≤ 6) : ∀ (fu d u : Nat) (τ : ST), u + d + 1 = K → d < fu → v ≤ u → τ.1 40 = nI (K - 1) → (∀ j, τ.2.2 90 j = if v ≤ j ∧ j < u then p (j + 1) else p j) → (∀ j i, i < 4 → τ.2.2 91 (4 * j + i) = if v ≤ j ∧ j < u then o (4 * j + 4 + i) else o (4 * j + i)) → ∃ τ', fX12_forget_0l35 fu l2 (nI u) τ = (l2, τ') ∧ τ'.1 40 = nI (K - 1) ∧ (∀ j, j < K - 1 → τ'.2.2 90 j = if v ≤ j then p (j + 1) else p j) ∧ (∀ j, j < K - 1 → ∀ i, i < 4 → τ'.2.2 91 (4 * j + i) = if v ≤ j then o (4 * j + 4 + i) else o (4 * j + i)) ∧ Fr [] [(90, 91)] τ τ'
  | 0, _, _, _, _, h, _, _, _, _ => absurd h (Nat.not_lt_zero _)
  | fu + 1, 0, u, τ, hd, _, hv, h19, hp, ho => by
    refine ⟨τ, ?_, h19, fun j hj => ?_, fun j hj i hi => ?_, Fr.refl τ⟩
    · show fX12_forget_0b35 (fX12_forget_0l35 fu) l2 (nI u) τ = _
      unfold fX12_forget_0b35 fX12_forget_0b102
      simp only [bd_e, h19]
      rw [if_pos ((leN (by omega) (by omega)).mpr (by omega))]
    · show τ.2.2 90 j = _
      rw [hp j]
      by_cases q : v ≤ j
      · rw [if_pos q, if_pos (by omega)]
      · rw [if_neg q, if_neg (by omega)]
    · show τ.2.2 91 (4 * j + i) = _
      rw [ho j i hi]
      by_cases q : v ≤ j
      · rw [if_pos q, if_pos (by omega)]
      · rw [if_neg q, if_neg (by omega)]
  | fu + 1, d + 1, u, τ, hd, hf, hv, h19, hp, ho => by
    have f1 : Fr [] [(90, 91)] τ (sA τ 90 (upd (τ.2.2 90) u (p (u + 1)))) := (Fr.refl τ).putA rfl
    have e1 : τ.2.2 90 (u + 1) = p (u + 1) := by rw [hp (u + 1), if_neg (by omega)]
    obtain ⟨τ1, y1, y2, y3⟩ := fgt60_l (K9 := fX12_forget_0l35 fu) (l2 := l2) (o := o) hv (by omega) 4096 4 0 (sA τ 90 (upd (τ.2.2 90) u (p (u + 1)))) (by omega) (by omega) (fun j i hi => by
      rw [sA_ne _ _ rfl, ho j i hi]
      by_cases q : v ≤ j ∧ j < u
      · rw [if_pos q, if_pos (by omega)]
      · rw [if_neg q, if_neg (by omega)])
    obtain ⟨τ2, z1, z2, z3, z4, z5⟩ := fgt35_l (l2 := l2) (v := v) (o := o) (p := p) hK fu d (u + 1) τ1 (by omega) (by omega) (by omega) ((y3.1 40 rfl).trans h19) (fun j => by
      rw [y3.2 90 rfl, sA_eq]
      by_cases q : j = u
      · rw [q, pk_us, if_pos (by omega)]
      · rw [pk_un q, hp j]
        by_cases w : v ≤ j ∧ j < u
        · rw [if_pos w, if_pos (by omega)]
        · rw [if_neg w, if_neg (by omega)]) y2
    refine ⟨τ2, ?_, z2, z3, z4, (f1.call y3 rfl rfl).call z5 rfl rfl⟩
    rw [← z1, ← y1, nI_0]
    show fX12_forget_0b35 (fX12_forget_0l35 fu) l2 (nI u) τ = _
    unfold fX12_forget_0b35 fX12_forget_0b43
    simp only [bd_e, h19, n_add1, show (nI (u + 1)).toNatClampNeg = u + 1 from nI_clamp (by omega), show (nI u).toNatClampNeg = u from nI_clamp (by omega), e1]
    rw [if_neg (fun q => absurd ((leN (by omega) (by omega)).mp q) (by omega))]
/-- v is a voice's number -/
theorem has_X (a : Int32) {K : Nat} {σ : ST} (h : σ.1 19 = nI K) (hK : K ≤ 6) : fX5_has_0 a σ = if PN a K then 1 else 0 := by
  simp only [fX5_has_0, fX5_has_0b0, fX5_has_0b4, fX5_has_0b12, fX5_has_0b18, fX5_has_0b22, fX5_has_0b23, bd_e, h]
  by_cases c : a < 0
  · rw [if_pos c, if_neg (fun w => w.1 c)]
  · rw [if_neg c]
    obtain ⟨n, hn, e⟩ := nI_of c
    subst e
    have key : PN (nI n) K ↔ n < K := by
      constructor
      · intro w
        obtain ⟨p, e, hp⟩ := w.nat (by omega)
        have := y_eq (by omega) (by omega) e
        omega
      · intro w
        refine ⟨c, ?_⟩
        rw [show nI K - 1 = nI (K - 1) from pk_sub (b := 1) (by omega)]
        exact fun q => absurd (y_lt (by omega) (by omega) q) (by omega)
    by_cases d : n < K
    · rw [if_neg (fun q => absurd ((leN (by omega) (by omega)).mp q) (by omega)), if_neg (show ¬ 6 ≤ nI n from fun q => absurd ((leN (a := 6) (by omega) (by omega)).mp q) (by omega)), if_pos (key.mpr d)]
    · rw [if_pos ((leN (by omega) (by omega)).mpr (by omega)), if_neg (fun w => d (key.mp w))]
theorem forget_both {σ σ1 σ2 : ST} {a v1 v2 : Int32} (hJ : JK σ) (x1 : fX11_forget_0 a σ = (v1, σ1)) (x2 : fX12_forget_0 a σ1 = (v2, σ2)) : JK σ2 ∧ v1 = v2 := by
  obtain ⟨K, k1, k2, k3, k4⟩ := hJ
  have e1 : fX11_forget_0 a σ = if PN a K then fX5_remove_0l19 4096 (σ.2.2 49 a.toNatClampNeg) a σ else (-1, σ) := by
    unfold fX11_forget_0 fX11_forget_0b0 fX11_forget_0b11 fX11_forget_0b22 fX11_forget_0b23 fX5_remove_0 fX5_remove_0b0 fX5_remove_0b8 fX5_remove_0b10
    simp only [bd_e, bp_e, has_X a k2 k1, ite01]
    by_cases c : PN a K
    · rw [if_neg (fun w => w c), if_neg (fun w => w c), if_pos c]
    · rw [if_pos c, if_neg c]
  have e2 : ∀ τ : ST, τ.1 40 = nI K → fX12_forget_0 a τ = if PN a K then fX12_forget_0l35 4096 (τ.2.2 90 a.toNatClampNeg) a (sI τ 40 (nI K - 1)) else (-1, τ) := fun τ ht => by
    unfold fX12_forget_0 fX12_forget_0b0 fX12_forget_0b14 fX12_forget_0b16
    simp only [bd_e, ht, in_M, ite01]
    by_cases c : PN a K
    · rw [if_neg (fun w => w c), if_pos c]
    · rw [if_pos c, if_neg c]
  rw [e1] at x1
  by_cases c : PN a K
  · rw [if_pos c] at x1
    obtain ⟨v, rfl, hv⟩ := c.nat (by omega)
    have nv : (nI v).toNatClampNeg = v := nI_clamp (by omega)
    rw [nv] at x1
    obtain ⟨τ', y1, y2, y3, y4, y5⟩ := rem19_l (l2 := σ.2.2 49 v) (v := v) (K := K) (o := σ.2.2 50) (p := σ.2.2 49) k1 4096 (K - v - 1) v σ (by omega) (by omega) (Nat.le_refl _) k2 (fun j => by rw [if_neg (by omega)]) (fun j i _ => by rw [if_neg (by omega)])
    rw [y1] at x1
    have er := pin1 x1
    have es := pin2 x1
    subst es
    have t40 : τ'.1 40 = nI K := by rw [y5.1 40 rfl, k3]
    have eK : nI K - 1 = nI (K - 1) := pk_sub (b := 1) (by omega)
    rw [e2 τ' t40, if_pos c, nv, eK] at x2
    obtain ⟨τ2, z1, z2, z3, z4, z5⟩ := fgt35_l (l2 := τ'.2.2 90 v) (v := v) (K := K) (o := τ'.2.2 91) (p := τ'.2.2 90) k1 4096 (K - v - 1) v (sI τ' 40 (nI (K - 1))) (by omega) (by omega) (Nat.le_refl _) (sI_eq _ _ _) (fun j => by rw [if_neg (by omega)]; rfl) (fun j i _ => by rw [if_neg (by omega)]; rfl)
    rw [z1] at x2
    have er2 := pin1 x2
    have es2 := pin2 x2
    subst es2
    refine ⟨⟨K - 1, by omega, ?_, z2, fun w hw => ?_⟩, ?_⟩
    · rw [z5.1 19 rfl, sI_ne _ _ rfl]
      exact y2
    · have p49 : τ2.2.2 49 = τ'.2.2 49 := by rw [z5.2 49 rfl, sI_22]
      have p50 : τ2.2.2 50 = τ'.2.2 50 := by rw [z5.2 50 rfl, sI_22]
      rw [p49, p50, z3 w hw, y3 w hw, y5.2 90 rfl]
      by_cases q : v ≤ w
      · rw [if_pos q, if_pos q]
        obtain ⟨j1, j2⟩ := k4 (w + 1) (by omega)
        refine ⟨j1, fun i hi => ?_⟩
        obtain ⟨m, m1, m2, m3⟩ := j2 i hi
        refine ⟨m, m1, ?_, ?_⟩
        · rw [y4 w hw i hi, if_pos q]
          exact m2
        · rw [z4 w hw i hi, if_pos q, y5.2 91 rfl, show 4 * w + 4 + i = 4 * (w + 1) + i by omega]
          exact m3
      · rw [if_neg q, if_neg q]
        obtain ⟨j1, j2⟩ := k4 w (by omega)
        refine ⟨j1, fun i hi => ?_⟩
        obtain ⟨m, m1, m2, m3⟩ := j2 i hi
        refine ⟨m, m1, ?_, ?_⟩
        · rw [y4 w hw i hi, if_neg q]
          exact m2
        · rw [z4 w hw i hi, if_neg q, y5.2 91 rfl]
          exact m3
    · rw [← er, ← er2, y5.2 90 rfl]
      exact (k4 v hv).1.symm
  · rw [if_neg c] at x1
    have es := pin2 x1
    subst es
    rw [e2 σ k3, if_neg c] at x2
    rw [← pin2 x2, ← pin1 x1, ← pin1 x2]
    exact ⟨⟨K, k1, k2, k3, k4⟩, rfl⟩
