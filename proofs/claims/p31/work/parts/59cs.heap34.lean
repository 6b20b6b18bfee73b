/-! rows and rules that change: the class's heaps are old then -/
theorem JHEAP.fr {I J : List (Nat × Nat)} {σ τ : ST} (h : JHEAP σ) (f : Fr I J σ τ) (h1 : subR I kII = true) (h2 : subR J (kAA 9999) = true) : JHEAP τ := by
  have g : Fr kII (kAA 9999) σ τ := f.wide h1 h2
  have b : Fr kII (kAA 9999) τ σ := ⟨fun k e => (g.1 k e).symm, fun k e => (g.2 k e).symm⟩
  intro q
  obtain ⟨k1, k2⟩ := h ((g.1 23 rfl).symm.trans q)
  exact ⟨(g.1 22 rfl).trans k1, fun V H c c1 N r2 r3 r4 hF => (k2 V H c c1 N r2 r3 r4 (hF.fr b rfl)).fr g rfl rfl⟩
theorem JNEAR.fr {I J : List (Nat × Nat)} {σ τ : ST} (h : JNEAR σ) (f : Fr I J σ τ) (h1 : subR I kII = true) (h2 : subR J (kAA 9999) = true) (hl : LQ (σ.2.1 0) (σ.2.1 1) τ) : JNEAR τ := by
  have g : Fr kII (kAA 9999) σ τ := f.wide h1 h2
  have b : Fr kII (kAA 9999) τ σ := ⟨fun k e => (g.1 k e).symm, fun k e => (g.2 k e).symm⟩
  intro q
  obtain ⟨k1, k2⟩ := h ((g.1 24 rfl).symm.trans q)
  exact ⟨(g.1 23 rfl).trans k1, fun V H c c1 N r2 r3 r4 hF => (k2 V H c c1 N r2 r3 r4 (hF.fr b rfl)).fr g rfl hl⟩
/-- the class's heaps and near ones -/
def JHN (σ : ST) : Prop := JHEAP σ ∧ JNEAR σ
theorem JHN.fr {I J : List (Nat × Nat)} {σ τ : ST} (h : JHN σ) (f : Fr I J σ τ) (h1 : subR I kII = true) (h2 : subR J (kAA 9999) = true) (hl : LQ (σ.2.1 0) (σ.2.1 1) τ) : JHN τ := ⟨h.1.fr f h1 h2, h.2.fr f h1 h2 hl⟩
theorem hn_old {σ : ST} (h3 : σ.1 23 = 1) (h4 : σ.1 24 = 1) : JHN σ := ⟨fun q => absurd (h3.symm.trans q) (by decide), fun q => absurd (h4.symm.trans q) (by decide)⟩
theorem sndP {α : Type} {P : ST → Prop} {x : α × ST} {r : α} {τ : ST} (h : P x.2) (e : x = (r, τ)) : P τ := by
  rw [e] at h
  exact h
theorem nf23 (σ : ST) : (fX11_nothingIsFound_0 σ).1 23 = 1 ∧ (fX11_nothingIsFound_0 σ).1 24 = 1 := by
  unfold fX11_nothingIsFound_0 fX11_nothingIsFound_0b0
  simp only [bd_e]
  exact ⟨(sI_ne _ _ rfl).trans (sI_eq _ _ _), sI_eq _ _ _⟩
theorem deaf23 : ∀ (fu : Nat) (a b : Int32) (τ : ST), (fX11_deaf_0l35 fu a b τ).2.1 23 = τ.1 23 ∧ (fX11_deaf_0l35 fu a b τ).2.1 24 = τ.1 24
  | 0, _, _, _ => ⟨rfl, rfl⟩
  | fu + 1, a, b, τ => by
    have e : fX11_deaf_0l35 (fu + 1) a b τ = if a ≤ b then (τ.1 2, τ) else fX11_deaf_0l35 fu a (b + 1) (fX7_addDeaf_0 τ).2 := by
      show fX11_deaf_0b35 (fX11_deaf_0l35 fu) a b τ = _
      unfold fX11_deaf_0b35 fX11_deaf_0b54 fX11_deaf_0b40
      simp only [bd_e, bp_e]
    rw [e]
    by_cases c : a ≤ b
    · rw [if_pos c]
      exact ⟨rfl, rfl⟩
    · obtain ⟨k1, k2⟩ := deaf23 fu a (b + 1) (fX7_addDeaf_0 τ).2
      rw [if_neg c, k1, k2]
      exact ⟨fr_fX7_addDeaf_0.1 23 rfl, fr_fX7_addDeaf_0.1 24 rfl⟩
theorem hn_row {σ σ1 : ST} {a b c d r1 : Int32} (h : JHN σ) (x1 : fX11_row_0 a b c d σ = (r1, σ1)) : JHN σ1 := by
  rw [row_X] at x1
  by_cases c1 : LD4 a b c d
  · rw [if_pos c1] at x1
    by_cases c2 : σ.1 2 < 48
    · rw [if_pos c2] at x1
      have e : σ1 = (fX7_addRow_0 a b c d (fX11_nothingIsFound_0 σ)).2 := (congrArg Prod.snd x1).symm
      obtain ⟨n3, n4⟩ := nf23 σ
      rw [e]
      exact hn_old ((fr_fX7_addRow_0.1 23 rfl).trans n3) ((fr_fX7_addRow_0.1 24 rfl).trans n4)
    · rw [if_neg c2] at x1
      rw [← pin2 x1]
      exact h
  · rw [if_neg c1] at x1
    rw [← pin2 x1]
    exact h
theorem hn_deaf {σ σ1 : ST} {a r1 : Int32} (h : JHN σ) (x1 : fX11_deaf_0 a σ = (r1, σ1)) : JHN σ1 := by
  rw [deaf_X] at x1
  by_cases c1 : DFi a
  · rw [if_pos c1] at x1
    by_cases c2 : σ.1 2 + a ≤ 48
    · rw [if_pos c2] at x1
      have e : σ1 = (fX11_deaf_0l35 4096 a 0 (fX11_nothingIsFound_0 σ)).2 := (congrArg Prod.snd x1).symm
      obtain ⟨n3, n4⟩ := nf23 σ
      obtain ⟨k1, k2⟩ := deaf23 4096 a 0 (fX11_nothingIsFound_0 σ)
      rw [e]
      exact hn_old (k1.trans n3) (k2.trans n4)
    · rw [if_neg c2] at x1
      rw [← pin2 x1]
      exact h
  · rw [if_neg c1] at x1
    rw [← pin2 x1]
    exact h
theorem hn_hush {σ σ1 : ST} {r1 : Int32} (x1 : fX11_hush_0 σ = (r1, σ1)) : JHN σ1 := by
  simp only [fX11_hush_0, fX11_hush_0b0, bd_e] at x1
  rw [← pin2 x1]
  exact hn_old (nf23 _).1 (nf23 _).2
theorem hn_out {σ σ1 : ST} {a b o r1 : Int32} (hR : JR σ) (h : JHN σ) (x1 : fX11_out_0 a b o σ = (r1, σ1)) : JHN σ1 := by
  obtain ⟨R, hR48, h2, _, _⟩ := hR
  rw [out_X h2 hR48] at x1
  by_cases c1 : AR a b R ∧ ¬ o < 0 ∧ ¬ 1 < o
  · rw [if_pos c1] at x1
    obtain ⟨f, t, rfl, rfl, hft, htR⟩ := c1.1.nat hR48
    obtain ⟨τ', e1, e2⟩ := setOut_X h2 hR48 hft htR (OUTv_n o)
    have fs : Fr [] [(5, 5)] σ (fX7_setOut_0 (nI f) (nI t) (OUTv o) σ).2 := fr_fX7_setOut_0
    have fl : LQ (σ.2.1 0) (σ.2.1 1) (fX7_setOut_0 (nI f) (nI t) (OUTv o) σ).2 := lq_fX7_setOut_0 ⟨rfl, rfl⟩
    rw [e1] at x1 fs fl
    have cl := cntN_le (f := σ.2.2 5) (v := OUTv o) (t + 1 - f) f
    by_cases c2 : nI (cntN (σ.2.2 5) (OUTv o) f (t + 1 - f)) ≤ 0
    · have c3 := (leN (b := 0) (by omega) (by omega)).mp c2
      have c4 := cntN_0 (f := σ.2.2 5) (v := OUTv o) (t + 1 - f) f (by omega)
      rw [if_pos (show (nI (cntN (σ.2.2 5) (OUTv o) f (t + 1 - f)), τ').1 ≤ 0 from c2)] at x1
      have e : σ1 = τ' := (pin2 x1).symm
      rw [e]
      refine h.fr (I := []) (J := []) ⟨fs.1, fun k _ => ?_⟩ rfl rfl fl
      by_cases q : k = 5
      · subst q
        exact e2.trans c4
      · refine fs.2 k ?_
        show (Nat.ble 5 k && Nat.ble k 5 || false) = false
        rcases Nat.lt_or_ge k 5 with w | w
        · have z : Nat.ble 5 k = false := by
            cases hb : Nat.ble 5 k
            · rfl
            · exact absurd (Nat.le_of_ble_eq_true hb) (by omega)
          rw [z]
          rfl
        · have z : Nat.ble k 5 = false := by
            cases hb : Nat.ble k 5
            · rfl
            · exact absurd (Nat.le_of_ble_eq_true hb) (by omega)
          rw [z, Bool.and_false]
          rfl
    · rw [if_neg (show ¬ (nI (cntN (σ.2.2 5) (OUTv o) f (t + 1 - f)), τ').1 ≤ 0 from c2)] at x1
      rw [← pin2 x1]
      exact hn_old (nf23 _).1 (nf23 _).2
  · rw [if_neg c1] at x1
    rw [← pin2 x1]
    exact h
theorem hn_rules {σ σ1 : ST} {r1 : Int32} (hT : JT σ) (h : JHN σ) (x1 : fX11_rules_0 σ = (r1, σ1)) : JHN σ1 := by
  obtain ⟨t, T, hx, hm⟩ := hT
  have rX := read_X hx
  have hTT := hx.2.1
  rw [rules_X] at x1
  have q1 := pin2 x1
  by_cases c : (fX8_read_0 σ).1 < 0
  · rw [if_pos c] at q1
    rw [← q1]
    rcases rX with ⟨m, td', g1, g2, g3, g4, g5⟩ | ⟨g1, a, ha, g2, g3, g4⟩
    · rw [g2] at c
      exact absurd c (nI_pos (by omega))
    · have fs : Fr [(0, 1)] [(1, 2)] σ (fX8_read_0 σ).2 := fr_fX8_read_0
      refine h.fr (I := [(0, 1)]) (J := [(2, 2)]) ⟨fs.1, fun k hk => ?_⟩ rfl rfl (lq_fX8_read_0 ⟨rfl, rfl⟩)
      by_cases q : k = 1
      · subst q
        exact g4
      · refine fs.2 k ?_
        have hk' : (Nat.ble 2 k && Nat.ble k 2 || false) = false := hk
        show (Nat.ble 1 k && Nat.ble k 2 || false) = false
        rcases Nat.lt_or_ge k 2 with w | w
        · have z : Nat.ble 1 k = false := by
            cases hb : Nat.ble 1 k
            · rfl
            · exact absurd (Nat.le_of_ble_eq_true hb) (by omega)
          rw [z]
          rfl
        · have z : Nat.ble 2 k = true := Nat.ble_eq.mpr w
          rw [z] at hk'
          cases hb : Nat.ble k 2
          · rw [Bool.and_false]
            rfl
          · rw [hb] at hk'
            exact absurd hk' (by decide)
  · rw [if_neg c] at q1
    rw [← q1]
    exact hn_old (nf23 _).1 (nf23 _).2
theorem js_hush {σ σ1 σ2 : ST} {r1 r2 : Int32} (x1 : fX11_hush_0 σ = (r1, σ1)) (x2 : fX12_hush_0 σ1 = (r2, σ2)) (f2 : Fr [(31, 32), (34, 34)] [] σ1 σ2) : JS σ2 := by
  simp only [fX11_hush_0, fX11_hush_0b0, bd_e] at x1
  simp only [fX12_hush_0, fX12_hush_0b0, bd_e] at x2
  refine Or.inl ⟨?_, ?_⟩
  · rw [← pin2 x2, sI_eq]
  · rw [f2.1 21 rfl, ← pin2 x1, (nf_X _).2 21 (by omega), sI_eq]
/-- longs 2 and 3: the traces -/
def LTG (a b : Int64) (σ : ST) : Prop := σ.2.1 2 = a ∧ σ.2.1 3 = b
def LT3 (a : Int64) (σ : ST) : Prop := σ.2.1 3 = a
theorem dfc_l {R : Nat} {σ : ST} (hR : R ≤ 48) (h2 : σ.1 2 = nI R) (h31 : σ.1 31 = nI R) (he : ∀ r, r < R → σ.2.2 69 r = σ.2.2 4 r) : ∀ (fu d r : Nat) (v : Int32), r + d = R → d < fu → fX7_deafRows_0l4 fu v (nI r) σ = fX12_count_0l47 fu v (nI r) σ
  | 0, _, _, _, _, h => absurd h (Nat.not_lt_zero _)
  | fu + 1, 0, r, v, hd, _ => by
    show fX7_deafRows_0b4 (fX7_deafRows_0l4 fu) v (nI r) σ = fX12_count_0b47 (fX12_count_0l47 fu) v (nI r) σ
    unfold fX7_deafRows_0b4 fX12_count_0b47 fX7_deafRows_0b35 fX12_count_0b78
    simp only [bd_e, h2, h31]
    have c : nI R ≤ nI r := (leN (by omega) (by omega)).mpr (by omega)
    rw [if_pos c, if_pos c]
  | fu + 1, d + 1, r, v, hd, hf => by
    show fX7_deafRows_0b4 (fX7_deafRows_0l4 fu) v (nI r) σ = fX12_count_0b47 (fX12_count_0l47 fu) v (nI r) σ
    unfold fX7_deafRows_0b4 fX12_count_0b47 fX7_deafRows_0b12 fX12_count_0b55 fX7_deafRows_0b26 fX7_deafRows_0b22 fX7_deafRows_0b27 fX12_count_0b69 fX12_count_0b65 fX12_count_0b70
    simp only [bd_e, h2, h31, n_add1, show (nI r).toNatClampNeg = r from nI_clamp (by omega), he r (by omega)]
    have c : ¬ nI R ≤ nI r := fun q => absurd ((leN (by omega) (by omega)).mp q) (by omega)
    rw [if_neg c, if_neg c]
    by_cases z : σ.2.2 4 r = 0
    · rw [if_pos z, if_pos z]
      exact dfc_l hR h2 h31 he fu d (r + 1) _ (by omega) (by omega)
    · rw [if_neg z, if_neg z]
      exact dfc_l hR h2 h31 he fu d (r + 1) _ (by omega) (by omega)
theorem ouc_l {R : Nat} {σ : ST} (hR : R ≤ 48) (h2 : σ.1 2 = nI R) (h31 : σ.1 31 = nI R) (he : ∀ r, r < R → σ.2.2 70 r = σ.2.2 5 r) : ∀ (fu d r : Nat) (v : Int32), r + d = R → d < fu → fX7_outRows_0l4 fu v (nI r) σ = fX12_count_0l82 fu v (nI r) σ
  | 0, _, _, _, _, h => absurd h (Nat.not_lt_zero _)
  | fu + 1, 0, r, v, hd, _ => by
    show fX7_outRows_0b4 (fX7_outRows_0l4 fu) v (nI r) σ = fX12_count_0b82 (fX12_count_0l82 fu) v (nI r) σ
    unfold fX7_outRows_0b4 fX12_count_0b82 fX7_outRows_0b35 fX12_count_0b113
    simp only [bd_e, h2, h31]
    have c : nI R ≤ nI r := (leN (by omega) (by omega)).mpr (by omega)
    rw [if_pos c, if_pos c]
  | fu + 1, d + 1, r, v, hd, hf => by
    show fX7_outRows_0b4 (fX7_outRows_0l4 fu) v (nI r) σ = fX12_count_0b82 (fX12_count_0l82 fu) v (nI r) σ
    unfold fX7_outRows_0b4 fX12_count_0b82 fX7_outRows_0b12 fX12_count_0b90 fX7_outRows_0b26 fX7_outRows_0b22 fX7_outRows_0b27 fX12_count_0b104 fX12_count_0b100 fX12_count_0b105
    simp only [bd_e, h2, h31, n_add1, show (nI r).toNatClampNeg = r from nI_clamp (by omega), he r (by omega)]
    have c : ¬ nI R ≤ nI r := fun q => absurd ((leN (by omega) (by omega)).mp q) (by omega)
    rw [if_neg c, if_neg c]
    by_cases z : σ.2.2 5 r = 0
    · rw [if_pos z, if_pos z]
      exact ouc_l hR h2 h31 he fu d (r + 1) _ (by omega) (by omega)
    · rw [if_neg z, if_neg z]
      exact ouc_l hR h2 h31 he fu d (r + 1) _ (by omega) (by omega)
theorem count_eq {σ : ST} {a r1 r2 : Int32} (hR : JRW σ) (hT : JT σ) (hK : JK σ) (x1 : fX11_count_0 a σ = r1) (x2 : fX12_count_0 a σ = r2) : r1 = r2 := by
  obtain ⟨⟨R, hR48, h2, h31, hr⟩, ⟨W, _, w1, w2, _⟩⟩ := hR
  obtain ⟨t, T, hx, hm⟩ := hT
  obtain ⟨K, _, k2, k3, _⟩ := hK
  have c1 : fX7_deafRows_0 σ = fX12_count_0l47 4096 0 0 σ := by
    have z := dfc_l hR48 h2 h31 (fun r h => (hr r h).2.1) 4096 R 0 0 (by omega) (by omega)
    rw [nI_0] at z
    unfold fX7_deafRows_0 fX7_deafRows_0b0
    exact z
  have c2 : fX7_outRows_0 σ = fX12_count_0l82 4096 0 0 σ := by
    have z := ouc_l hR48 h2 h31 (fun r h => (hr r h).2.2.2.1) 4096 R 0 0 (by omega) (by omega)
    rw [nI_0] at z
    unfold fX7_outRows_0 fX7_outRows_0b0
    exact z
  rw [← x1, ← x2]
  unfold fX11_count_0 fX11_count_0b0 fX12_count_0 fX12_count_0b0 fX11_count_0b40 fX11_count_0b48 fX11_count_0b56 fX11_count_0b64 fX11_count_0b72 fX11_count_0b80 fX11_count_0b88 fX12_count_0b40 fX12_count_0b45 fX12_count_0b80 fX12_count_0b115 fX12_count_0b120 fX12_count_0b125 fX12_count_0b130
  simp only [bd_e, h2, h31, w1, w2, hx.1, hm.1, k2, k3, c1, c2]
