/-! heapNow -/
theorem ruleNow_X {k : Nat} (hk : k < 6) (σ : ST) : fX8_ruleNow_0 (nI k) σ = σ.2.2 1 k := by
  unfold fX8_ruleNow_0 fX8_ruleNow_0b0 fX8_ruleNow_0b4 fX8_ruleNow_0b10 fX8_ruleNow_0b20
  simp only [bd_e, show (nI k).toNatClampNeg = k from nI_clamp (by omega)]
  rw [if_neg (nI_pos (by omega)), if_neg (show ¬ 6 ≤ nI k from fun q => absurd ((leN (a := 6) (by omega) (by omega)).mp q) (by omega))]
noncomputable def HGO (r2 r4 : Int32) (s : ST) : ST := sI (fX1_join_0 (fX4_findMiddles_0 (fX0_findBest_0 (fX1_tie_0 r2 r4 s)))) 23 0
abbrev hgI : List (Nat × Nat) := [(3, 4), (9, 12), (14, 18), (23, 23)]
abbrev hgA : List (Nat × Nat) := [(8, 11), (21, 29), (31, 47)]
theorem heapGo {V : Nat → Nat} {H : Nat → Bool} {c c1 N r2 r3 r4 : Nat} {s : ST} (hF : FX V H c c1 N r2 r3 r4 s) (hX : CUTX V H c N s) (hn : (CUT V H c N).1.1 ≤ 9) : HPX V H c N r2 r4 (HGO (nI r2) (nI r4) s) ∧ Fr [(3, 4), (9, 12), (14, 18), (23, 23)] [(8, 11), (21, 29), (31, 47)] s (HGO (nI r2) (nI r4) s) := by
  obtain ⟨_, k2, _, k4, _, _, _, _, _, hR⟩ := hF
  have hN := hR.1
  obtain ⟨t1, t2⟩ := tie_X (r2 := nI r2) (r4 := nI r4) (L := LKc V H c N r2 r4) hn hX.1.1 (fun x y hx hy => LK_val hX hR hx hy)
  have hs : ∀ x y, x < (CUT V H c N).1.1 → y < (CUT V H c N).1.1 → LKc V H c N r2 r4 x y = LKc V H c N r2 r4 y x := fun x y _ _ => LKv_comm V _ r2 r4 x y
  obtain ⟨b1, b2⟩ := findBest_X hn (WO_bound hn (fun x y hx hy => LKv_bound hX hR k2 k4 hx hy)) t1
  have fb : Fr _ _ (fX1_tie_0 (nI r2) (nI r4) s) (fX0_findBest_0 (fX1_tie_0 (nI r2) (nI r4) s)) := fr_fX0_findBest_0
  have hRG := BEST_RG (LKc V H c N r2 r4) (CUT V H c N).1.1
  obtain ⟨_, e10, e41⟩ := b1.1 (BEST_t _ _)
  generalize g1 : fX1_tie_0 (nI r2) (nI r4) s = s1 at *
  generalize g2 : fX0_findBest_0 s1 = s2 at *
  have f2 : Fr [(3, 4), (9, 12), (14, 18), (23, 23)] [(8, 11), (21, 29), (31, 47)] s s2 := (t2.wide rfl rfl).call fb rfl rfl
  have hM : FMS V H c c1 N (BSc V H c N r2 r4).2.2 s2 := ⟨hR.fr f2 rfl, hn, fun r hr => by rw [f2.2 17 rfl]; exact hX.1.2.2 r hr, fun q hq => ⟨e41 q hq, Nat.lt_of_lt_of_le (hpi_lt _ q hq) (Nat.le_trans (RG.le _ hRG) hn)⟩⟩
  obtain ⟨m1, m2⟩ := findMiddles_X hRG e10 hM
  generalize g3 : fX4_findMiddles_0 s2 = s3 at *
  have T3 := b2.fr' hn m2 rfl rfl rfl
  obtain ⟨j1, j2⟩ := join_X hn hs T3.1 T3.2.1
  generalize g4 : fX1_join_0 s3 = s4 at *
  have e : HGO (nI r2) (nI r4) s = sI s4 23 0 := by
    unfold HGO
    rw [g1, g2, g3, g4]
  have f5 : Fr [(23, 23)] [] s4 (sI s4 23 0) := (Fr.refl s4).putI rfl
  rw [e]
  refine ⟨⟨hn, (T3.fr' hn j2 rfl rfl rfl).fr' hn f5 rfl rfl rfl, ((b1.fr m2 rfl rfl rfl).fr j2 rfl rfl rfl).fr f5 rfl rfl rfl, ?_, j1.fr f5 rfl rfl rfl⟩, ((f2.call m2 rfl rfl).call j2 rfl rfl).call f5 rfl rfl⟩
  rw [f5.2 43 rfl, j2.2 43 rfl]
  exact m1
theorem heapNow_e {n : Nat} {σ : ST} (h5 : (fX11_cutNow_0 σ).1 5 = nI n) (hn : n ≤ 48) : fX11_heapNow_0 σ = if n ≤ 9 then (if (fX11_cutNow_0 σ).1 23 = 0 then (1, fX11_cutNow_0 σ) else (1, HGO ((fX11_cutNow_0 σ).2.2 1 2) ((fX11_cutNow_0 σ).2.2 1 4) (fX11_cutNow_0 σ))) else (0, fX11_cutNow_0 σ) := by
  have r2 := ruleNow_X (k := 2) (by omega) (fX11_cutNow_0 σ)
  have r4 := ruleNow_X (k := 4) (by omega) (fX11_cutNow_0 σ)
  have z2 : (2 : Int32) = nI 2 := rfl
  have z4 : (4 : Int32) = nI 4 := rfl
  unfold fX11_heapNow_0 fX11_heapNow_0b0 fX11_heapNow_0b16 fX11_heapNow_0b18 fX11_heapNow_0b25 fX11_heapNow_0b101 HGO
  simp only [bd_e, h5, leN (a := n) (b := 9) (by omega) (by omega), show nI n ≤ (9 : Int32) ↔ n ≤ 9 from leN (b := 9) (by omega) (by omega), z2, z4, r2, r4]
theorem kh_fX11_cutNow_0 {σ : ST} (h : KHP σ) : KHP (fX11_cutNow_0 σ) := by
  by_cases q : σ.1 22 = 0
  · rw [cutNow_id q]
    exact h
  · obtain ⟨k1, k2, k3⟩ := cutNow_X h.1
    refine ⟨k1, fun w => ?_, fun w => ?_⟩
    · rw [k3.1 23 rfl] at w
      exact absurd (h.2.1 w).1 q
    · rw [k3.1 24 rfl] at w
      exact absurd (h.2.1 (h.2.2 w).1).1 q
theorem FX.of_kcu {V : Nat → Nat} {H : Nat → Bool} {c c1 N r2 r3 r4 : Nat} {σ : ST} (h : KCU σ) (h22 : σ.1 22 = 0) (hF : FX V H c c1 N r2 r3 r4 σ) : CUTX V H c N σ := h.2 h22 V H c c1 N hF.1 hF.2.2.2.2.1 hF.2.2.2.2.2.1 hF.2.2.2.2.2.2.2.2.2
/-- heapNow's answer and state -/
theorem heapNow_X {V : Nat → Nat} {H : Nat → Bool} {c c1 N r2 r3 r4 : Nat} {σ : ST} (h : KHP σ) (hF : FX V H c c1 N r2 r3 r4 σ) : KHP (fX11_heapNow_0 σ).2 ∧ ((CUT V H c N).1.1 ≤ 9 → (fX11_heapNow_0 σ).1 = 1 ∧ HPX V H c N r2 r4 (fX11_heapNow_0 σ).2 ∧ (fX11_heapNow_0 σ).2.1 23 = 0) ∧ (9 < (CUT V H c N).1.1 → (fX11_heapNow_0 σ).1 = 0) ∧ CUTX V H c N (fX11_heapNow_0 σ).2 ∧ Fr [(3, 12), (14, 18), (22, 23)] [(8, 19), (21, 29), (31, 47)] σ (fX11_heapNow_0 σ).2 := by
  obtain ⟨k1, k2, k3⟩ := cutNow_X h.1
  have kh := kh_fX11_cutNow_0 h
  have hF1 := hF.fr k3 rfl
  have hX := hF1.of_kcu k1 k2
  have hn48 := hX.2.2.2.2
  rw [heapNow_e hX.1.1 hn48]
  generalize gs : fX11_cutNow_0 σ = s at *
  by_cases hn : (CUT V H c N).1.1 ≤ 9
  · rw [if_pos hn]
    by_cases q : s.1 23 = 0
    · rw [if_pos q]
      exact ⟨kh, fun _ => ⟨rfl, (kh.2.1 q).2 V H c c1 N r2 r3 r4 hF1, q⟩, fun w => absurd hn (by omega), hX, k3.wide rfl rfl⟩
    · rw [if_neg q]
      have e2 := hF1.2.2.2.2.2.2.1
      have e4 := hF1.2.2.2.2.2.2.2.2.1
      rw [e2, e4]
      obtain ⟨g1, g2⟩ := heapGo hF1 hX hn
      have g3 : (HGO (nI r2) (nI r4) s).1 23 = 0 := sI_eq _ _ _
      have g4 : (HGO (nI r2) (nI r4) s).1 22 = 0 := (g2.1 22 rfl).trans k2
      have bk : Fr [(3, 4), (9, 12), (14, 18), (23, 23)] [(8, 11), (21, 29), (31, 47)] (HGO (nI r2) (nI r4) s) s := ⟨fun k e => (g2.1 k e).symm, fun k e => (g2.2 k e).symm⟩
      refine ⟨⟨k1.fr g2 rfl rfl, fun _ => ⟨g4, fun V' H' c' c1' N' r2' r3' r4' hF' => ?_⟩, fun w => ?_⟩, fun _ => ⟨rfl, g1, g3⟩, fun w => absurd hn (by omega), hX.fr g2 rfl, (k3.wide rfl rfl).call g2 rfl rfl⟩
      · have hFs := hF'.fr bk rfl
        have hX' := hFs.of_kcu k1 k2
        have en : (CUT V' H' c' N').1.1 = (CUT V H c N).1.1 := by
          have z1 := hX'.2.2.2.2
          exact y_eq (by omega) (by omega) (hX'.1.1.symm.trans hX.1.1)
        have z := (heapGo hFs hX' (by omega)).1
        obtain ⟨_, _, _, _, _, _, e2', _, e4', _⟩ := hFs
        rw [← e2', ← e4', e2, e4] at z
        exact z
      · rw [show ((1 : Int32), HGO (nI r2) (nI r4) s).2 = HGO (nI r2) (nI r4) s from rfl, g2.1 24 rfl] at w
        exact absurd (kh.2.2 w).1 q
  · rw [if_neg hn]
    exact ⟨kh, fun w => absurd w hn, fun _ => rfl, hX, k3.wide rfl rfl⟩
