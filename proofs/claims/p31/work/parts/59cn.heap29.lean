/-! sure's state; both sides' best, behind any call of the class -/
theorem sure_X (p q : Int32) (σ : ST) : fX11_sure_0 p q σ = if (fX11_isPiece_0 p σ).1 = 0 then (-1, (fX11_isPiece_0 p σ).2) else if (fX11_isPiece_0 q (fX11_isPiece_0 p σ).2).1 = 0 then (-1, (fX11_isPiece_0 q (fX11_isPiece_0 p σ).2).2) else if p = q then (-1, (fX11_isPiece_0 q (fX11_isPiece_0 p σ).2).2) else if (fX11_heapNow_0 (fX11_isPiece_0 q (fX11_isPiece_0 p σ).2).2).1 = 0 then (-2, (fX11_heapNow_0 (fX11_isPiece_0 q (fX11_isPiece_0 p σ).2).2).2) else (fX0_sureness_0 p q (fX11_nearNow_0 (fX11_heapNow_0 (fX11_isPiece_0 q (fX11_isPiece_0 p σ).2).2).2), fX11_nearNow_0 (fX11_heapNow_0 (fX11_isPiece_0 q (fX11_isPiece_0 p σ).2).2).2) := by
  unfold fX11_sure_0 fX11_sure_0b0 fX11_sure_0b8 fX11_sure_0b16 fX11_sure_0b23 fX11_sure_0b30 fX11_sure_0b33 fX11_sure_0b21
  simp only [bd_e, bp_e]
theorem kn_fX11_sure_0 {p q : Int32} {σ : ST} (h : KH σ) : KH (fX11_sure_0 p q σ).2 := by
  have k1 := kn_fX11_isPiece_0 (p1 := p) h
  have k2 := kn_fX11_isPiece_0 (p1 := q) k1
  rw [sure_X]
  by_cases c1 : (fX11_isPiece_0 p σ).1 = 0
  · rw [if_pos c1]
    exact k1
  · rw [if_neg c1]
    generalize (fX11_isPiece_0 q (fX11_isPiece_0 p σ).2).2 = s at *
    by_cases c2 : (fX11_isPiece_0 q (fX11_isPiece_0 p σ).2).1 = 0
    · rw [if_pos c2]
      exact k2
    · rw [if_neg c2]
      by_cases c3 : p = q
      · rw [if_pos c3]
        exact k2
      · rw [if_neg c3]
        by_cases c4 : (fX11_heapNow_0 s).1 = 0
        · rw [if_pos c4]
          exact kn_fX11_heapNow_0 k2
        · rw [if_neg c4]
          exact kn_near (kn_fX11_heapNow_0 k2) (heapNow_1 k2 c4)
/-- rows and rules of both sides -/
def FB (V : Nat → Nat) (H : Nat → Bool) (c c1 N r2 r3 r4 r5 : Nat) (σ : ST) : Prop := FACT V H c c1 N σ ∧ FX V H c c1 N r2 r3 r4 σ ∧ r5 ≤ 399 ∧ σ.2.2 1 5 = nI r5 ∧ σ.2.2 66 2 = nI r2 ∧ σ.2.2 66 3 = nI r3 ∧ σ.2.2 66 4 = nI r4 ∧ σ.2.2 66 5 = nI r5
theorem fb_of {σ : ST} (hR : JR σ) (hU : JU σ) : ∃ V H c c1 N r2 r3 r4 r5, FB V H c c1 N r2 r3 r4 r5 σ := by
  obtain ⟨V, H, c, c1, N, hF⟩ := fact_of hR hU
  obtain ⟨r2, a2, b2, d2⟩ := hU 2 (by omega)
  obtain ⟨r3, a3, b3, d3⟩ := hU 3 (by omega)
  obtain ⟨r4, a4, b4, d4⟩ := hU 4 (by omega)
  obtain ⟨r5, a5, b5, d5⟩ := hU 5 (by omega)
  exact ⟨V, H, c, c1, N, r2, r3, r4, r5, hF, ⟨hF.1, a2, a3, a4, hF.2.2.1, hF.2.2.2.1, b2, b3, b4, hF.2.2.2.2.1⟩, a5, b5, d2, d3, d4, d5⟩
theorem FB.fr {V : Nat → Nat} {H : Nat → Bool} {c c1 N r2 r3 r4 r5 : Nat} {I J : List (Nat × Nat)} {σ τ : ST} (h : FB V H c c1 N r2 r3 r4 r5 σ) (f : Fr I J σ τ) (hh : ([2, 31].all (fun k => !inR I k) && [1, 3, 4, 5, 66, 68, 69, 70].all (fun k => !inR J k)) = true) : FB V H c c1 N r2 r3 r4 r5 τ := by
  have hh' := hh
  simp only [List.all_cons, List.all_nil, Bool.and_true, Bool.and_eq_true, Bool.not_eq_true'] at hh
  obtain ⟨⟨h1, h2⟩, h3, h4, h5, h6, h7, h8, h9, h10⟩ := hh
  obtain ⟨k1, k2, k3, k4, k5, k6, k7, k8⟩ := h
  refine ⟨k1.fr f hh', k2.fr f ?_, k3, by rw [f.2 _ h3]; exact k4, by rw [f.2 _ h7]; exact k5, by rw [f.2 _ h7]; exact k6, by rw [f.2 _ h7]; exact k7, by rw [f.2 _ h7]; exact k8⟩
  simp only [List.all_cons, List.all_nil, h1, h3, h4, h5, h6]
  rfl
/-- the reference's findBest -/
theorem findBest_R {V : Nat → Nat} {H : Nat → Bool} {c c1 N r2 r3 r4 r5 : Nat} {σ τ : ST} (hB : FB V H c c1 N r2 r3 r4 r5 τ) (hX : CUTX V H c N σ) (hR : RWX V H c1 N σ) : ((CUT V H c N).1.1 ≤ 9 → ∃ τ', fX12_findBest_0 τ = (1, τ') ∧ τ'.1 35 = nI (CUT V H c N).1.1 ∧ τ'.1 39 = (BSc V H c N r2 r4).2.1 ∧ GNS (LKc V H c N r2 r4) (CUT V H c N).1.1 τ' ∧ (∀ j, j < (CUT V H c N).1.1 → τ'.2.2 86 j = nI ((BSc V H c N r2 r4).2.2 j)) ∧ FPM V H c N τ' ∧ Fr [(35, 39)] [(75, 86), (88, 88)] τ τ') ∧ (9 < (CUT V H c N).1.1 → fX12_findBest_0 τ = (0, fX12_findPieces_0 τ)) ∧ FPM V H c N (fX12_findPieces_0 τ) ∧ Fr [(35, 38)] [(75, 84)] τ (fX12_findPieces_0 τ) := by
  obtain ⟨p1, p2⟩ := pieces_M hB.1.1 hB.1.2.2.2.2.2
  have hN := hR.1
  obtain ⟨_, _, _, _, h62, _, h64, _⟩ := hB
  have B := findBest_M (L := LKc V H c N r2 r4) p1.1.1 p2 hX.2.2.2.2
  refine ⟨fun hn => ?_, B.2, p1, p2⟩
  obtain ⟨τ', y1, y2, y3, y4, y5, y6⟩ := B.1 hn (fun x y _ _ => LKv_comm V _ r2 r4 x y) (fun x y hx hy => by
    rw [RK_LK (r2 := nI r2) (r4 := nI r4) hX p1 hN (by rw [p2.2 66 rfl]; exact h62) (by rw [p2.2 66 rfl]; exact h64) hx hy]
    exact LK_val hX hR hx hy)
  refine ⟨τ', y1, y2, y3, y4, y5, ⟨p1.1.fr y6 rfl, by rw [y6.1 36 rfl]; exact p1.2.1, by rw [y6.1 37 rfl]; exact p1.2.2.1, by rw [y6.2 77 rfl]; exact p1.2.2.2⟩, (p2.wide rfl rfl).call y6 rfl rfl⟩
/-- a heap's number -/
abbrev HNo (h : Int32) : Prop := ¬ h < 0 ∧ ¬ 8 < h
theorem HNo.nat {h : Int32} (q : HNo h) : ∃ x : Nat, h = nI x ∧ x ≤ 8 := by
  obtain ⟨x, hx, e⟩ := nI_of q.1
  have h2 := q.2
  subst e
  exact ⟨x, rfl, y_nlt (a := 8) (b := x) (by omega) hx h2⟩
theorem isHeapNumber_X (h : Int32) (σ : ST) : fX11_isHeapNumber_0 h σ = if HNo h then 1 else 0 := by
  have e : (9 : Int32) - 1 = 8 := by decide
  simp only [fX11_isHeapNumber_0, fX11_isHeapNumber_0b0, bd_e, within_X, e]
theorem refused_X (h : Int32) (σ : ST) : fX11_refusedHeap_0 h σ = (if (fX11_heapNow_0 σ).1 = 0 then -2 else if (fX11_heapNow_0 σ).2.1 10 ≤ h then -1 else 0, (fX11_heapNow_0 σ).2) := by
  simp only [fX11_refusedHeap_0, fX11_refusedHeap_0b0, fX11_refusedHeap_0b7, fX11_refusedHeap_0b10, fX11_refusedHeap_0b24, fX11_refusedHeap_0b28, fX11_refusedHeap_0b29, bd_e, bp_e]
  by_cases c : (fX11_heapNow_0 σ).1 = 0
  · rw [if_pos c, if_pos c]
  · rw [if_neg c, if_neg c]
    by_cases d : (fX11_heapNow_0 σ).2.1 10 ≤ h
    · rw [if_pos d, if_pos d]
    · rw [if_neg d, if_neg d]
theorem wrong_M (h : Int32) (σ : ST) : fX12_wrong_0 h σ = if HNo h then (if (fX12_findBest_0 σ).1 = 0 then (-2, (fX12_findBest_0 σ).2) else (if fX12_heapsIn_2 ((fX12_findHeapMiddles_0 (fX12_findBest_0 σ).2).1 35) (fX12_findHeapMiddles_0 (fX12_findBest_0 σ).2) ≤ h then -1 else 0, fX12_findHeapMiddles_0 (fX12_findBest_0 σ).2)) else (-1, σ) := by
  have e : (9 : Int32) - 1 = 8 := by decide
  unfold fX12_wrong_0 fX12_wrong_0b0 fX12_wrong_0b10 fX12_wrong_0b12 fX12_wrong_0b19 fX12_wrong_0b22 fX12_wrong_0b45 fX12_wrong_0b41 fX12_wrong_0b46
  simp only [bd_e, bp_e, in_M, e, ite01]
  by_cases c : HNo h
  · rw [if_neg (fun w => w c), if_pos c]
    by_cases d : (fX12_findBest_0 σ).1 = 0
    · rw [if_pos d, if_pos d]
    · rw [if_neg d, if_neg d]
      by_cases f : fX12_heapsIn_2 ((fX12_findHeapMiddles_0 (fX12_findBest_0 σ).2).1 35) (fX12_findHeapMiddles_0 (fX12_findBest_0 σ).2) ≤ h
      · rw [if_pos f, if_pos f]
      · rw [if_neg f, if_neg f]
  · rw [if_pos c, if_neg c]
/-- the number of best's heaps -/
abbrev HPc (V : Nat → Nat) (H : Nat → Bool) (c N r2 r4 : Nat) : Nat := hpi (BSc V H c N r2 r4).2.2 (CUT V H c N).1.1
/-- what a call that asks of a heap finds, on both sides -/
def ASKH (V : Nat → Nat) (H : Nat → Bool) (c N r2 r4 : Nat) (h : Int32) (v : Int32) : Prop := (9 < (CUT V H c N).1.1 ∧ v = -2) ∨ ((CUT V H c N).1.1 ≤ 9 ∧ ((nI (HPc V H c N r2 r4) ≤ h ∧ v = -1) ∨ (¬ nI (HPc V H c N r2 r4) ≤ h ∧ v = 0)))
theorem refused_both {V : Nat → Nat} {H : Nat → Bool} {c c1 N r2 r3 r4 r5 : Nat} {σ : ST} (hK : KH σ) (hB : FB V H c c1 N r2 r3 r4 r5 σ) (h : Int32) : ∃ v, ASKH V H c N r2 r4 h v ∧ fX11_refusedHeap_0 h σ = (v, (fX11_heapNow_0 σ).2) ∧ ((CUT V H c N).1.1 ≤ 9 → HPX V H c N r2 r4 (fX11_heapNow_0 σ).2) ∧ CUTX V H c N (fX11_heapNow_0 σ).2 ∧ FB V H c c1 N r2 r3 r4 r5 (fX11_heapNow_0 σ).2 ∧ Fr [(3, 12), (14, 18), (22, 23)] [(8, 19), (21, 29), (31, 47)] σ (fX11_heapNow_0 σ).2 := by
  obtain ⟨_, k2, k3, k4, k5⟩ := heapNow_X hK.1 hB.2.1
  have hB1 := hB.fr k5 rfl
  rcases Nat.lt_or_ge 9 (CUT V H c N).1.1 with z | z
  · refine ⟨-2, Or.inl ⟨z, rfl⟩, ?_, fun w => absurd w (by omega), k4, hB1, k5⟩
    rw [refused_X, if_pos (k3 z)]
  · obtain ⟨q1, q2, _⟩ := k2 z
    obtain ⟨_, e10, _⟩ := q2.2.2.1.1 (BEST_t _ _)
    have hne : ¬ (fX11_heapNow_0 σ).1 = 0 := by rw [q1]; decide
    rw [refused_X, if_neg hne, e10]
    by_cases d : nI (HPc V H c N r2 r4) ≤ h
    · exact ⟨-1, Or.inr ⟨z, Or.inl ⟨d, rfl⟩⟩, by rw [if_pos d], fun _ => q2, k4, hB1, k5⟩
    · exact ⟨0, Or.inr ⟨z, Or.inr ⟨d, rfl⟩⟩, by rw [if_neg d], fun _ => q2, k4, hB1, k5⟩
/-- the reference's side of it -/
theorem wrong_both {V : Nat → Nat} {H : Nat → Bool} {c c1 N r2 r3 r4 r5 : Nat} {σ τ : ST} (hB : FB V H c c1 N r2 r3 r4 r5 τ) (hX : CUTX V H c N σ) (hR : RWX V H c1 N σ) {h v : Int32} (hh : HNo h) (hv : ASKH V H c N r2 r4 h v) : ∃ τ', fX12_wrong_0 h τ = (v, τ') ∧ ((CUT V H c N).1.1 ≤ 9 → (∀ x, x < HPc V H c N r2 r4 → ∀ k, k < 4 → τ'.2.2 89 (4 * x + k) = nI (MH V (HS (CUT V H c N).1 (BSc V H c N r2 r4).2.2 x) N k)) ∧ ∀ j, j < (CUT V H c N).1.1 → τ'.2.2 86 j = nI ((BSc V H c N r2 r4).2.2 j)) ∧ FPM V H c N τ' ∧ Fr [(35, 39)] [(75, 86), (88, 89)] τ τ' := by
  obtain ⟨b1, b2, b3, b4⟩ := findBest_R hB hX hR
  rw [wrong_M, if_pos hh]
  rcases hv with ⟨z, rfl⟩ | ⟨z, hv⟩
  · rw [b2 z]
    exact ⟨_, by rw [if_pos rfl], fun w => absurd w (by omega), b3, b4.wide rfl rfl⟩
  · obtain ⟨τ', y1, y2, _, _, y5, y6, y7⟩ := b1 z
    have hRG := BEST_RG (LKc V H c N r2 r4) (CUT V H c N).1.1
    have hp := RG.le _ hRG
    have hM : HMS V H c N (BSc V H c N r2 r4).2.2 τ' := ⟨hB.1.2.2.2.2.2.fr y7 rfl, z, y2, y6.2.2.2, fun q hq => ⟨y5 q hq, Nat.le_of_lt (Nat.lt_of_lt_of_le (hpi_lt _ q hq) (Nat.le_trans hp z))⟩⟩
    obtain ⟨m1, m2⟩ := heapMiddles_M hRG hM
    have hM2 := hM.fr m2 rfl
    have eh := heapsIn2_M (a := (BSc V H c N r2 r4).2.2) (i := (CUT V H c N).1.1) (τ := fX12_findHeapMiddles_0 τ') z hM2.2.2.2.2
    rw [y1, if_neg (show ¬ ((1 : Int32), τ').1 = 0 from fun w => absurd (show (1 : Int32) = 0 from w) (by decide)), hM2.2.2.1, eh]
    refine ⟨fX12_findHeapMiddles_0 τ', ?_, fun _ => ⟨m1, by rw [m2.2 86 rfl]; exact y5⟩, ⟨y6.1.fr m2 rfl, by rw [m2.1 36 rfl]; exact y6.2.1, by rw [m2.1 37 rfl]; exact y6.2.2.1, by rw [m2.2 77 rfl]; exact y6.2.2.2⟩, (y7.wide rfl rfl).call m2 rfl rfl⟩
    rcases hv with ⟨d, rfl⟩ | ⟨d, rfl⟩
    · rw [if_pos d]
    · rw [if_neg d]
theorem ASKH.lt {V : Nat → Nat} {H : Nat → Bool} {c N r2 r4 : Nat} {h : Int32} (q : HNo h) (a : ASKH V H c N r2 r4 h 0) : ∃ x : Nat, h = nI x ∧ x < HPc V H c N r2 r4 ∧ (CUT V H c N).1.1 ≤ 9 ∧ x ≤ 8 := by
  obtain ⟨x, rfl, hx⟩ := q.nat
  rcases a with ⟨_, w⟩ | ⟨z, ⟨_, w⟩ | ⟨d, _⟩⟩
  · exact absurd w (by decide)
  · exact absurd w (by decide)
  · refine ⟨x, rfl, ?_, z, hx⟩
    have hRG := BEST_RG (LKc V H c N r2 r4) (CUT V H c N).1.1
    have hp := RG.le _ hRG
    have hp' : HPc V H c N r2 r4 ≤ 9 := Nat.le_trans hp z
    exact Nat.lt_of_not_le fun w => d ((leN (by omega) (by omega)).mpr w)
theorem ASKH.cases {V : Nat → Nat} {H : Nat → Bool} {c N r2 r4 : Nat} {h v : Int32} (a : ASKH V H c N r2 r4 h v) : v = 0 ∨ (v < 0 ∧ ¬ 0 ≤ v ∧ ¬ v = 0) := by
  rcases a with ⟨_, rfl⟩ | ⟨_, ⟨_, rfl⟩ | ⟨_, rfl⟩⟩
  · exact Or.inr (by decide)
  · exact Or.inr (by decide)
  · exact Or.inl rfl
