/-! the middles of heaps, of the class -/
/-- the rows of heap h, dealt out by a -/
def HS (s : PSt) (a : Nat → Nat) (h r : Nat) : Bool := decide (¬ s.2.2 r = -9 ∧ a (s.2.2 r).toNatClampNeg = h)
theorem neg9_nI {q : Nat} (hq : q < 2 ^ 31) : ¬ nI q = -9 := y_neq q hq (by decide)
theorem HS_heard {V : Nat → Nat} {H : Nat → Bool} {c N : Nat} {a : Nat → Nat} {h r : Nat} (e : HS (CUT V H c N).1 a h r = true) : H r = true := by
  rcases CUT_po V H c N r with z | ⟨q, q1, _, q3, q4⟩
  · exact absurd z (of_decide_eq_true e).1
  · exact CUT_ph V H c N q q1 r q3 q4
theorem HS_le {V : Nat → Nat} {H : Nat → Bool} {c c1 N : Nat} {σ : ST} (hR : RWX V H c1 N σ) {a : Nat → Nat} {h : Nat} : ∀ k, k < 4 → ∀ j, j < cn (HS (CUT V H c N).1 a h) N → wH V (HS (CUT V H c N).1 a h) N k j ≤ 99 := fun k hk j hj => by
  obtain ⟨m1, m2⟩ := nth_in N hj
  exact (hR.2.2.2 _ m1 (HS_heard m2) k hk).2
theorem HS_one {V : Nat → Nat} {H : Nat → Bool} {c N : Nat} {a : Nat → Nat} {h q : Nat} (hn : (CUT V H c N).1.1 ≤ 48) (hq : q < (CUT V H c N).1.1) (e : a q = h) : 1 ≤ cn (HS (CUT V H c N).1 a h) N := by
  have p := CUT_pb V H c N q hq
  have hh : HS (CUT V H c N).1 a h ((CUT V H c N).1.2.1 q).1 = true := by
    refine decide_eq_true ⟨?_, ?_⟩
    · rw [CUT_row V H c N hq]
      exact neg9_nI (by omega)
    · rw [CUT_row V H c N hq, nI_clamp (by omega)]
      exact e
  obtain ⟨d, hd⟩ : ∃ d, N = ((CUT V H c N).1.2.1 q).1 + 1 + d := ⟨N - (((CUT V H c N).1.2.1 q).1 + 1), by omega⟩
  have m := cn_mono (HS (CUT V H c N).1 a h) (r := ((CUT V H c N).1.2.1 q).1 + 1) d
  have s : cn (HS (CUT V H c N).1 a h) (((CUT V H c N).1.2.1 q).1 + 1) = cn (HS (CUT V H c N).1 a h) ((CUT V H c N).1.2.1 q).1 + (if HS (CUT V H c N).1 a h ((CUT V H c N).1.2.1 q).1 = true then 1 else 0) := rfl
  rw [if_pos hh] at s
  rw [← hd] at m
  omega
theorem wm1_l {w : Nat → Nat → Nat} {n l : Nat} (hn : n < 9) (hl : 1 ≤ l) (hl2 : l ≤ 48) : ∀ (fu m k : Nat) (τ : ST), k + m = 4 → m < fu → GTH w l τ → (∀ i, i < k → τ.2.2 43 (n * 4 + i) = nI (MI w l i)) → ∃ τ', fX3_writeMiddle_1l22 fu (nI (n * 4)) (nI k) τ = τ' ∧ (∀ i, i < 4 → τ'.2.2 43 (n * 4 + i) = nI (MI w l i)) ∧ (∀ j, j < n * 4 → τ'.2.2 43 j = τ.2.2 43 j) ∧ Fr [] [(43, 43)] τ τ'
  | 0, _, _, _, _, h, _, _ => absurd h (Nat.not_lt_zero _)
  | fu + 1, 0, k, τ, hk, _, hG, hM => by
    have k4 : k = 4 := by omega
    subst k4
    refine ⟨τ, ?_, hM, fun _ _ => rfl, Fr.refl τ⟩
    show fX3_writeMiddle_1b22 (fX3_writeMiddle_1l22 fu) (nI (n * 4)) (nI 4) τ = _
    unfold fX3_writeMiddle_1b22
    rw [if_pos (show 4 ≤ nI 4 by decide)]
    rfl
  | fu + 1, m + 1, k, τ, hk, hf, hG, hM => by
    have e0 : fX3_writeMiddle_1l22 (fu + 1) (nI (n * 4)) (nI k) τ = fX3_writeMiddle_1b22 (fX3_writeMiddle_1l22 fu) (nI (n * 4)) (nI k) τ := rfl
    have d1 : (nI l - 1) / 2 = nI ((l - 1) / 2) := by
      rw [show nI l - 1 = nI (l - 1) from pk_sub (b := 1) (by omega)]
      exact pk_div (d := 2) (by omega) (by omega) (by omega)
    have em : MI w l k = srt (w k) l ((l - 1) / 2) := if_neg (by omega)
    rw [e0]
    unfold fX3_writeMiddle_1b22 fX3_writeMiddle_1b27
    rw [if_neg (show ¬ 4 ≤ nI k from fun q => absurd ((leN (a := 4) (by omega) (by omega)).mp q) (by omega))]
    simp only [bd_e, nI_add, hG.1, d1, n_add1, show (nI k).toNatClampNeg = k from nI_clamp (by omega), show (nI (n * 4 + k)).toNatClampNeg = n * 4 + k from nI_clamp (by omega), show (nI ((l - 1) / 2)).toNatClampNeg = (l - 1) / 2 from nI_clamp (by omega), hG.2.2 k (by omega) ((l - 1) / 2) (by omega), ← em]
    have f1 : Fr [] [(43, 43)] τ (sA τ 43 (upd (τ.2.2 43) (n * 4 + k) (nI (MI w l k)))) := (Fr.refl τ).putA rfl
    obtain ⟨τ2, z1, z2, z3, z4⟩ := wm1_l hn hl hl2 fu m (k + 1) (sA τ 43 (upd (τ.2.2 43) (n * 4 + k) (nI (MI w l k)))) (by omega) (by omega) ⟨hG.1, hG.2.1, fun i hi j hj => by
      have q : inR [(43, 43)] (8 + i) = false := by
        rcases (show i = 0 ∨ i = 1 ∨ i = 2 ∨ i = 3 by omega) with rfl | rfl | rfl | rfl <;> rfl
      rw [f1.2 _ q]
      exact hG.2.2 i hi j hj⟩ (fun i hi => by
      rw [sA_eq]
      rcases Nat.eq_or_lt_of_le (Nat.le_of_lt_succ hi) with c | c
      · rw [c, pk_us]
      · rw [pk_un (by omega)]
        exact hM i c)
    exact ⟨τ2, z1, z2, fun j hj => by rw [z3 j hj, sA_eq, pk_un (by omega)], f1.call z4 rfl rfl⟩
theorem wm1_X {w : Nat → Nat → Nat} {n l : Nat} {σ : ST} (hn : n < 9) (hl : 1 ≤ l) (hl2 : l ≤ 48) (hG : GTH w l σ) : (∀ i, i < 4 → (fX3_writeMiddle_1 (nI (n * 4)) σ).2.2 43 (n * 4 + i) = nI (MI w l i)) ∧ (∀ j, j < n * 4 → (fX3_writeMiddle_1 (nI (n * 4)) σ).2.2 43 j = σ.2.2 43 j) ∧ Fr [] [(43, 43)] σ (fX3_writeMiddle_1 (nI (n * 4)) σ) := by
  obtain ⟨τ, y1, y2, y3, y4⟩ := wm1_l hn hl hl2 4096 4 0 σ rfl (by omega) hG (fun i hi => absurd hi (Nat.not_lt_zero _))
  have e : fX3_writeMiddle_1 (nI (n * 4)) σ = τ := by
    rw [← y1, nI_0]
    unfold fX3_writeMiddle_1 fX3_writeMiddle_1b0 fX3_writeMiddle_1b7 fX3_writeMiddle_1b11 fX3_writeMiddle_1b20
    simp only [bd_e, hG.1]
    rw [if_neg (show ¬ nI l = 0 from fun q => absurd ((nI_eq (b := 0) (by omega) (by omega)).mp (q.trans nI_0.symm)) (by omega)), if_neg (nI_pos (by omega)), if_pos (show nI (n * 4) ≤ 36 - 4 from (leN (b := 32) (by omega) (by omega)).mpr (by omega))]
  rw [e]
  exact ⟨y2, y3, y4⟩
theorem wm1_0 {w : Nat → Nat → Nat} {x : Int32} {σ : ST} (hG : GTH w 0 σ) : fX3_writeMiddle_1 x σ = σ := by
  unfold fX3_writeMiddle_1 fX3_writeMiddle_1b0 fX3_writeMiddle_1b19
  simp only [bd_e, hG.1]
  rw [if_pos nI_0]
/-- what findMiddles stands on -/
def FMS (V : Nat → Nat) (H : Nat → Bool) (c c1 N : Nat) (a : Nat → Nat) (σ : ST) : Prop := RWX V H c1 N σ ∧ (CUT V H c N).1.1 ≤ 9 ∧ (∀ r, r < 48 → σ.2.2 17 r = (CUT V H c N).1.2.2 r) ∧ ∀ q, q < (CUT V H c N).1.1 → σ.2.2 41 q = nI (a q) ∧ a q < 9
theorem FMS.fr {V : Nat → Nat} {H : Nat → Bool} {c c1 N : Nat} {a : Nat → Nat} {I J : List (Nat × Nat)} {σ τ : ST} (h : FMS V H c c1 N a σ) (f : Fr I J σ τ) (hh : ((!inR I 2 && [3, 4, 5].all (fun k => !inR J k)) && !inR J 17 && !inR J 41) = true) : FMS V H c c1 N a τ := by
  simp only [Bool.and_eq_true, Bool.not_eq_true'] at hh
  refine ⟨h.1.fr f ?_, h.2.1, by rw [f.2 _ hh.1.2]; exact h.2.2.1, by rw [f.2 _ hh.2]; exact h.2.2.2⟩
  simp only [Bool.and_eq_true, Bool.not_eq_true']
  exact hh.1.1
theorem fm26_l {K : Int32 → ST → ST} {V : Nat → Nat} {H : Nat → Bool} {c c1 N h : Nat} {a : Nat → Nat} (hh : h < 9) : ∀ (fu m r : Nat) (τ : ST), r + m = N → m < fu → FMS V H c c1 N a τ → GTH (wH V (HS (CUT V H c N).1 a h) N) (cn (HS (CUT V H c N).1 a h) r) τ → ∃ τ', fX4_findMiddles_0l26 K fu (nI h) (nI r) τ = fX4_findMiddles_0b88 K (nI h) τ' ∧ GTH (wH V (HS (CUT V H c N).1 a h) N) (cn (HS (CUT V H c N).1 a h) N) τ' ∧ Fr [(3, 4)] [(8, 11)] τ τ' := by
  intro fu
  induction fu with
  | zero =>
    intro m r τ _ h
    exact absurd h (Nat.not_lt_zero _)
  | succ fu ih =>
    intro m r τ hm hf hF hG
    have hN := hF.1.1
    have e0 : fX4_findMiddles_0l26 K (fu + 1) (nI h) (nI r) τ = fX4_findMiddles_0b26 K (fX4_findMiddles_0l26 K fu) (nI h) (nI r) τ := rfl
    cases m with
    | zero =>
      have er : r = N := by omega
      subst er
      refine ⟨τ, ?_, hG, Fr.refl τ⟩
      rw [e0]
      unfold fX4_findMiddles_0b26
      simp only [bd_e, hF.1.2.1]
      rw [if_pos ((leN (by omega) (by omega)).mpr (Nat.le_refl _))]
    | succ m =>
      have nr : (nI r).toNatClampNeg = r := nI_clamp (by omega)
      have cs1 : cn (HS (CUT V H c N).1 a h) (r + 1) = cn (HS (CUT V H c N).1 a h) r + (if HS (CUT V H c N).1 a h r = true then 1 else 0) := rfl
      have skip : ¬ HS (CUT V H c N).1 a h r = true → fX4_findMiddles_0l26 K (fu + 1) (nI h) (nI r) τ = fX4_findMiddles_0l26 K fu (nI h) (nI (r + 1)) τ → ∃ τ', fX4_findMiddles_0l26 K (fu + 1) (nI h) (nI r) τ = fX4_findMiddles_0b88 K (nI h) τ' ∧ GTH (wH V (HS (CUT V H c N).1 a h) N) (cn (HS (CUT V H c N).1 a h) N) τ' ∧ Fr [(3, 4)] [(8, 11)] τ τ' := fun d e => by
        rw [if_neg d] at cs1
        rw [e]
        exact ih m (r + 1) τ (by omega) (by omega) hF (by rw [cs1]; exact hG)
      have eA : fX4_findMiddles_0l26 K (fu + 1) (nI h) (nI r) τ = fX4_findMiddles_0b42 K (fX4_findMiddles_0l26 K fu) (nI h) (nI r) τ := by
        rw [e0]
        unfold fX4_findMiddles_0b26 fX4_findMiddles_0b35
        simp only [bd_e, hF.1.2.1]
        rw [if_neg (fun q => absurd ((leN (by omega) (by omega)).mp q) (by omega)), if_neg (show ¬ 48 ≤ nI r from fun q => absurd ((leN (a := 48) (by omega) (by omega)).mp q) (by omega))]
      have e82 : fX4_findMiddles_0b82 K (fX4_findMiddles_0l26 K fu) (nI h) (nI r) τ = fX4_findMiddles_0l26 K fu (nI h) (nI (r + 1)) τ := by
        unfold fX4_findMiddles_0b82
        simp only [bd_e, n_add1]
      rcases CUT_po V H c N r with z | ⟨q, q1, q2, _, _⟩
      · refine skip (fun w => (of_decide_eq_true w).1 z) ?_
        rw [eA, ← e82]
        unfold fX4_findMiddles_0b42
        simp only [bd_e, nr, hF.2.2.1 r (by omega), z]
        rw [if_pos (show (-9 : Int32) < 0 by decide)]
      · have h9 := hF.2.1
        obtain ⟨a1, a2⟩ := hF.2.2.2 q q1
        have eB : fX4_findMiddles_0l26 K (fu + 1) (nI h) (nI r) τ = if nI (a q) = nI h then fX4_findMiddles_0b75 K (fX4_findMiddles_0l26 K fu) (nI h) (nI r) τ else fX4_findMiddles_0b82 K (fX4_findMiddles_0l26 K fu) (nI h) (nI r) τ := by
          rw [eA]
          unfold fX4_findMiddles_0b42 fX4_findMiddles_0b56 fX4_findMiddles_0b63
          simp only [bd_e, nr, hF.2.2.1 r (by omega), q2, show (nI q).toNatClampNeg = q from nI_clamp (by omega), a1]
          rw [if_neg (nI_pos (by omega)), if_neg (show ¬ 9 ≤ nI q from fun w => absurd ((leN (a := 9) (by omega) (by omega)).mp w) (by omega))]
        have hd : HS (CUT V H c N).1 a h r = true ↔ a q = h := by
          unfold HS
          rw [q2, nI_clamp (by omega)]
          exact ⟨fun w => (of_decide_eq_true w).2, fun w => decide_eq_true ⟨neg9_nI (by omega), w⟩⟩
        by_cases d : a q = h
        · have hT := hd.mpr d
          rw [if_pos hT] at cs1
          have hle := HS_le hF.1 (c := c) (a := a) (h := h)
          obtain ⟨dd, hdd⟩ : ∃ dd, N = r + 1 + dd := ⟨N - (r + 1), by omega⟩
          have mono := cn_mono (HS (CUT V H c N).1 a h) (r := r + 1) dd
          have cle := cn_le (HS (CUT V H c N).1 a h) r
          rw [← hdd] at mono
          obtain ⟨g1, g2⟩ := take_X (w := wH V (HS (CUT V H c N).1 a h) N) (n := cn (HS (CUT V H c N).1 a h) r) (r := r) (σ := τ) (by omega) (by omega) (fun k hk j hj => hle k hk j (by omega)) hG (fun k hk => by
            rw [wH_e (by omega) hT]
            exact (hF.1.2.2.2 r (by omega) (HS_heard hT) k hk).1)
          obtain ⟨τ2, z1, z2, z3⟩ := ih m (r + 1) (fX3_take_0 (nI r) τ) (by omega) (by omega) (hF.fr g2 rfl) (by rw [cs1]; exact g1)
          refine ⟨τ2, ?_, z2, g2.call z3 rfl rfl⟩
          rw [eB, if_pos (by rw [d]), ← z1]
          unfold fX4_findMiddles_0b75 fX4_findMiddles_0b82
          simp only [bd_e, n_add1]
        · refine skip (fun w => d (hd.mp w)) ?_
          rw [eB, if_neg (fun w => d ((nI_eq (by omega) (by omega)).mp w)), e82]
theorem fm3_l {V : Nat → Nat} {H : Nat → Bool} {c c1 N : Nat} {a : Nat → Nat} (hRG : RG a (CUT V H c N).1.1) : ∀ (fu m h : Nat) (τ : ST), h + m = hpi a (CUT V H c N).1.1 → m < fu → τ.1 10 = nI (hpi a (CUT V H c N).1.1) → FMS V H c c1 N a τ → (∀ x, x < h → ∀ k, k < 4 → τ.2.2 43 (x * 4 + k) = nI (MH V (HS (CUT V H c N).1 a x) N k)) → ∃ τ', fX4_findMiddles_0l3 fu (nI h) τ = τ' ∧ (∀ x, x < hpi a (CUT V H c N).1.1 → ∀ k, k < 4 → τ'.2.2 43 (x * 4 + k) = nI (MH V (HS (CUT V H c N).1 a x) N k)) ∧ Fr [(3, 4)] [(8, 11), (43, 43)] τ τ' := by
  intro fu
  induction fu with
  | zero =>
    intro m h τ _ h
    exact absurd h (Nat.not_lt_zero _)
  | succ fu ih =>
    intro m h τ hm hf h10 hF h0
    have hN := hF.1.1
    have h9 := hF.2.1
    have hp9 := RG.le _ hRG
    cases m with
    | zero =>
      have eh : h = hpi a (CUT V H c N).1.1 := by omega
      subst eh
      refine ⟨τ, ?_, h0, Fr.refl τ⟩
      show fX4_findMiddles_0b3 (fX4_findMiddles_0l3 fu) (nI (hpi a (CUT V H c N).1.1)) τ = _
      unfold fX4_findMiddles_0b3 fX4_findMiddles_0b106
      simp only [bd_e, h10]
      rw [if_pos ((leN (by omega) (by omega)).mpr (Nat.le_refl _))]
    | succ m =>
      obtain ⟨q, q1, q2⟩ := hRG.has _ h (by omega)
      have one := HS_one (V := V) (H := H) (c := c) (N := N) (a := a) (h := h) (by omega) q1 q2
      obtain ⟨g1, g2⟩ := empty_X (wH V (HS (CUT V H c N).1 a h) N) τ
      have c0 : cn (HS (CUT V H c N).1 a h) 0 = 0 := rfl
      obtain ⟨τ1, y1, y2, y3⟩ := fm26_l (K := fX4_findMiddles_0l3 fu) (h := h) (by omega) 4096 N 0 (fX3_empty_0 τ) (by omega) (by omega) (hF.fr g2 rfl) (by rw [c0]; exact g1)
      have cle := cn_le (HS (CUT V H c N).1 a h) N
      obtain ⟨w1, w2, w3⟩ := wm1_X (n := h) (by omega) one (by omega) y2
      have e0 : fX4_findMiddles_0l3 (fu + 1) (nI h) τ = fX4_findMiddles_0l3 fu (nI (h + 1)) (fX3_writeMiddle_1 (nI (h * 4)) τ1) := by
        have e1 : fX4_findMiddles_0l3 (fu + 1) (nI h) τ = fX4_findMiddles_0l26 (fX4_findMiddles_0l3 fu) 4096 (nI h) (nI 0) (fX3_empty_0 τ) := by
          show fX4_findMiddles_0b3 (fX4_findMiddles_0l3 fu) (nI h) τ = _
          unfold fX4_findMiddles_0b3 fX4_findMiddles_0b12 fX4_findMiddles_0b19
          simp only [bd_e, h10, nI_0]
          rw [if_neg (fun q => absurd ((leN (by omega) (by omega)).mp q) (by omega)), if_neg (show ¬ 9 ≤ nI h from fun q => absurd ((leN (a := 9) (by omega) (by omega)).mp q) (by omega))]
        rw [e1, y1]
        unfold fX4_findMiddles_0b88
        simp only [bd_e, n_add1, n_mul4]
      have f1 : Fr [(3, 4)] [(8, 11), (43, 43)] τ (fX3_writeMiddle_1 (nI (h * 4)) τ1) := ((g2.wide rfl rfl).call y3 rfl rfl).call w3 rfl rfl
      have f1' : Fr [(3, 4)] [(8, 11)] τ τ1 := (g2.wide rfl rfl).call y3 rfl rfl
      obtain ⟨τ2, z1, z2, z3⟩ := ih m (h + 1) (fX3_writeMiddle_1 (nI (h * 4)) τ1) (by omega) (by omega) ((f1.1 10 rfl).trans h10) (hF.fr f1 rfl) (fun x hx k hk => by
        rcases Nat.eq_or_lt_of_le (Nat.le_of_lt_succ hx) with d | d
        · subst d
          exact w1 k hk
        · rw [w2 (x * 4 + k) (by omega), f1'.2 43 rfl]
          exact h0 x d k hk)
      exact ⟨τ2, e0.trans z1, z2, f1.call z3 rfl rfl⟩
theorem findMiddles_X {V : Nat → Nat} {H : Nat → Bool} {c c1 N : Nat} {a : Nat → Nat} {σ : ST} (hRG : RG a (CUT V H c N).1.1) (h10 : σ.1 10 = nI (hpi a (CUT V H c N).1.1)) (hF : FMS V H c c1 N a σ) : (∀ x, x < hpi a (CUT V H c N).1.1 → ∀ k, k < 4 → (fX4_findMiddles_0 σ).2.2 43 (x * 4 + k) = nI (MH V (HS (CUT V H c N).1 a x) N k)) ∧ Fr [(3, 4)] [(8, 11), (43, 43)] σ (fX4_findMiddles_0 σ) := by
  have hp9 := RG.le _ hRG
  have h9 := hF.2.1
  obtain ⟨τ, y1, y2, y3⟩ := fm3_l hRG 4096 (hpi a (CUT V H c N).1.1) 0 σ (by omega) (by omega) h10 hF (fun x hx => absurd hx (Nat.not_lt_zero _))
  have e : fX4_findMiddles_0 σ = τ := by
    rw [← y1, nI_0]
    rfl
  rw [e]
  exact ⟨y2, y3⟩
