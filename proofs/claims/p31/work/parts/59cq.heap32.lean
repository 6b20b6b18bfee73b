/-! show, otherwise -/
def HRW (V : Nat → Nat) (H : Nat → Bool) (c N r2 r4 r : Nat) : Int32 := if (CUT V H c N).1.2.2 r = -9 then -9 else nI ((BSc V H c N r2 r4).2.2 ((CUT V H c N).1.2.2 r).toNatClampNeg)
theorem heapOfRow_X {V : Nat → Nat} {H : Nat → Bool} {c N r2 r4 r : Nat} {s : ST} (hr : r < 48) (hX : CUTX V H c N s) (hH : HPX V H c N r2 r4 s) : fX11_heapOfRow_0 (nI r) s = HRW V H c N r2 r4 r := by
  have e8 : (9 : Int32) - 1 = 8 := by decide
  have h9 := hH.1
  simp only [fX11_heapOfRow_0, fX11_heapOfRow_0b0, fX11_heapOfRow_0b20, fX11_heapOfRow_0b35, fX11_heapOfRow_0b37, bd_e, within_X, ite01, show (nI r).toNatClampNeg = r from nI_clamp (by omega), hX.1.2.2 r hr, e8]
  unfold HRW
  rcases CUT_po V H c N r with z | ⟨q, q1, q2, _, _⟩
  · rw [if_pos z, z, if_pos (show ¬ (¬ (-9 : Int32) < 0 ∧ ¬ (8 : Int32) < -9) by decide)]
  · rw [q2, if_neg (neg9_nI (by omega)), if_neg (fun w => w ⟨nI_pos (by omega), fun z => absurd (y_lt (a := 8) (by omega) (by omega) z) (by omega)⟩), show (nI q).toNatClampNeg = q from nI_clamp (by omega), (hH.h41 q1).1]
theorem heapOfRow_M {V : Nat → Nat} {H : Nat → Bool} {c N r2 r4 r : Nat} {τ : ST} (hr : r < N) (hN : N ≤ 48) (h9 : (CUT V H c N).1.1 ≤ 9) (hM : FPM V H c N τ) (h86 : ∀ j, j < (CUT V H c N).1.1 → τ.2.2 86 j = nI ((BSc V H c N r2 r4).2.2 j)) : fX12_heapOfRow_0 (nI r) τ = HRW V H c N r2 r4 r := by
  simp only [fX12_heapOfRow_0, fX12_heapOfRow_0b0, fX12_heapOfRow_0b11, fX12_heapOfRow_0b16, fX12_heapOfRow_0b27, bd_e, show (nI r).toNatClampNeg = r from nI_clamp (by omega), hM.2.2.2 r hr]
  unfold HRW
  rcases CUT_po V H c N r with z | ⟨q, q1, q2, _, _⟩
  · rw [if_pos z, if_pos z]
  · rw [q2, if_neg (neg9_nI (by omega)), if_neg (neg9_nI (by omega)), show (nI q).toNatClampNeg = q from nI_clamp (by omega), h86 q q1]
/-- what both sides have shown -/
def JS (σ : ST) : Prop := (σ.1 34 = 0 ∧ σ.1 21 = -1) ∨ (σ.1 34 = 1 ∧ ∃ S, S ≤ 48 ∧ σ.1 21 = nI S ∧ σ.1 33 = nI S ∧ ∀ r, r < S → σ.2.2 74 r = σ.2.2 65 r)
theorem JS.fr {I A : List (Nat × Nat)} {σ τ : ST} (h : JS σ) (f : Fr I A σ τ) (hh : ([21, 33, 34].all (fun k => !inR I k) && [65, 74].all (fun k => !inR A k)) = true) : JS τ := by
  simp only [List.all_cons, List.all_nil, Bool.and_true, Bool.and_eq_true, Bool.not_eq_true'] at hh
  obtain ⟨⟨h1, h2, h3⟩, h4, h5⟩ := hh
  unfold JS
  rw [f.1 _ h1, f.1 _ h2, f.1 _ h3, f.2 _ h4, f.2 _ h5]
  exact h
theorem JS.start : JS σ0 := Or.inl ⟨rfl, rfl⟩
theorem shX_l {V : Nat → Nat} {H : Nat → Bool} {c N r2 r4 : Nat} (hN : N ≤ 48) : ∀ (fu d r : Nat) (τ : ST), r + d = N → d < fu → τ.1 2 = nI N → CUTX V H c N τ → HPX V H c N r2 r4 τ → (∀ j, j < r → τ.2.2 65 j = HRW V H c N r2 r4 j) → ∃ τ', fX11_show_0l12 fu (nI r) τ = (nI N, τ') ∧ τ'.1 21 = nI N ∧ (∀ j, j < N → τ'.2.2 65 j = HRW V H c N r2 r4 j) ∧ Fr [(21, 21)] [(65, 65)] τ τ'
  | 0, _, _, _, _, h, _, _, _, _ => absurd h (Nat.not_lt_zero _)
  | fu + 1, 0, r, τ, hd, _, h2, hX, hH, h0 => by
    have er : r = N := by omega
    subst er
    refine ⟨sI τ 21 (nI r), ?_, sI_eq _ _ _, h0, (Fr.refl τ).putI rfl⟩
    show fX11_show_0b12 (fX11_show_0l12 fu) (nI r) τ = _
    unfold fX11_show_0b12 fX11_show_0b40
    simp only [bd_e, h2, sI_eq]
    rw [if_pos ((leN (by omega) (by omega)).mpr (Nat.le_refl _))]
  | fu + 1, d + 1, r, τ, hd, hf, h2, hX, hH, h0 => by
    have f1 : Fr [(21, 21)] [(65, 65)] τ (sA τ 65 (upd (τ.2.2 65) r (HRW V H c N r2 r4 r))) := (Fr.refl τ).putA rfl
    obtain ⟨τ2, z1, z2, z3, z4⟩ := shX_l hN fu d (r + 1) (sA τ 65 (upd (τ.2.2 65) r (HRW V H c N r2 r4 r))) (by omega) (by omega) h2 (hX.fr f1 rfl) (hH.fr f1 rfl rfl) (fun j hj => by
      rw [sA_eq]
      rcases Nat.eq_or_lt_of_le (Nat.le_of_lt_succ hj) with q | q
      · rw [q, pk_us]
      · rw [pk_un (by omega)]
        exact h0 j q)
    refine ⟨τ2, ?_, z2, z3, f1.call z4 rfl rfl⟩
    rw [← z1]
    show fX11_show_0b12 (fX11_show_0l12 fu) (nI r) τ = _
    unfold fX11_show_0b12 fX11_show_0b23
    simp only [bd_e, h2, n_add1, show (nI r).toNatClampNeg = r from nI_clamp (by omega), heapOfRow_X (r := r) (by omega) hX hH]
    rw [if_neg (fun q => absurd ((leN (by omega) (by omega)).mp q) (by omega))]
theorem shM_l {V : Nat → Nat} {H : Nat → Bool} {c N r2 r4 : Nat} (hN : N ≤ 48) (h9 : (CUT V H c N).1.1 ≤ 9) : ∀ (fu d r : Nat) (τ : ST), r + d = N → d < fu → τ.1 31 = nI N → FPM V H c N τ → (∀ j, j < (CUT V H c N).1.1 → τ.2.2 86 j = nI ((BSc V H c N r2 r4).2.2 j)) → (∀ j, j < r → τ.2.2 74 j = HRW V H c N r2 r4 j) → ∃ τ', fX12_show_0l12 fu (nI r) τ = (nI N, τ') ∧ τ'.1 33 = nI N ∧ τ'.1 34 = 1 ∧ (∀ j, j < N → τ'.2.2 74 j = HRW V H c N r2 r4 j) ∧ Fr [(33, 34)] [(74, 74)] τ τ'
  | 0, _, _, _, _, h, _, _, _, _ => absurd h (Nat.not_lt_zero _)
  | fu + 1, 0, r, τ, hd, _, h31, hM, h86, h0 => by
    have er : r = N := by omega
    subst er
    refine ⟨sI (sI τ 33 (nI r)) 34 1, ?_, (sI_ne _ _ rfl).trans (sI_eq _ _ _), sI_eq _ _ _, h0, ((Fr.refl τ).putI rfl).putI rfl⟩
    have e31 : (sI (sI τ 33 (nI r)) 34 1).1 31 = nI r := by rw [sI_ne _ _ rfl, sI_ne _ _ rfl, h31]
    show fX12_show_0b12 (fX12_show_0l12 fu) (nI r) τ = _
    unfold fX12_show_0b12 fX12_show_0b37
    simp only [bd_e, h31, e31]
    rw [if_pos ((leN (by omega) (by omega)).mpr (Nat.le_refl _))]
  | fu + 1, d + 1, r, τ, hd, hf, h31, hM, h86, h0 => by
    have f1 : Fr [(33, 34)] [(74, 74)] τ (sA τ 74 (upd (τ.2.2 74) r (HRW V H c N r2 r4 r))) := (Fr.refl τ).putA rfl
    have hM1 : FPM V H c N (sA τ 74 (upd (τ.2.2 74) r (HRW V H c N r2 r4 r))) := ⟨hM.1.fr f1 rfl, hM.2.1, hM.2.2.1, by rw [f1.2 77 rfl]; exact hM.2.2.2⟩
    obtain ⟨τ2, z1, z2, z3, z4, z5⟩ := shM_l hN h9 fu d (r + 1) (sA τ 74 (upd (τ.2.2 74) r (HRW V H c N r2 r4 r))) (by omega) (by omega) h31 hM1 (by rw [f1.2 86 rfl]; exact h86) (fun j hj => by
      rw [sA_eq]
      rcases Nat.eq_or_lt_of_le (Nat.le_of_lt_succ hj) with q | q
      · rw [q, pk_us]
      · rw [pk_un (by omega)]
        exact h0 j q)
    refine ⟨τ2, ?_, z2, z3, z4, f1.call z5 rfl rfl⟩
    rw [← z1]
    show fX12_show_0b12 (fX12_show_0l12 fu) (nI r) τ = _
    unfold fX12_show_0b12 fX12_show_0b20
    simp only [bd_e, h31, n_add1, show (nI r).toNatClampNeg = r from nI_clamp (by omega), heapOfRow_M (r := r) (by omega) hN h9 hM h86]
    rw [if_neg (fun q => absurd ((leN (by omega) (by omega)).mp q) (by omega))]
theorem show_both {V : Nat → Nat} {H : Nat → Bool} {c c1 N r2 r3 r4 r5 : Nat} {σ σ1 σ2 : ST} {v1 v2 : Int32} (hK : KH σ) (hB : FB V H c c1 N r2 r3 r4 r5 σ) (hJ : JS σ) (x1 : fX11_show_0 σ = (v1, σ1)) (x2 : fX12_show_0 σ1 = (v2, σ2)) : JS σ2 ∧ v1 = v2 := by
  obtain ⟨_, k2, k3, k4, k5⟩ := heapNow_X hK.1 hB.2.1
  have hN := hB.1.2.2.2.2.1.1
  have eX : fX11_show_0 σ = if (fX11_heapNow_0 σ).1 = 0 then (-2, (fX11_heapNow_0 σ).2) else fX11_show_0l12 4096 (nI 0) (fX11_heapNow_0 σ).2 := by
    unfold fX11_show_0 fX11_show_0b0 fX11_show_0b7 fX11_show_0b10
    simp only [bp_e, nI_0]
  have eM : ∀ τ, fX12_show_0 τ = if (fX12_findBest_0 τ).1 = 0 then (-2, (fX12_findBest_0 τ).2) else fX12_show_0l12 4096 (nI 0) (fX12_findBest_0 τ).2 := fun τ => by
    unfold fX12_show_0 fX12_show_0b0 fX12_show_0b7 fX12_show_0b10
    simp only [bp_e, nI_0]
  rw [eX] at x1
  rw [eM] at x2
  generalize gs : fX11_heapNow_0 σ = hs at *
  have hB1 := hB.fr k5 rfl
  rcases Nat.lt_or_ge 9 (CUT V H c N).1.1 with z | z
  · rw [if_pos (k3 z)] at x1
    have es := pin2 x1
    subst es
    obtain ⟨_, b2, _, b4⟩ := findBest_R hB1 k4 hB1.1.2.2.2.2.1
    rw [b2 z, if_pos rfl] at x2
    rw [← pin2 x2, ← pin1 x1, ← pin1 x2]
    exact ⟨(hJ.fr k5 rfl).fr b4 rfl, rfl⟩
  · obtain ⟨q1, q2, _⟩ := k2 z
    rw [if_neg (by rw [q1]; decide)] at x1
    obtain ⟨τ1, y1, y2, y3, y4⟩ := shX_l hN 4096 N 0 hs.2 (by omega) (by omega) hB1.1.2.2.2.2.1.2.1 k4 q2 (fun j hj => absurd hj (Nat.not_lt_zero _))
    rw [y1] at x1
    have er := pin1 x1
    have es := pin2 x1
    subst es
    have hB2 := hB1.fr y4 rfl
    obtain ⟨b1, _, _, _⟩ := findBest_R hB2 k4 hB1.1.2.2.2.2.1
    obtain ⟨τ2, w1, w2, _, _, w5, w6, w7⟩ := b1 z
    rw [w1, if_neg (show ¬ ((1 : Int32), τ2).1 = 0 from fun w => absurd (show (1 : Int32) = 0 from w) (by decide))] at x2
    have e31 : τ2.1 31 = nI N := by rw [w7.1 31 rfl]; exact hB2.1.2.2.2.2.2.2.1
    obtain ⟨τ3, u1, u2, u3, u4, u5⟩ := shM_l hN z 4096 N 0 τ2 (by omega) (by omega) e31 w6 w5 (fun j hj => absurd hj (Nat.not_lt_zero _))
    have x2' : fX12_show_0l12 4096 (nI 0) τ2 = (v2, σ2) := x2
    rw [u1] at x2'
    rw [← pin2 x2', ← er, ← pin1 x2']
    refine ⟨Or.inr ⟨u3, N, hN, ?_, u2, fun r hr => ?_⟩, rfl⟩
    · rw [u5.1 21 rfl, w7.1 21 rfl]
      exact y2
    · rw [u4 r hr, u5.2 65 rfl, w7.2 65 rfl]
      exact (y3 r hr).symm
theorem oth_l {V : Nat → Nat} {H : Nat → Bool} {c N r2 r4 S : Nat} {s τ : ST} (hN : N ≤ 48) (hS : S ≤ 48) (h9 : (CUT V H c N).1.1 ≤ 9) (h2 : s.1 2 = nI N) (h21 : s.1 21 = nI S) (h31 : τ.1 31 = nI N) (h33 : τ.1 33 = nI S) (hX : CUTX V H c N s) (hH : HPX V H c N r2 r4 s) (hM : FPM V H c N τ) (h86 : ∀ j, j < (CUT V H c N).1.1 → τ.2.2 86 j = nI ((BSc V H c N r2 r4).2.2 j)) (hs : ∀ r, r < S → τ.2.2 74 r = s.2.2 65 r) : ∀ (fu d r : Nat) (a : Int32), r + d = S → d < fu → (fX11_otherwise_0l22 fu a (nI r) s).1 = (fX12_otherwise_0l21 fu a (nI r) τ).1
  | 0, _, _, _, _, h => absurd h (Nat.not_lt_zero _)
  | fu + 1, 0, r, a, hd, _ => by
    show (fX11_otherwise_0b22 (fX11_otherwise_0l22 fu) a (nI r) s).1 = (fX12_otherwise_0b21 (fX12_otherwise_0l21 fu) a (nI r) τ).1
    unfold fX11_otherwise_0b22 fX12_otherwise_0b21 fX11_otherwise_0b64 fX12_otherwise_0b65
    simp only [bd_e, h21, h33]
    rw [if_pos ((leN (by omega) (by omega)).mpr (by omega)), if_pos ((leN (by omega) (by omega)).mpr (by omega))]
  | fu + 1, d + 1, r, a, hd, hf => by
    show (fX11_otherwise_0b22 (fX11_otherwise_0l22 fu) a (nI r) s).1 = (fX12_otherwise_0b21 (fX12_otherwise_0l21 fu) a (nI r) τ).1
    unfold fX11_otherwise_0b22 fX12_otherwise_0b21 fX11_otherwise_0b30 fX12_otherwise_0b29
    simp only [bd_e, h21, h33, h2, h31]
    have nS : ¬ nI S ≤ nI r := fun q => absurd ((leN (by omega) (by omega)).mp q) (by omega)
    rw [if_neg nS, if_neg nS]
    by_cases e : nI N ≤ nI r
    · rw [if_pos e, if_pos e]
      rfl
    · have e' : ¬ N ≤ r := fun w => e ((leN (by omega) (by omega)).mpr w)
      rw [if_neg e, if_neg e]
      unfold fX11_otherwise_0b41 fX12_otherwise_0b37 fX11_otherwise_0b55 fX11_otherwise_0b58 fX12_otherwise_0b52 fX12_otherwise_0b56 fX12_otherwise_0b57
      simp only [bd_e, n_add1, show (nI r).toNatClampNeg = r from nI_clamp (by omega), heapOfRow_X (r := r) (by omega) hX hH, heapOfRow_M (r := r) (by omega) hN h9 hM h86, hs r (by omega)]
      by_cases q : HRW V H c N r2 r4 r = s.2.2 65 r
      · rw [if_pos q, if_pos q.symm, Int32.add_zero]
        exact oth_l hN hS h9 h2 h21 h31 h33 hX hH hM h86 hs fu d (r + 1) a (by omega) (by omega)
      · rw [if_neg q, if_neg (fun w => q w.symm)]
        exact oth_l hN hS h9 h2 h21 h31 h33 hX hH hM h86 hs fu d (r + 1) (a + 1) (by omega) (by omega)
theorem otherwise_eq {V : Nat → Nat} {H : Nat → Bool} {c c1 N r2 r3 r4 r5 : Nat} {σ σ1 : ST} {v1 : Int32} (hK : KH σ) (hB : FB V H c c1 N r2 r3 r4 r5 σ) (hJ : JS σ) (x1 : fX11_otherwise_0 σ = (v1, σ1)) (f : Fr [(3, 12), (14, 18), (22, 23)] [(8, 19), (21, 29), (31, 47)] σ σ1) : v1 = (fX12_otherwise_0 σ1).1 := by
  obtain ⟨_, k2, k3, k4, k5⟩ := heapNow_X hK.1 hB.2.1
  have hN := hB.1.2.2.2.2.1.1
  have eX : fX11_otherwise_0 σ = if σ.1 21 = -1 then (-2, σ) else if (fX11_heapNow_0 σ).1 = 0 then (-2, (fX11_heapNow_0 σ).2) else fX11_otherwise_0l22 4096 0 (nI 0) (fX11_heapNow_0 σ).2 := by
    unfold fX11_otherwise_0 fX11_otherwise_0b0 fX11_otherwise_0b8 fX11_otherwise_0b15 fX11_otherwise_0b18
    simp only [bd_e, bp_e, nI_0]
  have eM : ∀ τ, fX12_otherwise_0 τ = if τ.1 34 = 0 then (-2, τ) else if (fX12_findBest_0 τ).1 = 0 then (-2, (fX12_findBest_0 τ).2) else fX12_otherwise_0l21 4096 0 (nI 0) (fX12_findBest_0 τ).2 := fun τ => by
    unfold fX12_otherwise_0 fX12_otherwise_0b0 fX12_otherwise_0b7 fX12_otherwise_0b14 fX12_otherwise_0b17
    simp only [bd_e, bp_e, nI_0]
  have hB1 := hB.fr f rfl
  have hJ1 := hJ.fr f rfl
  rw [eX] at x1
  rw [eM]
  rcases hJ with ⟨j1, j2⟩ | ⟨j1, S, hS, j2, j3, j4⟩
  · rw [if_pos j2] at x1
    rw [if_pos ((f.1 34 rfl).trans j1), ← pin1 x1]
  · rw [if_neg (by rw [j2]; exact neg1_nI (by omega))] at x1
    rw [if_neg (by rw [f.1 34 rfl, j1]; decide)]
    have hXs := k4
    generalize gs : fX11_heapNow_0 σ = hs at *
    obtain ⟨b1, b2, _, _⟩ := findBest_R hB1 k4 (hB.fr k5 rfl).1.2.2.2.2.1
    rcases Nat.lt_or_ge 9 (CUT V H c N).1.1 with z | z
    · rw [if_pos (k3 z)] at x1
      rw [b2 z, if_pos rfl, ← pin1 x1]
    · obtain ⟨q1, q2, _⟩ := k2 z
      rw [if_neg (by rw [q1]; decide)] at x1
      obtain ⟨τ2, w1, w2, _, _, w5, w6, w7⟩ := b1 z
      rw [w1, if_neg (show ¬ ((1 : Int32), τ2).1 = 0 from fun w => absurd (show (1 : Int32) = 0 from w) (by decide))]
      have z1 := oth_l (s := hs.2) (τ := τ2) hN hS z (by rw [k5.1 2 rfl]; exact hB.1.2.2.2.2.1.2.1) (by rw [k5.1 21 rfl]; exact j2) (by rw [w7.1 31 rfl]; exact hB1.1.2.2.2.2.2.2.1) (by rw [w7.1 33 rfl, f.1 33 rfl]; exact j3) k4 q2 w6 w5 (fun r hr => by rw [w7.2 74 rfl, f.2 74 rfl, k5.2 65 rfl]; exact j4 r hr) 4096 S 0 0 (by omega) (by omega)
      rw [x1] at z1
      exact z1
