/-! links are small -/
theorem mul_small {x : Int32} {m : Nat} (hx : -399 ≤ x.toInt ∧ x.toInt ≤ 399) (hm : m ≤ 48) : -19152 ≤ (x * nI m).toInt ∧ (x * nI m).toInt ≤ 19152 := by
  have em : (nI m).toInt = (m : Int) := nI_toInt (by omega)
  have b : -19152 ≤ x.toInt * (m : Int) ∧ x.toInt * (m : Int) ≤ 19152 := by
    have h1 : x.toInt * (m : Int) ≤ 399 * (m : Int) := Int.mul_le_mul_of_nonneg_right hx.2 (by omega)
    have h2 : -399 * (m : Int) ≤ x.toInt * (m : Int) := Int.mul_le_mul_of_nonneg_right hx.1 (by omega)
    omega
  rw [Int32.toInt_mul, em, Int.bmod_eq_of_le (by omega) (by omega)]
  exact b
theorem LK_bound {V : Nat → Nat} {H : Nat → Bool} {c c1 N : Nat} {σ : ST} {r2 r4 : Nat} (hX : CUTX V H c N σ) (hR : RWX V H c1 N σ) (h2 : r2 ≤ 399) (h4 : r4 ≤ 999) {i j : Nat} (hi : i < (CUT V H c N).1.1) (hj : j < (CUT V H c N).1.1) : -20200 ≤ (LK (nI r2) (nI r4) σ i j).toInt ∧ (LK (nI r2) (nI r4) σ i j).toInt ≤ 20200 := by
  have hn := hX.2.2.2.2
  have hN := hR.1
  obtain ⟨_, a2, _, _, a5⟩ := hX.1.2.1 i hi
  obtain ⟨_, b2, _, _, b5⟩ := hX.1.2.1 j hj
  have pi := CUT_pb V H c N i hi
  have pj := CUT_pb V H c N j hj
  have ov := off_val (σ := σ) (p := i) (q := j) (f := fun k => MI (cvW V ((CUT V H c N).1.2.1 i).1) ((CUT V H c N).1.2.1 i).2.1 k) (g := fun k => MI (cvW V ((CUT V H c N).1.2.1 j).1) ((CUT V H c N).1.2.1 j).2.1 k) (by omega) (by omega) (fun k hk => ⟨a5 k hk, MI_99 hR hi hk⟩) (fun k hk => ⟨b5 k hk, MI_99 hR hj hk⟩) 4096 4 0 0 (by omega) (by omega)
  have os : sumTo (fun k => ad (MI (cvW V ((CUT V H c N).1.2.1 i).1) ((CUT V H c N).1.2.1 i).2.1 k) (MI (cvW V ((CUT V H c N).1.2.1 j).1) ((CUT V H c N).1.2.1 j).2.1 k)) 4 ≤ 4 * 99 := sumTo_le 4 fun k hk => by
    have m1 := MI_99 hR hi hk
    have m2 := MI_99 hR hj hk
    unfold ad
    omega
  generalize hD : sumTo (fun k => ad (MI (cvW V ((CUT V H c N).1.2.1 i).1) ((CUT V H c N).1.2.1 i).2.1 k) (MI (cvW V ((CUT V H c N).1.2.1 j).1) ((CUT V H c N).1.2.1 j).2.1 k)) 4 = D at *
  have ov' : fX11_off_0 (nI (i * 4)) (nI (j * 4)) σ = nI D := by
    have z0 : nI (0 + sumTo (fun k => ad ((fun k => MI (cvW V ((CUT V H c N).1.2.1 i).1) ((CUT V H c N).1.2.1 i).2.1 k) k) ((fun k => MI (cvW V ((CUT V H c N).1.2.1 j).1) ((CUT V H c N).1.2.1 j).2.1 k) k)) 0) = (0 : Int32) := nI_0
    rw [z0, Nat.zero_add] at ov
    rw [off_in (by omega) (by omega), ← nI_0]
    rw [nI_0] at ov ⊢
    exact ov
  have lv : ∃ m, m ≤ 48 ∧ fX2_likeness_0 (nI i) (nI j) (nI r2) σ = (nI r2 - nI D) * nI m := by
    unfold fX2_likeness_0 fX2_likeness_0b0
    simp only [bd_e, n_mul4, ov', show (nI i).toNatClampNeg = i from nI_clamp (by omega), show (nI j).toNatClampNeg = j from nI_clamp (by omega), a2, b2]
    by_cases c : nI ((CUT V H c N).1.2.1 j).2.1 < nI ((CUT V H c N).1.2.1 i).2.1
    · rw [if_pos c]
      exact ⟨_, by omega, rfl⟩
    · rw [if_neg c]
      exact ⟨_, by omega, rfl⟩
  obtain ⟨m, hm, el⟩ := lv
  have s := subI (a := r2) (b := D) (by omega) (by omega)
  obtain ⟨k1, k2⟩ := mul_small (x := nI r2 - nI D) (m := m) (by omega) hm
  have e4 : (nI r4).toInt = (r4 : Int) := nI_toInt (by omega)
  unfold LK
  rw [el]
  by_cases t : fX2_doTouch_0 (nI i) (nI j) σ = 0
  · rw [if_pos t, Int32.sub_zero]
    omega
  · rw [if_neg t, Int32.toInt_sub, e4, Int.bmod_eq_of_le (by omega) (by omega)]
    omega
