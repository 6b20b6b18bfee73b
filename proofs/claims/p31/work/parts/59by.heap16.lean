/-! links as numbers of the cut alone -/
def OFv (V : Nat → Nat) (s : PSt) (i j : Nat) : Nat := sumTo (fun k => ad (MI (cvW V (s.2.1 i).1) (s.2.1 i).2.1 k) (MI (cvW V (s.2.1 j).1) (s.2.1 j).2.1 k)) 4
def LKv (V : Nat → Nat) (s : PSt) (r2 r4 i j : Nat) : Int32 := (nI r2 - nI (OFv V s i j)) * nI (min (s.2.1 i).2.1 (s.2.1 j).2.1) - (if TCH s i j = true then nI r4 else 0)
theorem ad_comm (a b : Nat) : ad a b = ad b a := by
  unfold ad
  omega
theorem OFv_comm (V : Nat → Nat) (s : PSt) (i j : Nat) : OFv V s i j = OFv V s j i := sumTo_congr 4 fun _ _ => ad_comm _ _
theorem LKv_comm (V : Nat → Nat) (s : PSt) (r2 r4 i j : Nat) : LKv V s r2 r4 i j = LKv V s r2 r4 j i := by
  unfold LKv
  rw [OFv_comm, TCH_comm, Nat.min_comm]
theorem OFv_val {V : Nat → Nat} {H : Nat → Bool} {c c1 N : Nat} {σ : ST} (hX : CUTX V H c N σ) (hR : RWX V H c1 N σ) {i j : Nat} (hi : i < (CUT V H c N).1.1) (hj : j < (CUT V H c N).1.1) : fX11_off_0 (nI (i * 4)) (nI (j * 4)) σ = nI (OFv V (CUT V H c N).1 i j) ∧ OFv V (CUT V H c N).1 i j ≤ 396 := by
  have hn := hX.2.2.2.2
  obtain ⟨_, _, _, _, a5⟩ := hX.1.2.1 i hi
  obtain ⟨_, _, _, _, b5⟩ := hX.1.2.1 j hj
  have ov := off_val (σ := σ) (p := i) (q := j) (f := fun k => MI (cvW V ((CUT V H c N).1.2.1 i).1) ((CUT V H c N).1.2.1 i).2.1 k) (g := fun k => MI (cvW V ((CUT V H c N).1.2.1 j).1) ((CUT V H c N).1.2.1 j).2.1 k) (by omega) (by omega) (fun k hk => ⟨a5 k hk, MI_99 hR hi hk⟩) (fun k hk => ⟨b5 k hk, MI_99 hR hj hk⟩) 4096 4 0 0 (by omega) (by omega)
  have os : OFv V (CUT V H c N).1 i j ≤ 4 * 99 := sumTo_le 4 fun k hk => by
    have m1 := MI_99 hR hi hk
    have m2 := MI_99 hR hj hk
    unfold ad
    omega
  have z0 : nI (0 + sumTo (fun k => ad ((fun k => MI (cvW V ((CUT V H c N).1.2.1 i).1) ((CUT V H c N).1.2.1 i).2.1 k) k) ((fun k => MI (cvW V ((CUT V H c N).1.2.1 j).1) ((CUT V H c N).1.2.1 j).2.1 k) k)) 0) = (0 : Int32) := nI_0
  rw [z0, Nat.zero_add] at ov
  refine ⟨?_, by omega⟩
  rw [off_in (by omega) (by omega), ← nI_0]
  rw [nI_0] at ov ⊢
  exact ov
theorem LK_val {V : Nat → Nat} {H : Nat → Bool} {c c1 N : Nat} {σ : ST} {r2 r4 : Nat} (hX : CUTX V H c N σ) (hR : RWX V H c1 N σ) {i j : Nat} (hi : i < (CUT V H c N).1.1) (hj : j < (CUT V H c N).1.1) : LK (nI r2) (nI r4) σ i j = LKv V (CUT V H c N).1 r2 r4 i j := by
  have hn := hX.2.2.2.2
  have hN := hR.1
  obtain ⟨_, a2, _, _, _⟩ := hX.1.2.1 i hi
  obtain ⟨_, b2, _, _, _⟩ := hX.1.2.1 j hj
  have pi := CUT_pb V H c N i hi
  have pj := CUT_pb V H c N j hj
  have ov := (OFv_val hX hR hi hj).1
  have el : fX2_likeness_0 (nI i) (nI j) (nI r2) σ = (nI r2 - nI (OFv V (CUT V H c N).1 i j)) * nI (min ((CUT V H c N).1.2.1 i).2.1 ((CUT V H c N).1.2.1 j).2.1) := by
    unfold fX2_likeness_0 fX2_likeness_0b0
    simp only [bd_e, n_mul4, ov, show (nI i).toNatClampNeg = i from nI_clamp (by omega), show (nI j).toNatClampNeg = j from nI_clamp (by omega), a2, b2]
    by_cases w : nI ((CUT V H c N).1.2.1 j).2.1 < nI ((CUT V H c N).1.2.1 i).2.1
    · rw [if_pos w, show min ((CUT V H c N).1.2.1 i).2.1 ((CUT V H c N).1.2.1 j).2.1 = ((CUT V H c N).1.2.1 j).2.1 by
        have := y_lt (by omega) (by omega) w
        omega]
    · rw [if_neg w, show min ((CUT V H c N).1.2.1 i).2.1 ((CUT V H c N).1.2.1 j).2.1 = ((CUT V H c N).1.2.1 i).2.1 by
        have : ¬ ((CUT V H c N).1.2.1 j).2.1 < ((CUT V H c N).1.2.1 i).2.1 := fun q => w ((nI_ltI (by omega) (by omega)).mpr q)
        omega]
  unfold LK LKv
  rw [el, touch_X hX hN hi hj]
  by_cases t : TCH (CUT V H c N).1 i j = true
  · rw [if_pos t, if_pos t, if_neg (show ¬ (1 : Int32) = 0 by decide)]
  · rw [if_neg t, if_neg t, if_pos rfl]
theorem LKv_bound {V : Nat → Nat} {H : Nat → Bool} {c c1 N : Nat} {σ : ST} {r2 r4 : Nat} (hX : CUTX V H c N σ) (hR : RWX V H c1 N σ) (h2 : r2 ≤ 399) (h4 : r4 ≤ 999) {i j : Nat} (hi : i < (CUT V H c N).1.1) (hj : j < (CUT V H c N).1.1) : -20200 ≤ (LKv V (CUT V H c N).1 r2 r4 i j).toInt ∧ (LKv V (CUT V H c N).1 r2 r4 i j).toInt ≤ 20200 := by
  rw [← LK_val hX hR hi hj]
  exact LK_bound hX hR h2 h4 hi hj
/-! the rows of a set, in order; its middle -/
def nth (A : Nat → Bool) (j : Nat) : Nat → Nat
  | 0 => 0
  | r + 1 => if A r = true ∧ cn A r = j then r else nth A j r
theorem nth_e {A : Nat → Bool} {r : Nat} (hA : A r = true) : ∀ d, nth A (cn A r) (r + 1 + d) = r
  | 0 => if_pos ⟨hA, rfl⟩
  | d + 1 => by
    have e : nth A (cn A r) (r + 1 + (d + 1)) = if A (r + 1 + d) = true ∧ cn A (r + 1 + d) = cn A r then r + 1 + d else nth A (cn A r) (r + 1 + d) := rfl
    have m := cn_mono A (r := r + 1) d
    have s : cn A (r + 1) = cn A r + (if A r = true then 1 else 0) := rfl
    rw [if_pos hA] at s
    rw [e, if_neg (fun q => by have := q.2; omega)]
    exact nth_e hA d
theorem nth_in {A : Nat → Bool} {j : Nat} : ∀ N, j < cn A N → nth A j N < N ∧ A (nth A j N) = true
  | 0, h => absurd h (Nat.not_lt_zero _)
  | r + 1, h => by
    have s : cn A (r + 1) = cn A r + (if A r = true then 1 else 0) := rfl
    have e : nth A j (r + 1) = if A r = true ∧ cn A r = j then r else nth A j r := rfl
    rw [e]
    by_cases q : A r = true ∧ cn A r = j
    · rw [if_pos q]
      exact ⟨Nat.lt_succ_self _, q.1⟩
    · rw [if_neg q]
      have h' : j < cn A r := by
        by_cases a : A r = true
        · rw [if_pos a] at s
          have : ¬ cn A r = j := fun w => q ⟨a, w⟩
          omega
        · rw [if_neg a] at s
          omega
      obtain ⟨k1, k2⟩ := nth_in r h'
      exact ⟨by omega, k2⟩
/-- the numbers of the rows of a set, in order -/
def wH (V : Nat → Nat) (A : Nat → Bool) (N : Nat) : Nat → Nat → Nat := fun k j => V (4 * nth A j N + k)
theorem wH_e {V : Nat → Nat} {A : Nat → Bool} {N r : Nat} (hr : r < N) (hA : A r = true) (k : Nat) : wH V A N k (cn A r) = V (4 * r + k) := by
  unfold wH
  obtain ⟨d, rfl⟩ : ∃ d, N = r + 1 + d := ⟨N - (r + 1), by omega⟩
  rw [nth_e hA]
/-- the middle of the rows of a set -/
def MH (V : Nat → Nat) (A : Nat → Bool) (N k : Nat) : Nat := MI (wH V A N) (cn A N) k
theorem MH_le {V : Nat → Nat} {A : Nat → Bool} {N k : Nat} (h : ∀ r, r < N → A r = true → V (4 * r + k) ≤ 99) : MH V A N k ≤ 99 := MI_le fun j hj => by
  obtain ⟨a, b⟩ := nth_in N hj
  exact h _ a b
