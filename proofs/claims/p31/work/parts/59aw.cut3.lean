/-! the reference finds the middle and the spread of the rows that are asked for -/
def cn (A : Nat → Bool) (r : Nat) : Nat := sumTo (fun j => if A j = true then 1 else 0) r
theorem cn_le (A : Nat → Bool) (r : Nat) : cn A r ≤ r := by
  have h := sumTo_le (g := fun j => if A j = true then 1 else 0) (b := 1) r (fun j _ => by split <;> omega)
  unfold cn
  omega
theorem cn_mono (A : Nat → Bool) {r : Nat} : ∀ m, cn A r ≤ cn A (r + m)
  | 0 => Nat.le_refl _
  | m + 1 => Nat.le_trans (cn_mono A m) (Nat.le_add_right _ _)
theorem midI_l {K7 : Int32 → ST → ST} {K : Int32 → Int32 → Int32 → ST → ST} {a b c : Int32} {x : Nat} {L : Nat → Nat} (hx : x < 2 ^ 30) : ∀ (fu p : Nat) (τ : ST), p < fu → p < 48 → (∀ j, j < p → τ.2.2 82 j = nI (L j)) → (∀ j, j < p → L j < 2 ^ 30) → ∃ τ', fX12_findMiddle_0l48 K7 K fu a b c (nI x) (nI p) τ = K a (b + 1) (c + 1) τ' ∧ (∀ j, j < p + 1 → τ'.2.2 82 j = nI (insV L x p j)) ∧ (∀ j, p < j → τ'.2.2 82 j = τ.2.2 82 j) ∧ Fr [] [(82, 82)] τ τ'
  | 0, _, _, h, _, _, _ => absurd h (Nat.not_lt_zero _)
  | fu + 1, 0, τ, _, _, _, _ => by
    refine ⟨sA τ 82 (upd (τ.2.2 82) 0 (nI x)), ?_, fun j hj => ?_, fun j hj => ?_, (Fr.refl τ).putA rfl⟩
    · show fX12_findMiddle_0b48 K7 K (fX12_findMiddle_0l48 K7 K fu) a b c (nI x) (nI 0) τ = _
      unfold fX12_findMiddle_0b48 fX12_findMiddle_0b89 fX12_findMiddle_0b101
      rw [if_pos (show nI 0 ≤ 0 by decide)]
      simp only [bd_e, show (nI 0).toNatClampNeg = 0 from nI_clamp (by omega)]
    · rw [show j = 0 by omega, sA_eq, pk_us, ins_0]
    · rw [sA_eq, pk_un (by omega)]
  | fu + 1, p + 1, τ, h, h48, hL, hb => by
    have e0 : fX12_findMiddle_0l48 K7 K (fu + 1) a b c (nI x) (nI (p + 1)) τ = fX12_findMiddle_0b48 K7 K (fX12_findMiddle_0l48 K7 K fu) a b c (nI x) (nI (p + 1)) τ := rfl
    have bp := hb p (by omega)
    rw [e0]
    unfold fX12_findMiddle_0b48 fX12_findMiddle_0b53
    rw [if_neg (show ¬ nI (p + 1) ≤ 0 from fun q => absurd ((leN (a := p + 1) (b := 0) (by omega) (by omega)).mp q) (by omega))]
    simp only [bd_e, nI_pred, show (nI p).toNatClampNeg = p from nI_clamp (by omega), hL p (by omega), leN (a := L p) (b := x) (by omega) (by omega)]
    by_cases q : L p ≤ x
    · rw [if_pos q]
      refine ⟨sA τ 82 (upd (τ.2.2 82) (p + 1) (nI x)), ?_, fun j hj => ?_, fun j hj => ?_, (Fr.refl τ).putA rfl⟩
      · unfold fX12_findMiddle_0b89 fX12_findMiddle_0b101
        simp only [bd_e, show (nI (p + 1)).toNatClampNeg = p + 1 from nI_clamp (by omega)]
      · rw [sA_eq, ins_S q]
        by_cases d : j = p + 1
        · rw [if_pos d, d, pk_us]
        · rw [if_neg d, pk_un d, hL j (by omega)]
      · rw [sA_eq, pk_un (by omega)]
    · rw [if_neg q]
      unfold fX12_findMiddle_0b67
      simp only [bd_e, nI_pred, y_m1, show (nI p).toNatClampNeg = p from nI_clamp (by omega), show (nI (p + 1)).toNatClampNeg = p + 1 from nI_clamp (by omega), hL p (by omega)]
      obtain ⟨τ', y1, y2, y5, y4⟩ := midI_l hx fu p (K7 := K7) (K := K) (a := a) (b := b) (c := c) (L := L) (sA τ 82 (upd (τ.2.2 82) (p + 1) (nI (L p)))) (by omega) (by omega) (fun j hj => by rw [sA_eq, pk_un (by omega), hL j (by omega)]) (fun j hj => hb j (by omega))
      refine ⟨τ', y1, fun j hj => ?_, fun j hj => ?_, ((Fr.refl τ).putA rfl).call y4 rfl rfl⟩
      · rw [ins_N q]
        by_cases d : j = p + 1
        · rw [if_pos d, d, y5 (p + 1) (by omega), sA_eq, pk_us]
        · rw [if_neg d, y2 j (by omega)]
      · rw [y5 j (by omega), sA_eq, pk_un (by omega)]
/-- the rows asked for, as the reference's arrays say: A, of N; w: their values, by column and place -/
def ASK (A : Nat → Bool) (N : Nat) (w : Nat → Nat → Nat) (σ : ST) : Prop := N ≤ 48 ∧ σ.1 31 = nI N ∧ (∀ r, r < N → σ.2.2 80 r = if A r = true then 1 else 0) ∧ (∀ r, r < N → A r = true → ∀ k, k < 4 → σ.2.2 68 (4 * r + k) = nI (w k (cn A r))) ∧ (∀ k, k < 4 → ∀ j, j < cn A N → w k j ≤ 99)
theorem ASK.fr {A : Nat → Bool} {N : Nat} {w : Nat → Nat → Nat} {I J : List (Nat × Nat)} {σ τ : ST} (h : ASK A N w σ) (f : Fr I J σ τ) (hh : (!inR I 31 && !inR J 80 && !inR J 68) = true) : ASK A N w τ := by
  simp only [Bool.and_eq_true, Bool.not_eq_true'] at hh
  obtain ⟨⟨h1, h2⟩, h3⟩ := hh
  refine ⟨h.1, (f.1 _ h1).trans h.2.1, ?_, ?_, h.2.2.2.2⟩
  · rw [f.2 _ h2]
    exact h.2.2.1
  · rw [f.2 _ h3]
    exact h.2.2.2.1
theorem mid16_l {K7 : Int32 → ST → ST} {A : Nat → Bool} {N : Nat} {w : Nat → Nat → Nat} {k : Nat} (hk : k < 4) : ∀ (fu m r : Nat) (τ : ST), r + m = N → m < fu → ASK A N w τ → (∀ j, j < cn A r → τ.2.2 82 j = nI (srt (w k) (cn A r) j)) → ∃ τ', fX12_findMiddle_0l16 K7 fu (nI k) (nI (cn A r)) (nI r) τ = fX12_findMiddle_0b107 K7 (nI k) (nI (cn A N)) τ' ∧ (∀ j, j < cn A N → τ'.2.2 82 j = nI (srt (w k) (cn A N) j)) ∧ Fr [] [(82, 82)] τ τ'
  | 0, _, _, _, _, h, _, _ => absurd h (Nat.not_lt_zero _)
  | fu + 1, 0, r, τ, hr, _, hA, hL => by
    have hN := hA.1
    have r0 : r = N := by omega
    subst r0
    refine ⟨τ, ?_, hL, Fr.refl τ⟩
    show fX12_findMiddle_0b16 K7 (fX12_findMiddle_0l16 K7 fu) (nI k) (nI (cn A r)) (nI r) τ = _
    unfold fX12_findMiddle_0b16
    simp only [bd_e, hA.2.1]
    rw [if_pos ((leN (by omega) (by omega)).mpr (Nat.le_refl _))]
  | fu + 1, m + 1, r, τ, hr, hf, hA, hL => by
    have hN := hA.1
    have e0 : fX12_findMiddle_0l16 K7 (fu + 1) (nI k) (nI (cn A r)) (nI r) τ = fX12_findMiddle_0b16 K7 (fX12_findMiddle_0l16 K7 fu) (nI k) (nI (cn A r)) (nI r) τ := rfl
    have c1 := cn_le A r
    have c2 := cn_mono A (r := r) (m + 1)
    rw [hr] at c2
    rw [e0]
    unfold fX12_findMiddle_0b16 fX12_findMiddle_0b24
    simp only [bd_e, hA.2.1, show (nI r).toNatClampNeg = r from nI_clamp (by omega), hA.2.2.1 r (by omega)]
    rw [if_neg (fun q => absurd ((leN (by omega) (by omega)).mp q) (by omega))]
    by_cases c : A r = true
    · have cs : cn A (r + 1) = cn A r + 1 := by
        show cn A r + (if A r = true then 1 else 0) = _
        rw [if_pos c]
      have c3 := cn_mono A (r := r + 1) m
      rw [show r + 1 + m = N by omega, cs] at c3
      have hv := hA.2.2.2.2 k hk
      rw [if_pos c, if_neg (show ¬ (1 : Int32) = 0 by decide)]
      unfold fX12_findMiddle_0b33
      simp only [bd_e, n_4mul, nI_add, show (nI (4 * r + k)).toNatClampNeg = 4 * r + k from nI_clamp (by omega), hA.2.2.2.1 r (by omega) c k hk]
      have wj := srt_le (v := w k) (b := 99) (cn A r) (fun j hj => hv j (by omega))
      have wn := hv (cn A r) (by omega)
      obtain ⟨τ1, y1, y2, _, y4⟩ := midI_l (show w k (cn A r) < 2 ^ 30 by omega) 4096 (cn A r) (K7 := K7) (K := fX12_findMiddle_0l16 K7 fu) (a := nI k) (b := nI (cn A r)) (c := nI r) (L := srt (w k) (cn A r)) τ (by omega) (by omega) hL (fun j hj => Nat.lt_of_le_of_lt (wj j hj) (by omega))
      obtain ⟨τ2, z1, z2, z3⟩ := mid16_l hk fu m (r + 1) τ1 (K7 := K7) (by omega) (by omega) (hA.fr y4 rfl) (by rw [cs]; exact y2)
      rw [y1, n_add1, n_add1, ← cs]
      exact ⟨τ2, z1, z2, y4.call z3 rfl rfl⟩
    · have cs : cn A (r + 1) = cn A r := by
        show cn A r + (if A r = true then 1 else 0) = _
        rw [if_neg c]
        rfl
      rw [if_neg c, if_pos rfl]
      unfold fX12_findMiddle_0b101
      simp only [bd_e, n_add1]
      obtain ⟨τ2, z1, z2, z3⟩ := mid16_l hk fu m (r + 1) τ (K7 := K7) (by omega) (by omega) hA (by rw [cs]; exact hL)
      rw [cs] at z1
      exact ⟨τ2, z1, z2, z3⟩
theorem ab_pos {a b : Nat} (ha : a < 2 ^ 30) (hb : b < 2 ^ 30) : (0 ≤ nI a - nI b) ↔ b ≤ a := by
  have z : (0 : Int32).toInt = 0 := rfl
  rw [Int32.le_iff_toInt_le, subI ha hb, z]
  omega
theorem ab_1 {a b : Nat} (h : b ≤ a) : nI a - nI b = nI (ad a b) := by
  rw [pk_sub h]
  unfold ad
  rw [show a - b + (b - a) = a - b by omega]
theorem ab_2 {a b : Nat} (h : a ≤ b) : -(nI a - nI b) = nI (ad a b) := by
  rw [Int32.neg_sub, pk_sub h]
  unfold ad
  rw [show a - b + (b - a) = b - a by omega]
theorem mid135_l {K7 : Int32 → ST → ST} {k n c : Nat} {L : Nat → Nat} (hk : k < 4) (hn : n ≤ 48) (hc : c ≤ 99) (hL : ∀ j, j < n → L j ≤ 99) : ∀ (fu m j S : Nat) (τ : ST), j + m = n → m < fu → τ.2.2 81 k = nI c → (∀ j, j < n → τ.2.2 82 j = nI (L j)) → τ.1 38 = nI (S + Dv L j c) → ∃ τ', fX12_findMiddle_0l135 K7 fu (nI k) (nI n) (nI j) τ = K7 (nI (k + 1)) τ' ∧ τ'.1 38 = nI (S + Dv L n c) ∧ Fr [(38, 38)] [] τ τ'
  | 0, _, _, _, _, _, h, _, _, _ => absurd h (Nat.not_lt_zero _)
  | fu + 1, 0, j, S, τ, hj, _, h81, h82, h38 => by
    have j0 : j = n := by omega
    subst j0
    refine ⟨τ, ?_, h38, Fr.refl τ⟩
    show fX12_findMiddle_0b135 K7 (fX12_findMiddle_0l135 K7 fu) (nI k) (nI j) (nI j) τ = _
    unfold fX12_findMiddle_0b135 fX12_findMiddle_0b183
    rw [if_pos ((leN (by omega) (by omega)).mpr (Nat.le_refl _))]
    simp only [bd_e, n_add1]
  | fu + 1, m + 1, j, S, τ, hj, hf, h81, h82, h38 => by
    have e0 : fX12_findMiddle_0l135 K7 (fu + 1) (nI k) (nI n) (nI j) τ = fX12_findMiddle_0b135 K7 (fX12_findMiddle_0l135 K7 fu) (nI k) (nI n) (nI j) τ := rfl
    have hj1 := hL j (by omega)
    have fin : fX12_findMiddle_0b173 K7 (fX12_findMiddle_0l135 K7 fu) (nI k) (nI n) (nI j) (nI (ad (L j) c)) (nI (S + Dv L j c)) τ = fX12_findMiddle_0l135 K7 fu (nI k) (nI n) (nI (j + 1)) (sI τ 38 (nI (S + Dv L (j + 1) c))) := by
      unfold fX12_findMiddle_0b173
      simp only [bd_e, n_add1, nI_add]
      rw [show S + Dv L j c + ad (L j) c = S + Dv L (j + 1) c from Nat.add_assoc _ _ _]
    obtain ⟨τ2, z1, z2, z3⟩ := mid135_l hk hn hc hL fu m (j + 1) S (sI τ 38 (nI (S + Dv L (j + 1) c))) (K7 := K7) (by omega) (by omega) h81 h82 (sI_eq _ _ _)
    refine ⟨τ2, ?_, z2, ((Fr.refl τ).putI rfl).call z3 rfl rfl⟩
    rw [e0, ← z1, ← fin]
    unfold fX12_findMiddle_0b135 fX12_findMiddle_0b140
    rw [if_neg (fun q => absurd ((leN (by omega) (by omega)).mp q) (by omega))]
    simp only [bd_e, show (nI j).toNatClampNeg = j from nI_clamp (by omega), show (nI k).toNatClampNeg = k from nI_clamp (by omega), h81, h82 j (by omega), h38, ab_pos (a := L j) (b := c) (by omega) (by omega)]
    by_cases q : c ≤ L j
    · rw [if_pos q, ab_1 q]
      rfl
    · rw [if_neg q]
      unfold fX12_findMiddle_0b165
      simp only [bd_e]
      rw [ab_2 (by omega)]
/-- the middle of column k -/
def MI (w : Nat → Nat → Nat) (n k : Nat) : Nat := if n = 0 then 0 else srt (w k) n ((n - 1) / 2)
theorem MI_le {w : Nat → Nat → Nat} {n k : Nat} (h : ∀ j, j < n → w k j ≤ 99) : MI w n k ≤ 99 := by
  unfold MI
  by_cases c : n = 0
  · rw [if_pos c]
    omega
  · rw [if_neg c]
    exact srt_le n h _ (by omega)
theorem mid7_l {A : Nat → Bool} {N : Nat} {w : Nat → Nat → Nat} : ∀ (fu m k : Nat) (τ : ST), k + m = 4 → m < fu → ASK A N w τ → (∀ i, i < k → τ.2.2 81 i = nI (MI w (cn A N) i)) → τ.1 38 = nI (sumTo (fun i => DD (srt (w i) (cn A N)) (cn A N)) k) → ∃ τ', fX12_findMiddle_0l7 fu (nI k) τ = τ' ∧ (∀ i, i < 4 → τ'.2.2 81 i = nI (MI w (cn A N) i)) ∧ τ'.1 38 = nI (SP w (cn A N)) ∧ Fr [(38, 38)] [(81, 82)] τ τ'
  | 0, _, _, _, _, h, _, _, _ => absurd h (Nat.not_lt_zero _)
  | fu + 1, 0, k, τ, hk, _, hA, hM, h38 => by
    have k4 : k = 4 := by omega
    subst k4
    refine ⟨τ, ?_, hM, h38, Fr.refl τ⟩
    show fX12_findMiddle_0b7 (fX12_findMiddle_0l7 fu) (nI 4) τ = _
    unfold fX12_findMiddle_0b7
    rw [if_pos (show 4 ≤ nI 4 by decide)]
    rfl
  | fu + 1, m + 1, k, τ, hk, hf, hA, hM, h38 => by
    have hk4 : k < 4 := by omega
    have hN := hA.1
    have hcn := cn_le A N
    have wv := hA.2.2.2.2 k hk4
    have ws := srt_le (v := w k) (b := 99) (cn A N) wv
    have wm := MI_le (w := w) (n := cn A N) (k := k) wv
    obtain ⟨τ1, y1, y2, y3⟩ := mid16_l hk4 4096 N 0 τ (K7 := fX12_findMiddle_0l7 fu) (by omega) (by omega) hA (fun j hj => absurd hj (Nat.not_lt_zero _))
    have e1 : fX12_findMiddle_0b107 (fX12_findMiddle_0l7 fu) (nI k) (nI (cn A N)) τ1 = fX12_findMiddle_0l135 (fX12_findMiddle_0l7 fu) 4096 (nI k) (nI (cn A N)) (nI 0) (sA τ1 81 (upd (τ1.2.2 81) k (nI (MI w (cn A N) k)))) := by
      unfold fX12_findMiddle_0b107 MI
      by_cases c : cn A N = 0
      · rw [c, if_pos nI_0, if_pos rfl]
        unfold fX12_findMiddle_0b116 fX12_findMiddle_0b132
        simp only [bd_e, show (nI k).toNatClampNeg = k from nI_clamp (by omega), nI_0]
      · rw [if_neg (show ¬ nI (cn A N) = 0 from fun q => c ((nI_eq (b := 0) (by omega) (by omega)).mp (q.trans nI_0.symm))), if_neg c]
        unfold fX12_findMiddle_0b120 fX12_findMiddle_0b132
        have d1 : (nI (cn A N) + 1) / 2 - 1 = nI ((cn A N - 1) / 2) := by
          rw [n_add1, show nI (cn A N + 1) / 2 = nI ((cn A N + 1) / 2) from pk_div (d := 2) (by omega) (by omega) (by omega), show nI ((cn A N + 1) / 2) - 1 = nI ((cn A N + 1) / 2 - 1) from pk_sub (b := 1) (by omega), show (cn A N + 1) / 2 - 1 = (cn A N - 1) / 2 by omega]
        simp only [bd_e, d1, show (nI ((cn A N - 1) / 2)).toNatClampNeg = (cn A N - 1) / 2 from nI_clamp (by omega), show (nI k).toNatClampNeg = k from nI_clamp (by omega), y2 ((cn A N - 1) / 2) (by omega), nI_0]
    have f1 : Fr [(38, 38)] [(81, 82)] τ (sA τ1 81 (upd (τ1.2.2 81) k (nI (MI w (cn A N) k)))) := ((Fr.refl τ).call y3 rfl rfl).putA rfl
    obtain ⟨τ2, z1, z2, z3⟩ := mid135_l hk4 (show cn A N ≤ 48 by omega) wm ws 4096 (cn A N) 0 (sumTo (fun i => DD (srt (w i) (cn A N)) (cn A N)) k) (sA τ1 81 (upd (τ1.2.2 81) k (nI (MI w (cn A N) k)))) (K7 := fX12_findMiddle_0l7 fu) (by omega) (by omega) (by rw [sA_eq, pk_us]) (fun j hj => by rw [sA_ne _ _ rfl]; exact y2 j hj) (by
      rw [sA_1, y3.1 38 rfl, h38]
      rfl)
    have f2 := f1.call z3 rfl rfl
    obtain ⟨τ3, w1, w2, w3, w4⟩ := mid7_l fu m (k + 1) τ2 (by omega) (by omega) (hA.fr f2 rfl) (fun i hi => by
      rw [z3.2 81 rfl, sA_eq]
      rcases Nat.eq_or_lt_of_le (Nat.le_of_lt_succ hi) with q | q
      · rw [q, pk_us]
      · rw [pk_un (by omega), y3.2 81 rfl]
        exact hM i q) (by
      rw [z2]
      show nI (_ + Dv (srt (w k) (cn A N)) (cn A N) (MI w (cn A N) k)) = nI (_ + DD (srt (w k) (cn A N)) (cn A N))
      unfold DD MI
      by_cases c : cn A N = 0
      · rw [c]
        rfl
      · rw [if_neg c])
    refine ⟨τ3, ?_, w2, w3, f2.call w4 rfl rfl⟩
    rw [← w1, ← z1, ← e1, ← y1]
    show fX12_findMiddle_0b7 (fX12_findMiddle_0l7 fu) (nI k) τ = _
    unfold fX12_findMiddle_0b7 fX12_findMiddle_0b12
    rw [if_neg (show ¬ 4 ≤ nI k from fun q => absurd ((leN (a := 4) (by omega) (by omega)).mp q) (by omega))]
    show fX12_findMiddle_0l16 (fX12_findMiddle_0l7 fu) 4096 (nI k) 0 0 τ = fX12_findMiddle_0l16 (fX12_findMiddle_0l7 fu) 4096 (nI k) (nI 0) (nI 0) τ
    rw [nI_0]
theorem mid_M {A : Nat → Bool} {N : Nat} {w : Nat → Nat → Nat} {σ : ST} (h : ASK A N w σ) : (∀ i, i < 4 → (fX12_findMiddle_0 σ).2.2 81 i = nI (MI w (cn A N) i)) ∧ (fX12_findMiddle_0 σ).1 38 = nI (SP w (cn A N)) ∧ Fr [(38, 38)] [(81, 82)] σ (fX12_findMiddle_0 σ) := by
  have f0 : Fr [(38, 38)] [(81, 82)] σ (sI σ 38 0) := (Fr.refl σ).putI rfl
  obtain ⟨τ, y1, y2, y3, y4⟩ := mid7_l 4096 4 0 (sI σ 38 0) (by omega) (by omega) (h.fr f0 rfl) (fun i hi => absurd hi (Nat.not_lt_zero _)) (by rw [sI_eq, ← nI_0]; rfl)
  have e : fX12_findMiddle_0 σ = τ := by
    rw [← y1, nI_0]
    unfold fX12_findMiddle_0 fX12_findMiddle_0b0
    simp only [bd_e]
  rw [e]
  exact ⟨y2, y3, f0.call y4 rfl rfl⟩
