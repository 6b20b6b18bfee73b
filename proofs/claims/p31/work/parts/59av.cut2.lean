/-! the class gathers: rows taken one by one -/
theorem subI {a b : Nat} (ha : a < 2 ^ 30) (hb : b < 2 ^ 30) : (nI a - nI b).toInt = (a : Int) - (b : Int) := by
  rw [Int32.toInt_sub, nI_toInt (by omega), nI_toInt (by omega)]
  exact Int.bmod_eq_of_le (by omega) (by omega)
theorem mx_i {a b x : Nat} (ha : a < 2 ^ 30) (hb : b < 2 ^ 30) (hx : x < 2 ^ 30) : (if (0 : Int32) < (if nI a - nI x < nI x - nI b then nI x - nI b else nI a - nI x) then (if nI a - nI x < nI x - nI b then nI x - nI b else nI a - nI x) else 0) = nI (max (a - x) (x - b)) := by
  have z : (0 : Int32).toInt = 0 := rfl
  have s1 := subI ha hx
  have s2 := subI hx hb
  by_cases c : nI a - nI x < nI x - nI b
  · rw [if_pos c]
    rw [Int32.lt_iff_toInt_lt] at c
    by_cases d : (0 : Int32) < nI x - nI b
    · rw [if_pos d]
      rw [Int32.lt_iff_toInt_lt] at d
      exact Int32.toInt_inj.mp (by rw [nI_toInt (by omega)]; omega)
    · rw [if_neg d]
      rw [Int32.lt_iff_toInt_lt] at d
      exact Int32.toInt_inj.mp (by rw [nI_toInt (by omega)]; omega)
  · rw [if_neg c]
    rw [Int32.lt_iff_toInt_lt] at c
    by_cases d : (0 : Int32) < nI a - nI x
    · rw [if_pos d]
      rw [Int32.lt_iff_toInt_lt] at d
      exact Int32.toInt_inj.mp (by rw [nI_toInt (by omega)]; omega)
    · rw [if_neg d]
      rw [Int32.lt_iff_toInt_lt] at d
      exact Int32.toInt_inj.mp (by rw [nI_toInt (by omega)]; omega)
theorem ins_0 {L : Nat → Nat} {x : Nat} : insV L x 0 0 = x := if_pos rfl
theorem ins_S {L : Nat → Nat} {x n : Nat} (c : L n ≤ x) (j : Nat) : insV L x (n + 1) j = if j = n + 1 then x else L j := if_pos c
theorem ins_N {L : Nat → Nat} {x n : Nat} (c : ¬ L n ≤ x) (j : Nat) : insV L x (n + 1) j = if j = n + 1 then L n else insV L x n j := if_neg c
theorem takeI_l {K : Int32 → Int32 → ST → ST} {a b : Int32} {k x : Nat} {L : Nat → Nat} (hx : x < 2 ^ 30) : ∀ (fu p : Nat) (τ : ST), p < fu → p < 48 → (∀ j, j < p → τ.2.2 (8 + k) j = nI (L j)) → (∀ j, j < p → L j < 2 ^ 30) → ∃ τ', fX3_take_0l102 K fu a b k (nI x) (nI p) τ = K a (b + 1) τ' ∧ (∀ j, j < p + 1 → τ'.2.2 (8 + k) j = nI (insV L x p j)) ∧ (∀ j, p < j → τ'.2.2 (8 + k) j = τ.2.2 (8 + k) j) ∧ τ'.1 = τ.1 ∧ (∀ i, i ≠ 8 + k → τ'.2.2 i = τ.2.2 i)
  | 0, _, _, h, _, _, _ => absurd h (Nat.not_lt_zero _)
  | fu + 1, 0, τ, _, _, _, _ => by
    refine ⟨sA τ (8 + k) (upd (τ.2.2 (8 + k)) 0 (nI x)), ?_, fun j hj => ?_, fun j hj => ?_, rfl, fun i hi => sA_ne _ _ (beq_f hi)⟩
    · show fX3_take_0b102 K (fX3_take_0l102 K fu) a b k (nI x) (nI 0) τ = _
      unfold fX3_take_0b102 fX3_take_0b137
      rw [if_pos (show nI 0 ≤ 0 by decide)]
      simp only [bd_e, show (nI 0).toNatClampNeg = 0 from nI_clamp (by omega)]
    · rw [show j = 0 by omega, sA_eq, pk_us, ins_0]
    · rw [sA_eq, pk_un (by omega)]
  | fu + 1, p + 1, τ, h, h48, hL, hb => by
    have e0 : fX3_take_0l102 K (fu + 1) a b k (nI x) (nI (p + 1)) τ = fX3_take_0b102 K (fX3_take_0l102 K fu) a b k (nI x) (nI (p + 1)) τ := rfl
    have bp := hb p (by omega)
    rw [e0]
    unfold fX3_take_0b102 fX3_take_0b107
    rw [if_neg (show ¬ nI (p + 1) ≤ 0 from fun q => absurd ((leN (a := p + 1) (b := 0) (by omega) (by omega)).mp q) (by omega))]
    simp only [bd_e, nI_pred, show (nI p).toNatClampNeg = p from nI_clamp (by omega), hL p (by omega), leN (a := L p) (b := x) (by omega) (by omega)]
    by_cases c : L p ≤ x
    · rw [if_pos c]
      refine ⟨sA τ (8 + k) (upd (τ.2.2 (8 + k)) (p + 1) (nI x)), ?_, fun j hj => ?_, fun j hj => ?_, rfl, fun i hi => sA_ne _ _ (beq_f hi)⟩
      · unfold fX3_take_0b137
        simp only [bd_e, show (nI (p + 1)).toNatClampNeg = p + 1 from nI_clamp (by omega)]
      · rw [sA_eq, ins_S c]
        by_cases d : j = p + 1
        · rw [if_pos d, d, pk_us]
        · rw [if_neg d, pk_un d, hL j (by omega)]
      · rw [sA_eq, pk_un (by omega)]
    · rw [if_neg c]
      unfold fX3_take_0b119
      simp only [bd_e, nI_pred, y_m1, show (nI p).toNatClampNeg = p from nI_clamp (by omega), show (nI (p + 1)).toNatClampNeg = p + 1 from nI_clamp (by omega), hL p (by omega)]
      obtain ⟨τ', y1, y2, y5, y3, y4⟩ := takeI_l hx fu p (K := K) (a := a) (b := b) (k := k) (L := L) (sA τ (8 + k) (upd (τ.2.2 (8 + k)) (p + 1) (nI (L p)))) (by omega) (by omega) (fun j hj => by rw [sA_eq, pk_un (by omega), hL j (by omega)]) (fun j hj => hb j (by omega))
      refine ⟨τ', y1, fun j hj => ?_, fun j hj => ?_, y3, fun i hi => ?_⟩
      · rw [ins_N c]
        by_cases d : j = p + 1
        · rw [if_pos d, d, y5 (p + 1) (by omega), sA_eq, pk_us]
        · rw [if_neg d, y2 j (by omega)]
      · rw [y5 j (by omega), sA_eq, pk_un (by omega)]
      · rw [y4 i hi, sA_ne _ _ (beq_f hi)]
/-- by how much a new value takes the spread up -/
def inc (L : Nat → Nat) (n x : Nat) : Nat := if n = 0 then 0 else max (L ((n - 1) / 2) - x) (x - L (n / 2))
theorem DD_inc {L : Nat → Nat} {x n : Nat} (hs : SRTD L n) : DD (insV L x n) (n + 1) = DD L n + inc L n x := by
  unfold inc
  by_cases c : n = 0
  · subst c
    rw [if_pos rfl, DD_one]
    rfl
  · rw [if_neg c, DD_step hs (by omega)]
theorem sumTo_add {g h : Nat → Nat} : ∀ n, sumTo (fun j => g j + h j) n = sumTo g n + sumTo h n
  | 0 => rfl
  | n + 1 => by
    show sumTo (fun j => g j + h j) n + (g n + h n) = sumTo g n + g n + (sumTo h n + h n)
    rw [sumTo_add n]
    omega
/-- the spread of the n first of the rows w: four columns -/
def SP (w : Nat → Nat → Nat) (n : Nat) : Nat := sumTo (fun k => DD (srt (w k) n) n) 4
theorem SP_step (w : Nat → Nat → Nat) (n : Nat) : SP w (n + 1) = SP w n + sumTo (fun k => inc (srt (w k) n) n (w k n)) 4 := by
  unfold SP
  rw [← sumTo_add]
  exact sumTo_congr 4 fun k _ => DD_inc (srt_sorted (w k) n)
theorem SP_0 (w : Nat → Nat → Nat) : SP w 0 = 0 := rfl
theorem take_l {w : Nat → Nat → Nat} {n S r : Nat} (hn : n < 48) (hr : r < 48) (hw : ∀ k, k < 4 → ∀ j, j < n + 1 → w k j ≤ 99) : ∀ (fu m k : Nat) (τ : ST), k + m = 4 → m < fu → τ.1 3 = nI n → τ.1 4 = nI (S + sumTo (fun i => inc (srt (w i) n) n (w i n)) k) → (∀ i, i < 4 → τ.2.2 3 (r * 4 + i) = nI (w i n)) → (∀ i, i < k → ∀ j, j < n + 1 → τ.2.2 (8 + i) j = nI (srt (w i) (n + 1) j)) → (∀ i, k ≤ i → i < 4 → ∀ j, j < n → τ.2.2 (8 + i) j = nI (srt (w i) n j)) → ∃ τ', fX3_take_0l22 fu (nI r) (nI k) τ = τ' ∧ τ'.1 3 = nI (n + 1) ∧ τ'.1 4 = nI (S + sumTo (fun i => inc (srt (w i) n) n (w i n)) 4) ∧ (∀ i, i < 4 → ∀ j, j < n + 1 → τ'.2.2 (8 + i) j = nI (srt (w i) (n + 1) j)) ∧ Fr [(3, 4)] [(8, 11)] τ τ'
  | 0, _, _, _, _, h, _, _, _, _, _ => absurd h (Nat.not_lt_zero _)
  | fu + 1, 0, k, τ, hk, _, h3, h4, _, hd, _ => by
    have e0 : fX3_take_0l22 (fu + 1) (nI r) (nI k) τ = fX3_take_0b22 (fX3_take_0l22 fu) (nI r) (nI k) τ := rfl
    rw [e0]
    unfold fX3_take_0b22 fX3_take_0b150
    have k4 : k = 4 := by omega
    subst k4
    rw [if_pos (show 4 ≤ nI 4 by decide)]
    simp only [bd_e, h3, n_add1]
    exact ⟨_, rfl, rfl, h4, hd, (Fr.refl τ).putI rfl⟩
  | fu + 1, m + 1, k, τ, hk, hf, h3, h4, hr3, hd, hu => by
    have e0 : fX3_take_0l22 (fu + 1) (nI r) (nI k) τ = fX3_take_0b22 (fX3_take_0l22 fu) (nI r) (nI k) τ := rfl
    rw [e0]
    unfold fX3_take_0b22 fX3_take_0b27
    have hk4 : k < 4 := by omega
    have wn := hw k hk4 n (by omega)
    have wj : ∀ j, j < n → srt (w k) n j ≤ 99 := srt_le n (fun j hj => hw k hk4 j (by omega))
    rw [if_neg (show ¬ 4 ≤ nI k from fun q => absurd ((leN (a := 4) (by omega) (by omega)).mp q) (by omega))]
    simp only [bd_e, n_mul4, nI_add, show (nI (r * 4 + k)).toNatClampNeg = r * 4 + k from nI_clamp (by omega), show (nI k).toNatClampNeg = k from nI_clamp (by omega), hr3 k hk4, h3, fX3_take_0b54, fX3_take_0b96]
    have fin : ∀ τ0 : ST, τ0.1 3 = nI n → τ0.1 4 = nI (S + sumTo (fun i => inc (srt (w i) n) n (w i n)) (k + 1)) → τ0.2.2 = τ.2.2 → Fr [(3, 4)] [(8, 11)] τ τ0 → ∃ τ', fX3_take_0l102 (fX3_take_0l22 fu) 4096 (nI r) (nI k) k (nI (w k n)) (nI n) τ0 = τ' ∧ τ'.1 3 = nI (n + 1) ∧ τ'.1 4 = nI (S + sumTo (fun i => inc (srt (w i) n) n (w i n)) 4) ∧ (∀ i, i < 4 → ∀ j, j < n + 1 → τ'.2.2 (8 + i) j = nI (srt (w i) (n + 1) j)) ∧ Fr [(3, 4)] [(8, 11)] τ τ' := by
      intro τ0 g3 g4 g22 gF
      obtain ⟨τ1, y1, y2, y5, y3, y4⟩ := takeI_l (show w k n < 2 ^ 30 by omega) 4096 n (K := fX3_take_0l22 fu) (a := nI r) (b := nI k) (k := k) (L := srt (w k) n) τ0 (by omega) hn (fun j hj => by rw [g22]; exact hu k (Nat.le_refl _) hk4 j hj) (fun j hj => Nat.lt_of_le_of_lt (wj j hj) (by omega))
      have f1 : Fr [(3, 4)] [(8, 11)] τ τ1 := gF.call (I2 := [(3, 4)]) (J2 := [(8, 11)]) ⟨fun i _ => by rw [y3], fun i hi => y4 i (fun q => by
        subst q
        revert hi
        rcases (show k = 0 ∨ k = 1 ∨ k = 2 ∨ k = 3 by omega) with rfl | rfl | rfl | rfl <;> decide)⟩ rfl rfl
      rw [y1, n_add1]
      obtain ⟨τ2, z1, z2, z3, z4, z5⟩ := take_l hn hr hw fu m (k + 1) τ1 (by omega) (by omega) (by rw [y3, g3]) (by rw [y3, g4]) (fun i hi => by rw [f1.2 3 rfl]; exact hr3 i hi) (fun i hi j hj => by
        rcases Nat.eq_or_lt_of_le (Nat.le_of_lt_succ hi) with c | c
        · rw [c]
          exact y2 j hj
        · rw [y4 (8 + i) (by omega), g22]
          exact hd i c j hj) (fun i h1 h2 j hj => by
        rw [y4 (8 + i) (by omega), g22]
        exact hu i (by omega) h2 j hj)
      exact ⟨τ2, z1, z2, z3, z4, f1.call z5 rfl rfl⟩
    by_cases c : n = 0
    · have i0 : inc (srt (w k) n) n (w k n) = 0 := if_pos c
      rw [if_pos (show nI n ≤ 0 from (leN (b := 0) (by omega) (by omega)).mpr (by omega))]
      refine fin τ h3 ?_ rfl (Fr.refl τ)
      rw [h4]
      show nI (S + sumTo (fun i => inc (srt (w i) n) n (w i n)) k) = nI (S + (sumTo (fun i => inc (srt (w i) n) n (w i n)) k + inc (srt (w k) n) n (w k n)))
      rw [i0]
      rfl
    · rw [if_neg (show ¬ nI n ≤ 0 from fun q => absurd ((leN (b := 0) (by omega) (by omega)).mp q) (by omega))]
      have a1 := wj ((n - 1) / 2) (by omega)
      have a2 := wj (n / 2) (by omega)
      have i1 : inc (srt (w k) n) n (w k n) = max (srt (w k) n ((n - 1) / 2) - w k n) (w k n - srt (w k) n (n / 2)) := if_neg c
      have d1 : (nI n - 1) / 2 = nI ((n - 1) / 2) := by
        rw [show nI n - 1 = nI (n - 1) from pk_sub (b := 1) (by omega)]
        exact pk_div (d := 2) (by omega) (by omega) (by omega)
      have d2 : nI n / 2 = nI (n / 2) := pk_div (d := 2) (by omega) (by omega) (by omega)
      simp only [d1, d2, show (nI ((n - 1) / 2)).toNatClampNeg = (n - 1) / 2 from nI_clamp (by omega), show (nI (n / 2)).toNatClampNeg = n / 2 from nI_clamp (by omega), hu k (Nat.le_refl _) hk4 ((n - 1) / 2) (by omega), hu k (Nat.le_refl _) hk4 (n / 2) (by omega), mx_i (a := srt (w k) n ((n - 1) / 2)) (b := srt (w k) n (n / 2)) (x := w k n) (by omega) (by omega) (by omega), ← i1, h4, nI_add, show (sI τ 4 (nI (S + sumTo (fun i => inc (srt (w i) n) n (w i n)) k + inc (srt (w k) n) n (w k n)))).1 3 = nI n from h3]
      refine fin _ h3 ?_ rfl ((Fr.refl τ).putI rfl)
      rw [sI_eq, Nat.add_assoc]
      rfl
/-- n rows w have been gathered -/
def GTH (w : Nat → Nat → Nat) (n : Nat) (σ : ST) : Prop := σ.1 3 = nI n ∧ σ.1 4 = nI (SP w n) ∧ ∀ i, i < 4 → ∀ j, j < n → σ.2.2 (8 + i) j = nI (srt (w i) n j)
theorem take_X {w : Nat → Nat → Nat} {n r : Nat} {σ : ST} (hn : n < 48) (hr : r < 48) (hw : ∀ k, k < 4 → ∀ j, j < n + 1 → w k j ≤ 99) (h : GTH w n σ) (h3 : ∀ i, i < 4 → σ.2.2 3 (4 * r + i) = nI (w i n)) : GTH w (n + 1) (fX3_take_0 (nI r) σ) ∧ Fr [(3, 4)] [(8, 11)] σ (fX3_take_0 (nI r) σ) := by
  obtain ⟨τ', y0, y1, y2, y3, y4⟩ := take_l hn hr hw 4096 4 0 σ (S := SP w n) rfl (by omega) h.1 (by rw [h.2.1]; rfl) (fun i hi => by rw [Nat.mul_comm r 4]; exact h3 i hi) (fun i hi => absurd hi (Nat.not_lt_zero _)) (fun i _ hi => h.2.2 i hi)
  have e : fX3_take_0 (nI r) σ = τ' := by
    rw [← y0, show (nI 0 : Int32) = 0 from nI_0]
    unfold fX3_take_0 fX3_take_0b0 fX3_take_0b9 fX3_take_0b13 fX3_take_0b20
    simp only [bd_e, h.1]
    rw [if_neg (show ¬ 48 ≤ nI n from fun q => absurd ((leN (a := 48) (by omega) (by omega)).mp q) (by omega)), if_neg (nI_pos (by omega)), if_pos (lt48 hr)]
  rw [e]
  exact ⟨⟨y1, by rw [y2, SP_step], y3⟩, y4⟩
theorem empty_X (w : Nat → Nat → Nat) (σ : ST) : GTH w 0 (fX3_empty_0 σ) ∧ Fr [(3, 4)] [] σ (fX3_empty_0 σ) := by
  have e : fX3_empty_0 σ = sI (sI σ 3 0) 4 0 := by
    unfold fX3_empty_0 fX3_empty_0b0
    simp only [bd_e]
  rw [e]
  exact ⟨⟨nI_0.symm, by rw [SP_0, nI_0]; rfl, fun i _ j hj => absurd hj (Nat.not_lt_zero _)⟩, ((Fr.refl σ).putI rfl).putI rfl⟩
