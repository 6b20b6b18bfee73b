/-! piece, of, like -/
/-- the class's pieces and the reference's, side by side; n of them -/
def SIDE (n : Nat) (σ τ : ST) : Prop := n ≤ 48 ∧ σ.1 5 = nI n ∧ τ.1 35 = nI n ∧ ∀ q, q < n → τ.2.2 75 q = σ.2.2 12 q ∧ τ.2.2 76 q = σ.2.2 13 q ∧ τ.2.2 79 q = σ.2.2 14 q ∧ (∀ k, k < 4 → τ.2.2 78 (4 * q + k) = σ.2.2 15 (q * 4 + k)) ∧ ∃ f l, σ.2.2 12 q = nI f ∧ σ.2.2 13 q = nI l ∧ ∀ k, k < 4 → ∃ v, σ.2.2 15 (q * 4 + k) = nI v
theorem side_of {V : Nat → Nat} {H : Nat → Bool} {c N : Nat} {σ τ : ST} (hX : CUTX V H c N σ) (hM : FPM V H c N τ) : SIDE (CUT V H c N).1.1 σ τ := by
  refine ⟨hX.2.2.2.2, hX.1.1, hM.1.1, fun q hq => ?_⟩
  obtain ⟨a1, a2, a3, _, a5⟩ := hX.1.2.1 q hq
  obtain ⟨b1, b2, b3, b5⟩ := hM.1.2 q hq
  exact ⟨b1.trans a1.symm, b2.trans a2.symm, b3.trans a3.symm, fun k hk => (b5 k hk).trans (a5 k hk).symm, _, _, a1, a2, fun k hk => ⟨_, a5 k hk⟩⟩
/-- q is a piece's number -/
abbrev PN (q : Int32) (n : Nat) : Prop := ¬ q < 0 ∧ ¬ nI n - 1 < q
theorem PN.nat {q : Int32} {n : Nat} (h : PN q n) (hn : n ≤ 48) : ∃ p : Nat, q = nI p ∧ p < n := by
  obtain ⟨p, hp, e⟩ := nI_of h.1
  have h2 := h.2
  subst e
  refine ⟨p, rfl, ?_⟩
  rw [Int32.lt_iff_toInt_lt, y_sub1 (by omega), nI_toInt hp] at h2
  omega
theorem isPiece_X (q : Int32) (σ : ST) {n : Nat} (h : (fX11_cutNow_0 σ).1 5 = nI n) : fX11_isPiece_0 q σ = (if PN q n then 1 else 0, fX11_cutNow_0 σ) := by
  simp only [fX11_isPiece_0, fX11_isPiece_0b0, bd_e, within_X, h]
theorem isPiece_M (q : Int32) (σ : ST) {n : Nat} (h : σ.1 35 = nI n) : fX12_isPiece_0 q σ = if PN q n then 1 else 0 := by
  simp only [fX12_isPiece_0, fX12_isPiece_0b0, bd_e, in_M, h]
theorem a06 {a : Int32} (h : ¬ a < 0 ∧ ¬ 6 < a) : ∃ w : Nat, w ≤ 6 ∧ a = nI w := by
  obtain ⟨n, hn, e⟩ := nI_of h.1
  have h2 := h.2
  subst e
  exact ⟨n, y_nlt (a := 6) (b := n) (by omega) hn h2, rfl⟩
theorem middleOf_X {σ : ST} {n p k : Nat} (h : σ.1 5 = nI n) (hn : n ≤ 48) (hp : p < n) (hk : k < 4) : fX2_middleOf_0 (nI p) (nI k) σ = σ.2.2 15 (p * 4 + k) := by
  simp only [fX2_middleOf_0, fX2_middleOf_0b0, fX2_middleOf_0b4, fX2_middleOf_0b12, fX2_middleOf_0b16, fX2_middleOf_0b21, fX2_middleOf_0b34, fX2_middleOf_0b35, bd_e, h, n_mul4, nI_add]
  rw [if_neg (nI_pos (by omega)), if_neg (fun q => absurd ((leN (by omega) (by omega)).mp q) (by omega)), if_neg (nI_pos (by omega)), if_neg (show ¬ 4 ≤ nI k from fun q => absurd ((leN (a := 4) (by omega) (by omega)).mp q) (by omega)), nI_clamp (by omega)]
theorem piece_X (q a : Int32) (σ : ST) {n : Nat} (h : (fX11_cutNow_0 σ).1 5 = nI n) : fX11_piece_0 q a σ = if PN q n then fX11_piece_0b10 q a (fX11_cutNow_0 σ) else (-1, fX11_cutNow_0 σ) := by
  unfold fX11_piece_0 fX11_piece_0b0 fX11_piece_0b8
  simp only [bp_e, isPiece_X q σ h, ite01]
  by_cases c : PN q n
  · rw [if_neg (fun w => w c), if_pos c]
  · rw [if_pos c, if_neg c]
theorem piece_M (q a : Int32) (σ : ST) {n : Nat} (h : (fX12_findPieces_0 σ).1 35 = nI n) : fX12_piece_0 q a σ = if PN q n ∧ ¬ a < 0 ∧ ¬ 6 < a then fX12_piece_0b24 q a (fX12_findPieces_0 σ) else (-1, fX12_findPieces_0 σ) := by
  unfold fX12_piece_0 fX12_piece_0b0 fX12_piece_0b12 fX12_piece_0b22
  simp only [bd_e, isPiece_M q _ h, in_M, ite01]
  by_cases c : PN q n
  · rw [if_neg (fun w => w c)]
    by_cases d : ¬ a < 0 ∧ ¬ 6 < a
    · rw [if_neg (fun w => w d), if_pos ⟨c, d⟩]
    · rw [if_pos d, if_neg (fun w => d w.2)]
  · rw [if_pos c, if_neg (fun w => c w.1)]
theorem piece_in {n p w : Nat} {σ τ : ST} (h : SIDE n σ τ) (hp : p < n) (hw : w ≤ 6) : (fX11_piece_0b10 (nI p) (nI w) σ).1 = (fX12_piece_0b24 (nI p) (nI w) τ).1 := by
  obtain ⟨hn, h5, h35, hq⟩ := h
  obtain ⟨q1, q2, q3, q4, _⟩ := hq p hp
  have np : (nI p).toNatClampNeg = p := nI_clamp (by omega)
  have mid : ∀ k, k < 4 → (fX11_piece_0b82 (nI p) (nI (k + 3)) σ).1 = (fX12_piece_0b65 (nI p) (nI (k + 3)) τ).1 := fun k hk => by
    unfold fX11_piece_0b82 fX12_piece_0b65 fX12_piece_0b77
    simp only [bd_e, show nI (k + 3) - 3 = nI k from pk_sub (b := 3) (by omega), n_4mul, nI_add, show nI (4 * p + (k + 3)) - 3 = nI (4 * p + k) from pk_sub (b := 3) (by omega), middleOf_X h5 hn hp hk, nI_clamp (show 4 * p + k < 2 ^ 31 by omega)]
    exact (q4 k hk).symm
  rcases (show w = 0 ∨ w = 1 ∨ w = 2 ∨ ∃ k, k < 4 ∧ w = k + 3 by
    rcases (show w = 0 ∨ w = 1 ∨ w = 2 ∨ 3 ≤ w by omega) with z | z | z | z
    · exact Or.inl z
    · exact Or.inr (Or.inl z)
    · exact Or.inr (Or.inr (Or.inl z))
    · exact Or.inr (Or.inr (Or.inr ⟨w - 3, by omega, by omega⟩))) with rfl | rfl | rfl | ⟨k, hk, rfl⟩
  · show (fX11_piece_0b52 (nI p) σ).1 = (fX12_piece_0b28 (nI p) τ).1
    unfold fX11_piece_0b52 fX12_piece_0b28 fX12_piece_0b77
    simp only [bd_e, np]
    exact q1.symm
  · show (fX11_piece_0b62 (nI p) σ).1 = (fX12_piece_0b42 (nI p) τ).1
    unfold fX11_piece_0b62 fX12_piece_0b42 fX12_piece_0b77
    simp only [bd_e, np]
    exact q2.symm
  · show (fX11_piece_0b72 (nI p) σ).1 = (fX12_piece_0b56 (nI p) τ).1
    unfold fX11_piece_0b72 fX12_piece_0b56 fX12_piece_0b77
    simp only [bd_e, np]
    exact q3.symm
  · have m := mid k hk
    rcases (show k = 0 ∨ k = 1 ∨ k = 2 ∨ k = 3 by omega) with rfl | rfl | rfl | rfl <;> exact m
theorem piece_out {a q : Int32} {σ : ST} (h : ¬ (¬ a < 0 ∧ ¬ 6 < a)) : (fX11_piece_0b10 q a σ).1 = -1 := by
  have n0 : ¬ a = 0 := fun w => h (by rw [w]; decide)
  have n1 : ¬ a = 1 := fun w => h (by rw [w]; decide)
  have n2 : ¬ a = 2 := fun w => h (by rw [w]; decide)
  have n3 : ¬ a = 3 := fun w => h (by rw [w]; decide)
  have n4 : ¬ a = 4 := fun w => h (by rw [w]; decide)
  have n5 : ¬ a = 5 := fun w => h (by rw [w]; decide)
  have n6 : ¬ a = 6 := fun w => h (by rw [w]; decide)
  unfold fX11_piece_0b10 fX11_piece_0b94
  rw [if_neg n0, if_neg n1, if_neg n2, if_neg n3, if_neg n4, if_neg n5, if_neg n6]
theorem piece_eq {V : Nat → Nat} {H : Nat → Bool} {c c1 N : Nat} {σ : ST} (h : KCU σ) (hF : FACT V H c c1 N σ) (q a : Int32) {σ1 : ST} (e1 : σ1 = fX11_cutNow_0 σ) : (fX11_piece_0 q a σ).1 = (fX12_piece_0 q a σ1).1 := by
  subst e1
  obtain ⟨g1, g2⟩ := both_cut h hF
  obtain ⟨p1, _⟩ := pieces_M g2.1 g2.2.2.2.2.2
  have S := side_of g1 p1
  rw [piece_X q a σ S.2.1, piece_M q a _ S.2.2.1]
  by_cases w : PN q (CUT V H c N).1.1
  · rw [if_pos w]
    obtain ⟨p, rfl, hp⟩ := w.nat S.1
    by_cases d : ¬ a < 0 ∧ ¬ 6 < a
    · obtain ⟨v, hv, rfl⟩ := a06 d
      rw [if_pos ⟨w, d⟩]
      exact piece_in S hp hv
    · rw [if_neg (fun z => d z.2)]
      exact piece_out d
  · rw [if_neg w, if_neg (fun z => w z.1)]
theorem of_X (q : Int32) (σ : ST) {N : Nat} (h : σ.1 2 = nI N) : fX11_of_0 q σ = if PN q N then ((fX11_cutNow_0 σ).2.2 17 q.toNatClampNeg, fX11_cutNow_0 σ) else (-1, σ) := by
  simp only [fX11_of_0, fX11_of_0b0, fX11_of_0b17, fX11_of_0b19, bd_e, within_X, h, ite01]
  by_cases c : PN q N
  · rw [if_neg (fun w => w c), if_pos c]
  · rw [if_pos c, if_neg c]
theorem of_M (q : Int32) (σ : ST) {N : Nat} (h : σ.1 31 = nI N) : fX12_of_0 q σ = if PN q N then ((fX12_findPieces_0 σ).2.2 77 q.toNatClampNeg, fX12_findPieces_0 σ) else (-1, σ) := by
  simp only [fX12_of_0, fX12_of_0b0, fX12_of_0b8, fX12_of_0b10, fX12_isRow_0, fX12_isRow_0b0, bd_e, in_M, h, ite01]
  by_cases c : PN q N
  · rw [if_neg (fun w => w c), if_pos c]
  · rw [if_pos c, if_neg c]
theorem of_eq {V : Nat → Nat} {H : Nat → Bool} {c c1 N : Nat} {σ : ST} (h : KCU σ) (hF : FACT V H c c1 N σ) (q : Int32) : (fX11_of_0 q σ).1 = (fX12_of_0 q (fX11_of_0 q σ).2).1 := by
  obtain ⟨g1, g2⟩ := both_cut h hF
  obtain ⟨p1, _⟩ := pieces_M g2.1 g2.2.2.2.2.2
  have hN := hF.2.2.2.2.1.1
  rw [of_X q σ hF.2.2.2.2.1.2.1]
  by_cases w : PN q N
  · rw [if_pos w]
    show _ = (fX12_of_0 q (fX11_cutNow_0 σ)).1
    rw [of_M q _ g2.2.2.2.2.2.2.1, if_pos w]
    obtain ⟨p, rfl, hp⟩ := w.nat hN
    show (fX11_cutNow_0 σ).2.2 17 (nI p).toNatClampNeg = (fX12_findPieces_0 (fX11_cutNow_0 σ)).2.2 77 (nI p).toNatClampNeg
    rw [nI_clamp (by omega), g1.1.2.2 p (by omega), p1.2.2.2 p hp]
  · rw [if_neg w]
    show _ = (fX12_of_0 q σ).1
    rw [of_M q _ hF.2.2.2.2.2.2.1, if_neg w]
theorem off_l {n p q : Nat} {σ τ : ST} (h : SIDE n σ τ) (hp : p < n) (hq : q < n) : ∀ (fu m k : Nat) (S : Int32), k + m = 4 → m < fu → ∃ D, fX11_off_0l32 fu (nI (p * 4)) (nI (q * 4)) S (nI k) σ = D ∧ fX12_likeOf_0l5 fu (nI p) (nI q) S (nI k) τ = fX12_likeOf_0b46 (nI p) (nI q) D τ
  | 0, _, _, _, _, h => absurd h (Nat.not_lt_zero _)
  | fu + 1, 0, k, S, hk, _ => by
    have k4 : k = 4 := by omega
    subst k4
    refine ⟨S, ?_, ?_⟩
    · show fX11_off_0b32 (fX11_off_0l32 fu) (nI (p * 4)) (nI (q * 4)) S (nI 4) σ = S
      unfold fX11_off_0b32 fX11_off_0b65
      rw [if_pos (show 4 ≤ nI 4 by decide)]
    · show fX12_likeOf_0b5 (fX12_likeOf_0l5 fu) (nI p) (nI q) S (nI 4) τ = _
      unfold fX12_likeOf_0b5
      rw [if_pos (show 4 ≤ nI 4 by decide)]
  | fu + 1, m + 1, k, S, hk, hf => by
    have hn := h.1
    have k4 : ¬ 4 ≤ nI k := fun z => absurd ((leN (a := 4) (by omega) (by omega)).mp z) (by omega)
    have a1 := (h.2.2.2 p hp).2.2.2.1 k (by omega)
    have a2 := (h.2.2.2 q hq).2.2.2.1 k (by omega)
    obtain ⟨D, d1, d2⟩ := off_l h hp hq fu m (k + 1) (S + (if 0 ≤ σ.2.2 15 (p * 4 + k) - σ.2.2 15 (q * 4 + k) then σ.2.2 15 (p * 4 + k) - σ.2.2 15 (q * 4 + k) else 0 - (σ.2.2 15 (p * 4 + k) - σ.2.2 15 (q * 4 + k)))) (by omega) (by omega)
    refine ⟨D, ?_, ?_⟩
    · rw [← d1]
      show fX11_off_0b32 (fX11_off_0l32 fu) (nI (p * 4)) (nI (q * 4)) S (nI k) σ = _
      unfold fX11_off_0b32 fX11_off_0b38
      rw [if_neg k4]
      simp only [bd_e, nI_add, n_add1, show (nI (p * 4 + k)).toNatClampNeg = p * 4 + k from nI_clamp (by omega), show (nI (q * 4 + k)).toNatClampNeg = q * 4 + k from nI_clamp (by omega)]
    · rw [← d2]
      show fX12_likeOf_0b5 (fX12_likeOf_0l5 fu) (nI p) (nI q) S (nI k) τ = _
      unfold fX12_likeOf_0b5 fX12_likeOf_0b11 fX12_size_0 fX12_size_0b0 fX12_size_0b9 fX12_size_0b4 fX12_size_0b10
      rw [if_neg k4]
      simp only [bd_e, nI_add, n_add1, n_4mul, show (nI (4 * p + k)).toNatClampNeg = 4 * p + k from nI_clamp (by omega), show (nI (4 * q + k)).toNatClampNeg = 4 * q + k from nI_clamp (by omega), a1, a2, Int32.zero_sub]
theorem likeness_eq {n p q : Nat} {R : Int32} {σ τ : ST} (h : SIDE n σ τ) (hp : p < n) (hq : q < n) (h66 : τ.2.2 66 2 = R) : fX2_likeness_0 (nI p) (nI q) R σ = fX12_likeOf_0 (nI p) (nI q) τ := by
  have hn := h.1
  obtain ⟨D, d1, d2⟩ := off_l h hp hq 4096 4 0 0 (by omega) (by omega)
  rw [nI_0] at d1 d2
  have z2 : (2 : Int32).toNatClampNeg = 2 := by decide
  have np : (nI p).toNatClampNeg = p := nI_clamp (by omega)
  have nq : (nI q).toNatClampNeg = q := nI_clamp (by omega)
  have e1 : fX11_off_0 (nI (p * 4)) (nI (q * 4)) σ = D := by
    rw [← d1]
    unfold fX11_off_0 fX11_off_0b0 fX11_off_0b4 fX11_off_0b12 fX11_off_0b16 fX11_off_0b26
    simp only [bd_e]
    rw [if_neg (nI_pos (by omega)), if_neg (show ¬ 192 - 4 < nI (p * 4) from fun z => absurd (y_lt (a := 188) (by omega) (by omega) z) (by omega)), if_neg (nI_pos (by omega)), if_pos (show nI (q * 4) ≤ 192 - 4 from (leN (b := 188) (by omega) (by omega)).mpr (by omega))]
  have e2 : fX12_likeOf_0 (nI p) (nI q) τ = fX12_likeOf_0b46 (nI p) (nI q) D τ := by
    rw [← d2]
    rfl
  obtain ⟨_, b1, _, _, f1, l1, _, c1, _⟩ := h.2.2.2 p hp
  obtain ⟨_, b2, _, _, f2, l2, _, c2, _⟩ := h.2.2.2 q hq
  rw [e2]
  unfold fX2_likeness_0 fX2_likeness_0b0 fX12_likeOf_0b46 fX12_likeOf_0b78 fX12_likeOf_0b69 fX12_likeOf_0b84
  simp only [bd_e, n_mul4, e1, np, nq, z2, h66, b1, b2]
  by_cases c : σ.2.2 13 q < σ.2.2 13 p
  · rw [if_pos c, if_pos (by rw [Int32.lt_iff_toInt_lt] at c; rw [Int32.le_iff_toInt_le]; omega)]
  · rw [if_neg c]
    by_cases d : σ.2.2 13 q ≤ σ.2.2 13 p
    · rw [if_pos d, Int32.toInt_inj.mp (show (σ.2.2 13 q).toInt = (σ.2.2 13 p).toInt by
        rw [Int32.lt_iff_toInt_lt] at c
        rw [Int32.le_iff_toInt_le] at d
        omega)]
    · rw [if_neg d]
theorem like_X (p q : Int32) (σ : ST) {n : Nat} (h22 : (fX11_cutNow_0 σ).1 22 = 0) (h : (fX11_cutNow_0 σ).1 5 = nI n) : fX11_like_0 p q σ = if PN p n ∧ PN q n ∧ ¬ p = q then (fX2_likeness_0 p q ((fX11_cutNow_0 σ).2.2 1 2) (fX11_cutNow_0 σ), fX11_cutNow_0 σ) else (-1000000, fX11_cutNow_0 σ) := by
  have z2 : (2 : Int32).toNatClampNeg = 2 := by decide
  have ei := cutNow_id h22
  have er : fX8_ruleNow_0 2 (fX11_cutNow_0 σ) = (fX11_cutNow_0 σ).2.2 1 2 := by
    unfold fX8_ruleNow_0 fX8_ruleNow_0b0 fX8_ruleNow_0b4 fX8_ruleNow_0b10 fX8_ruleNow_0b20
    simp only [bd_e, z2]
    rw [if_neg (show ¬ (2 : Int32) < 0 by decide), if_neg (show ¬ (6 : Int32) ≤ 2 by decide)]
  unfold fX11_like_0 fX11_like_0b0 fX11_like_0b8 fX11_like_0b16 fX11_like_0b21 fX11_like_0b24
  simp only [bp_e, bd_e, isPiece_X p σ h, isPiece_X q (fX11_cutNow_0 σ) (n := n) (by rw [ei]; exact h), ei, er, ite01]
  by_cases c1 : PN p n
  · rw [if_neg (fun w => w c1)]
    by_cases c2 : PN q n
    · rw [if_neg (fun w => w c2)]
      by_cases c3 : p = q
      · rw [if_pos c3, if_neg (fun w => w.2.2 c3)]
      · rw [if_neg c3, if_pos ⟨c1, c2, c3⟩]
    · rw [if_pos c2, if_neg (fun w => c2 w.2.1)]
  · rw [if_pos c1, if_neg (fun w => c1 w.1)]
theorem like_M (p q : Int32) (σ : ST) {n : Nat} (h : (fX12_findPieces_0 σ).1 35 = nI n) : fX12_like_0 p q σ = if PN p n ∧ PN q n ∧ ¬ p = q then (fX12_likeOf_0 p q (fX12_findPieces_0 σ), fX12_findPieces_0 σ) else (-1000000, fX12_findPieces_0 σ) := by
  unfold fX12_like_0 fX12_like_0b0 fX12_like_0b12 fX12_like_0b20 fX12_like_0b25 fX12_like_0b34 fX12_like_0b36
  simp only [bd_e, isPiece_M p _ h, isPiece_M q _ h, ite01]
  by_cases c1 : PN p n
  · rw [if_neg (fun w => w c1)]
    by_cases c2 : PN q n
    · rw [if_neg (fun w => w c2)]
      by_cases c3 : p = q
      · rw [if_pos c3, if_neg (fun w => w.2.2 c3)]
      · rw [if_neg c3, if_pos ⟨c1, c2, c3⟩]
    · rw [if_pos c2, if_neg (fun w => c2 w.2.1)]
  · rw [if_pos c1, if_neg (fun w => c1 w.1)]
theorem like_eq {V : Nat → Nat} {H : Nat → Bool} {c c1 N : Nat} {σ : ST} (h : KCU σ) (hF : FACT V H c c1 N σ) (hU : σ.2.2 66 2 = σ.2.2 1 2) (p q : Int32) : (fX11_like_0 p q σ).1 = (fX12_like_0 p q (fX11_like_0 p q σ).2).1 := by
  obtain ⟨k1, k2, k3⟩ := cutNow_X h
  obtain ⟨g1, g2⟩ := both_cut h hF
  obtain ⟨p1, p2⟩ := pieces_M g2.1 g2.2.2.2.2.2
  have S := side_of g1 p1
  have eX := like_X p q σ k2 S.2.1
  have e2 : (fX11_like_0 p q σ).2 = fX11_cutNow_0 σ := by
    rw [eX]
    by_cases w : PN p (CUT V H c N).1.1 ∧ PN q (CUT V H c N).1.1 ∧ ¬ p = q
    · rw [if_pos w]
    · rw [if_neg w]
  rw [e2, eX, like_M p q _ S.2.2.1]
  by_cases w : PN p (CUT V H c N).1.1 ∧ PN q (CUT V H c N).1.1 ∧ ¬ p = q
  · rw [if_pos w, if_pos w]
    obtain ⟨a, rfl, ha⟩ := w.1.nat S.1
    obtain ⟨b, rfl, hb⟩ := w.2.1.nat S.1
    exact likeness_eq S ha hb (by rw [p2.2 66 rfl, k3.2 66 rfl, k3.2 1 rfl]; exact hU)
  · rw [if_neg w, if_neg w]
theorem piece_b10 (q a : Int32) (σ : ST) : (fX11_piece_0b10 q a σ).2 = σ := by
  unfold fX11_piece_0b10 fX11_piece_0b52 fX11_piece_0b62 fX11_piece_0b72 fX11_piece_0b82 fX11_piece_0b94
  simp only [bd_e]
  by_cases h0 : a = 0
  · rw [if_pos h0]
  · rw [if_neg h0]
    by_cases h1 : a = 1
    · rw [if_pos h1]
    · rw [if_neg h1]
      by_cases h2 : a = 2
      · rw [if_pos h2]
      · rw [if_neg h2]
        by_cases h3 : a = 3
        · rw [if_pos h3]
        · rw [if_neg h3]
          by_cases h4 : a = 4
          · rw [if_pos h4]
          · rw [if_neg h4]
            by_cases h5 : a = 5
            · rw [if_pos h5]
            · rw [if_neg h5]
              by_cases h6 : a = 6
              · rw [if_pos h6]
              · rw [if_neg h6]
theorem piece_st {V : Nat → Nat} {H : Nat → Bool} {c c1 N : Nat} {σ : ST} (h : KCU σ) (hF : FACT V H c c1 N σ) (q a : Int32) : (fX11_piece_0 q a σ).2 = fX11_cutNow_0 σ := by
  obtain ⟨g1, _⟩ := both_cut h hF
  rw [piece_X q a σ g1.1.1]
  by_cases w : PN q (CUT V H c N).1.1
  · rw [if_pos w]
    exact piece_b10 q a _
  · rw [if_neg w]
