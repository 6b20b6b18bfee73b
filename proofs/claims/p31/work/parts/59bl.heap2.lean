/-! likeness goes both ways; the class's links -/
theorem abs_neg (x : Int32) : (if 0 ≤ x then x else 0 - x) = (if 0 ≤ -x then -x else 0 - -x) := by
  have z : (0 : Int32).toInt = 0 := rfl
  rw [Int32.zero_sub, Int32.zero_sub, Int32.neg_neg]
  by_cases h : x.toInt = -2147483648
  · have e : -x = x := Int32.toInt_inj.mp (by rw [Int32.toInt_neg, h]; decide)
    rw [e]
  · have lo := Int32.le_toInt x
    have hi := Int32.toInt_lt x
    have e : (-x).toInt = -x.toInt := by
      rw [Int32.toInt_neg]
      exact Int.bmod_eq_of_le (by omega) (by omega)
    by_cases a : 0 ≤ x
    · rw [if_pos a]
      by_cases b : 0 ≤ -x
      · rw [if_pos b]
        rw [Int32.le_iff_toInt_le, z] at a b
        exact Int32.toInt_inj.mp (by omega)
      · rw [if_neg b]
    · rw [if_neg a]
      by_cases b : 0 ≤ -x
      · rw [if_pos b]
      · rw [if_neg b]
        rw [Int32.le_iff_toInt_le, z] at a b
        exact Int32.toInt_inj.mp (by omega)
theorem off_comm {σ : ST} {a b : Int32} : ∀ (fu : Nat) (S k : Int32), fX11_off_0l32 fu a b S k σ = fX11_off_0l32 fu b a S k σ
  | 0, _, _ => rfl
  | fu + 1, S, k => by
    show fX11_off_0b32 (fX11_off_0l32 fu) a b S k σ = fX11_off_0b32 (fX11_off_0l32 fu) b a S k σ
    unfold fX11_off_0b32 fX11_off_0b38
    simp only [bd_e]
    by_cases c : 4 ≤ k
    · rw [if_pos c, if_pos c]
    · rw [if_neg c, if_neg c, off_comm fu, abs_neg, Int32.neg_sub]
theorem off_congr {σ τ : ST} {a b : Int32} (h : τ.2.2 15 = σ.2.2 15) : ∀ (fu : Nat) (S k : Int32), fX11_off_0l32 fu a b S k τ = fX11_off_0l32 fu a b S k σ
  | 0, _, _ => rfl
  | fu + 1, S, k => by
    show fX11_off_0b32 (fX11_off_0l32 fu) a b S k τ = fX11_off_0b32 (fX11_off_0l32 fu) a b S k σ
    unfold fX11_off_0b32 fX11_off_0b38 fX11_off_0b65
    simp only [bd_e, h]
    by_cases c : 4 ≤ k
    · rw [if_pos c, if_pos c]
    · rw [if_neg c, if_neg c, off_congr h fu]
theorem off_in {σ : ST} {p q : Nat} (hp : p < 48) (hq : q < 48) : fX11_off_0 (nI (p * 4)) (nI (q * 4)) σ = fX11_off_0l32 4096 (nI (p * 4)) (nI (q * 4)) 0 0 σ := by
  unfold fX11_off_0 fX11_off_0b0 fX11_off_0b4 fX11_off_0b12 fX11_off_0b16 fX11_off_0b26
  simp only [bd_e]
  rw [if_neg (nI_pos (by omega)), if_neg (show ¬ 192 - 4 < nI (p * 4) from fun z => absurd (y_lt (a := 188) (by omega) (by omega) z) (by omega)), if_neg (nI_pos (by omega)), if_pos (show nI (q * 4) ≤ 192 - 4 from (leN (b := 188) (by omega) (by omega)).mpr (by omega))]
theorem lik_comm {σ : ST} {p q : Nat} {R : Int32} (hp : p < 48) (hq : q < 48) : fX2_likeness_0 (nI p) (nI q) R σ = fX2_likeness_0 (nI q) (nI p) R σ := by
  unfold fX2_likeness_0 fX2_likeness_0b0
  simp only [bd_e, n_mul4, off_in hp hq, off_in hq hp, off_comm (a := nI (p * 4)) (b := nI (q * 4))]
  by_cases c : σ.2.2 13 (nI q).toNatClampNeg < σ.2.2 13 (nI p).toNatClampNeg
  · rw [if_pos c, if_neg (by rw [Int32.lt_iff_toInt_lt] at c ⊢; omega)]
  · rw [if_neg c]
    by_cases d : σ.2.2 13 (nI p).toNatClampNeg < σ.2.2 13 (nI q).toNatClampNeg
    · rw [if_pos d]
    · rw [if_neg d, Int32.toInt_inj.mp (show (σ.2.2 13 (nI p).toNatClampNeg).toInt = (σ.2.2 13 (nI q).toNatClampNeg).toInt by
        rw [Int32.lt_iff_toInt_lt] at c d
        omega)]
theorem lik_congr {σ τ : ST} {p q : Nat} {R : Int32} (hp : p < 48) (hq : q < 48) (h13 : τ.2.2 13 = σ.2.2 13) (h15 : τ.2.2 15 = σ.2.2 15) : fX2_likeness_0 (nI p) (nI q) R τ = fX2_likeness_0 (nI p) (nI q) R σ := by
  unfold fX2_likeness_0 fX2_likeness_0b0
  simp only [bd_e, n_mul4, off_in hp hq, off_congr h15, h13]
theorem touch_congr {σ τ : ST} {p q : Int32} (h16 : τ.2.2 16 = σ.2.2 16) : fX2_doTouch_0 p q τ = fX2_doTouch_0 p q σ := by
  unfold fX2_doTouch_0 fX2_doTouch_0b0 fX2_doTouch_0b10 fX2_doTouch_0b25 fX2_doTouch_0b29 fX2_doTouch_0b30
  simp only [bd_e, h16]
/-- the link of pieces i and j: likeness, less the price of touching -/
noncomputable def LK (r2 r4 : Int32) (σ : ST) (i j : Nat) : Int32 := fX2_likeness_0 (nI i) (nI j) r2 σ - (if fX2_doTouch_0 (nI i) (nI j) σ = 0 then 0 else r4)
/-- the class's matrix of links, of pieces below i (and of i with those below j) -/
def MTX (L : Nat → Nat → Int32) (P : Nat → Nat → Prop) (σ : ST) : Prop := ∀ x y, P x y → σ.2.2 (21 + x) y = L x y ∧ σ.2.2 (21 + y) x = L x y
theorem tie31_l {K : Int32 → Int32 → Int32 → ST → ST} {r2 r4 : Int32} {n i : Nat} {L : Nat → Nat → Int32} (hn : n ≤ 9) (hi : i < n) : ∀ (fu m j : Nat) (τ : ST), j + m = n → m < fu → i < j → τ.1 9 = nI n → (∀ x y, x < n → y < n → LK r2 r4 τ x y = L x y) → MTX L (fun x y => x < y ∧ y < n ∧ (x < i ∨ (x = i ∧ y < j))) τ → ∃ τ', fX1_tie_0l31 K fu r2 r4 (nI i) (nI j) τ = K r2 r4 (nI (i + 1)) τ' ∧ MTX L (fun x y => x < y ∧ y < n ∧ x < i + 1) τ' ∧ Fr [] [(21, 29)] τ τ' := by
  intro fu
  induction fu with
  | zero =>
    intro m j τ _ h
    exact absurd h (Nat.not_lt_zero _)
  | succ fu ih =>
    intro m j τ hj hf hij h9 hL hM
    cases m with
    | zero =>
      have jn : j = n := by omega
      subst jn
      refine ⟨τ, ?_, fun x y h => hM x y ⟨h.1, h.2.1, by have := h.2.2; omega⟩, Fr.refl τ⟩
      show fX1_tie_0b31 K (fX1_tie_0l31 K fu) r2 r4 (nI i) (nI j) τ = _
      unfold fX1_tie_0b31 fX1_tie_0b98
      simp only [bd_e, h9, n_add1]
      rw [if_pos ((leN (by omega) (by omega)).mpr (Nat.le_refl _))]
    | succ m =>
      have e0 : fX1_tie_0l31 K (fu + 1) r2 r4 (nI i) (nI j) τ = fX1_tie_0b31 K (fX1_tie_0l31 K fu) r2 r4 (nI i) (nI j) τ := rfl
      have ni : (nI i).toNatClampNeg = i := nI_clamp (by omega)
      have nj : (nI j).toNatClampNeg = j := nI_clamp (by omega)
      have el := hL i j hi (by omega)
      generalize g1 : sA τ (21 + i) (upd (τ.2.2 (21 + i)) j (L i j)) = τ1
      generalize g2 : sA τ1 (21 + j) (upd (τ1.2.2 (21 + j)) i (L i j)) = τ2
      have e1 : fX1_tie_0l31 K (fu + 1) r2 r4 (nI i) (nI j) τ = fX1_tie_0l31 K fu r2 r4 (nI i) (nI (j + 1)) τ2 := by
        rw [e0]
        unfold fX1_tie_0b31 fX1_tie_0b40 fX1_tie_0b64 fX1_tie_0b60 fX1_tie_0b65
        simp only [bd_e, h9, ni, nj, n_add1]
        rw [if_neg (fun q => absurd ((leN (by omega) (by omega)).mp q) (by omega))]
        have el' : fX2_likeness_0 (nI i) (nI j) r2 τ - (if fX2_doTouch_0 (nI i) (nI j) τ = 0 then 0 else r4) = L i j := el
        by_cases c : fX2_doTouch_0 (nI i) (nI j) τ = 0
        · rw [if_pos c] at el' ⊢
          rw [el', g1, g2]
        · rw [if_neg c] at el' ⊢
          rw [el', g1, g2]
      have f2 : Fr [] [(21, 29)] τ τ2 := by
        have q : ∀ x, x < 9 → inR [(21, 29)] (21 + x) = true := fun x hx => by
          rcases (show x = 0 ∨ x = 1 ∨ x = 2 ∨ x = 3 ∨ x = 4 ∨ x = 5 ∨ x = 6 ∨ x = 7 ∨ x = 8 by omega) with rfl | rfl | rfl | rfl | rfl | rfl | rfl | rfl | rfl <;> rfl
        rw [← g2, ← g1]
        exact ((Fr.refl τ).putA (q i (by omega))).putA (q j (by omega))
      have a1 : ∀ x y, τ2.2.2 (21 + x) y = if x = j ∧ y = i then L i j else if x = i ∧ y = j then L i j else τ.2.2 (21 + x) y := fun x y => by
        rw [← g2]
        by_cases c : x = j
        · subst c
          rw [sA_eq]
          by_cases d : y = i
          · rw [if_pos ⟨rfl, d⟩, d, pk_us]
          · rw [if_neg (fun q => d q.2), pk_un d, ← g1, sA_ne _ _ (beq_f (by omega)), if_neg (by omega)]
        · rw [sA_ne _ _ (beq_f (by omega)), if_neg (fun q => c q.1), ← g1]
          by_cases d : x = i
          · subst d
            rw [sA_eq]
            by_cases e : y = j
            · rw [if_pos ⟨rfl, e⟩, e, pk_us]
            · rw [if_neg (fun q => e q.2), pk_un e]
          · rw [sA_ne _ _ (beq_f (by omega)), if_neg (fun q => d q.1)]
      obtain ⟨τ3, z1, z2, z3⟩ := ih m (j + 1) τ2 (by omega) (by omega) (by omega) ((f2.1 9 rfl).trans h9) (fun x y hx hy => by
        rw [← hL x y hx hy]
        unfold LK
        rw [lik_congr (by omega) (by omega) (f2.2 13 rfl) (f2.2 15 rfl), touch_congr (f2.2 16 rfl)]) (fun x y hh => by
        obtain ⟨h1, h2, h3⟩ := hh
        rw [a1, a1]
        by_cases d : x = i ∧ y = j
        · rw [if_neg (by omega), if_pos d, if_pos ⟨d.2, d.1⟩, d.1, d.2]
          exact ⟨rfl, rfl⟩
        · rw [if_neg (by omega), if_neg d, if_neg (fun q => d ⟨q.2, q.1⟩), if_neg (by omega)]
          exact hM x y ⟨h1, h2, by omega⟩)
      exact ⟨τ3, e1.trans z1, z2, f2.call z3 rfl rfl⟩
theorem tie16_l {r2 r4 : Int32} {n : Nat} {L : Nat → Nat → Int32} (hn : n ≤ 9) : ∀ (fu m i : Nat) (τ : ST), i + m = n → m < fu → τ.1 9 = nI n → (∀ x y, x < n → y < n → LK r2 r4 τ x y = L x y) → MTX L (fun x y => x < y ∧ y < n ∧ x < i) τ → ∃ τ', fX1_tie_0l16 fu r2 r4 (nI i) τ = fX1_tie_0b104 τ' ∧ MTX L (fun x y => x < y ∧ y < n) τ' ∧ Fr [] [(21, 29)] τ τ' := by
  intro fu
  induction fu with
  | zero =>
    intro m j τ _ h
    exact absurd h (Nat.not_lt_zero _)
  | succ fu ih =>
    intro m i τ hi hf h9 hL hM
    cases m with
    | zero =>
      have jn : i = n := by omega
      subst jn
      refine ⟨τ, ?_, fun x y h => hM x y ⟨h.1, h.2, by have := h.1; have := h.2; omega⟩, Fr.refl τ⟩
      show fX1_tie_0b16 (fX1_tie_0l16 fu) r2 r4 (nI i) τ = _
      unfold fX1_tie_0b16
      simp only [bd_e, h9]
      rw [if_pos ((leN (by omega) (by omega)).mpr (Nat.le_refl _))]
    | succ m =>
      have e0 : fX1_tie_0l16 (fu + 1) r2 r4 (nI i) τ = fX1_tie_0l31 (fX1_tie_0l16 fu) 4096 r2 r4 (nI i) (nI (i + 1)) τ := by
        show fX1_tie_0b16 (fX1_tie_0l16 fu) r2 r4 (nI i) τ = _
        unfold fX1_tie_0b16 fX1_tie_0b25
        simp only [bd_e, h9, n_add1]
        rw [if_neg (fun q => absurd ((leN (by omega) (by omega)).mp q) (by omega))]
      obtain ⟨τ1, y1, y2, y3⟩ := tie31_l hn (show i < n by omega) 4096 m (i + 1) τ (K := fX1_tie_0l16 fu) (r2 := r2) (r4 := r4) (L := L) (by omega) (by omega) (by omega) h9 hL (fun x y h => hM x y ⟨h.1, h.2.1, by have := h.2.2; omega⟩)
      obtain ⟨τ2, z1, z2, z3⟩ := ih m (i + 1) τ1 (by omega) (by omega) ((y3.1 9 rfl).trans h9) (fun x y hx hy => by
        rw [← hL x y hx hy]
        unfold LK
        rw [lik_congr (by omega) (by omega) (y3.2 13 rfl) (y3.2 15 rfl), touch_congr (y3.2 16 rfl)]) y2
      exact ⟨τ2, (e0.trans y1).trans z1, z2, y3.call z3 rfl rfl⟩
