/-! heap, worth: answers of both sides; the worth and the heaps of the second way, of the reference -/
theorem wp15_l {K : Int32 → Int32 → ST → Int32} {L : Nat → Nat → Int32} {a : Nat → Nat} {n i : Nat} {A : Int32} {τ : ST} (hn : n ≤ 9) (hi : i < n) (hG : GNS L n τ) (hs : ∀ x y, x < n → y < n → L x y = L y x) (ha : ∀ j, j < n → τ.2.2 87 j = nI (a j) ∧ a j ≤ 9) : ∀ (fu d j : Nat), j + d = i → d < fu → fX12_worthOf_1l15 K fu (A + rs L a i j) (nI i) (nI j) τ = K (A + rs L a i i) (nI (i + 1)) τ := by
  intro fu
  induction fu with
  | zero =>
    intro d j _ h
    exact absurd h (Nat.not_lt_zero _)
  | succ fu ih =>
    intro d j hd hf
    cases d with
    | zero =>
      have ej : j = i := by omega
      subst ej
      show fX12_worthOf_1b15 K (fX12_worthOf_1l15 K fu) (A + rs L a j j) (nI j) (nI j) τ = _
      unfold fX12_worthOf_1b15 fX12_worthOf_1b56
      simp only [bd_e, n_add1]
      rw [if_pos ((leN (by omega) (by omega)).mpr (Nat.le_refl _))]
    | succ d =>
      have e9 : (9 : Int32) * nI i = nI (9 * i) := pk_mul 9 i
      obtain ⟨a1, a2⟩ := ha i hi
      obtain ⟨b1, b2⟩ := ha j (by omega)
      rw [← ih d (j + 1) (by omega) (by omega)]
      show fX12_worthOf_1b15 K (fX12_worthOf_1l15 K fu) (A + rs L a i j) (nI i) (nI j) τ = fX12_worthOf_1l15 K fu (A + (rs L a i j + (if a i = a j then L j i else 0))) (nI i) (nI (j + 1)) τ
      unfold fX12_worthOf_1b15 fX12_worthOf_1b21 fX12_worthOf_1b32 fX12_worthOf_1b47 fX12_worthOf_1b48
      simp only [bd_e, n_add1, e9, nI_add, show (nI (9 * i + j)).toNatClampNeg = 9 * i + j from nI_clamp (by omega), show (nI i).toNatClampNeg = i from nI_clamp (by omega), show (nI j).toNatClampNeg = j from nI_clamp (by omega), a1, b1, nI_eq (a := a i) (b := a j) (by omega) (by omega)]
      rw [if_neg (fun q => absurd ((leN (by omega) (by omega)).mp q) (by omega))]
      by_cases c : a i = a j
      · rw [if_pos c, if_pos c, hG i j hi (by omega) (by omega), hs i j hi (by omega), Int32.add_assoc]
      · rw [if_neg c, if_neg c, Int32.add_zero, Int32.add_zero]
theorem wp4_l {L : Nat → Nat → Int32} {a : Nat → Nat} {n : Nat} {τ : ST} (hn : n ≤ 9) (h35 : τ.1 35 = nI n) (hG : GNS L n τ) (hs : ∀ x y, x < n → y < n → L x y = L y x) (ha : ∀ j, j < n → τ.2.2 87 j = nI (a j) ∧ a j ≤ 9) : ∀ (fu d i : Nat), i + d = n → d < fu → fX12_worthOf_1l4 fu (WO L a i) (nI i) τ = WO L a n := by
  intro fu
  induction fu with
  | zero =>
    intro d i _ h
    exact absurd h (Nat.not_lt_zero _)
  | succ fu ih =>
    intro d i hd hf
    cases d with
    | zero =>
      have ei : i = n := by omega
      subst ei
      show fX12_worthOf_1b4 (fX12_worthOf_1l4 fu) (WO L a i) (nI i) τ = _
      unfold fX12_worthOf_1b4 fX12_worthOf_1b62
      simp only [bd_e, h35]
      rw [if_pos ((leN (by omega) (by omega)).mpr (Nat.le_refl _))]
    | succ d =>
      have k := wp15_l (K := fX12_worthOf_1l4 fu) (A := WO L a i) hn (show i < n by omega) hG hs ha 4096 i 0 (by omega) (by omega)
      have z : WO L a i + rs L a i 0 = WO L a i := Int32.add_zero _
      rw [z, nI_0] at k
      rw [← ih d (i + 1) (by omega) (by omega)]
      show fX12_worthOf_1b4 (fX12_worthOf_1l4 fu) (WO L a i) (nI i) τ = fX12_worthOf_1l4 fu (WO L a i + rs L a i i) (nI (i + 1)) τ
      unfold fX12_worthOf_1b4 fX12_worthOf_1b12
      simp only [bd_e, h35, n_add1]
      rw [if_neg (fun q => absurd ((leN (by omega) (by omega)).mp q) (by omega))]
      exact k
theorem worth1_M {L : Nat → Nat → Int32} {a : Nat → Nat} {n : Nat} {τ : ST} (hn : n ≤ 9) (h35 : τ.1 35 = nI n) (hG : GNS L n τ) (hs : ∀ x y, x < n → y < n → L x y = L y x) (ha : ∀ j, j < n → τ.2.2 87 j = nI (a j) ∧ a j ≤ 9) : fX12_worthOf_1 τ = WO L a n := by
  have k := wp4_l hn h35 hG hs ha 4096 n 0 (by omega) (by omega)
  rw [← k, nI_0]
  rfl
theorem no10 : ¬ (1 : Int32) = 0 := by decide
theorem heap_X {p w b : Int32} {σ s : ST} (hi : fX11_isPiece_0 p σ = (b, s)) : fX11_heap_0 p w σ = if b = 0 then (-1, s) else if ¬ w < 0 ∧ ¬ 1 < w then (if (fX11_heapNow_0 s).1 = 0 then (-2, (fX11_heapNow_0 s).2) else (if w = 0 then (fX11_heapNow_0 s).2.2.2 41 p.toNatClampNeg else (fX11_heapNow_0 s).2.2.2 46 p.toNatClampNeg, (fX11_heapNow_0 s).2)) else (-1, s) := by
  simp only [fX11_heap_0, fX11_heap_0b0, fX11_heap_0b8, fX11_heap_0b19, fX11_heap_0b26, fX11_heap_0b29, fX11_heap_0b34a, fX11_heap_0b34, fX11_heap_0b17, bd_e, bp_e, hi, within_X, ite01, byWay_X]
  by_cases c0 : b = 0
  · rw [if_pos c0, if_pos c0]
  · rw [if_neg c0, if_neg c0]
    by_cases c : ¬ w < 0 ∧ ¬ 1 < w
    · rw [if_neg (fun q => q c), if_pos c]
      by_cases d : (fX11_heapNow_0 s).1 = 0
      · rw [if_pos d, if_pos d]
      · rw [if_neg d, if_neg d]
        by_cases f : w = 0
        · rw [if_pos f, if_pos f, if_pos rfl]
        · rw [if_neg f, if_neg f, if_neg (by decide)]
    · rw [if_pos c, if_neg c]
theorem heap_M {p w b : Int32} {σ : ST} (hi : fX12_isPiece_0 p (fX12_findPieces_0 σ) = b) : fX12_heap_0 p w σ = if b = 0 then (-1, fX12_findPieces_0 σ) else if ¬ w < 0 ∧ ¬ 1 < w then (if (fX12_findBest_0 (fX12_findPieces_0 σ)).1 = 0 then (-2, (fX12_findBest_0 (fX12_findPieces_0 σ)).2) else (if w = 0 then (fX12_join_0 (fX12_findBest_0 (fX12_findPieces_0 σ)).2).2.2 86 p.toNatClampNeg else (fX12_join_0 (fX12_findBest_0 (fX12_findPieces_0 σ)).2).2.2 87 p.toNatClampNeg, fX12_join_0 (fX12_findBest_0 (fX12_findPieces_0 σ)).2)) else (-1, fX12_findPieces_0 σ) := by
  simp only [fX12_heap_0, fX12_heap_0b0, fX12_heap_0b12, fX12_heap_0b23, fX12_heap_0b30, fX12_heap_0b33, fX12_heap_0b41, fX12_heap_0b50, fX12_heap_0b56, fX12_heap_0b21, bd_e, bp_e, hi, in_M, ite01]
  by_cases c0 : b = 0
  · rw [if_pos c0, if_pos c0]
  · rw [if_neg c0, if_neg c0]
    by_cases c : ¬ w < 0 ∧ ¬ 1 < w
    · rw [if_neg (fun q => q c), if_pos c]
      by_cases d : (fX12_findBest_0 (fX12_findPieces_0 σ)).1 = 0
      · rw [if_pos d, if_pos d]
      · rw [if_neg d, if_neg d]
        by_cases f : w = 0
        · rw [if_pos f, if_pos f]
        · rw [if_neg f, if_neg f]
    · rw [if_pos c, if_neg c]
theorem heap_eq {V : Nat → Nat} {H : Nat → Bool} {c c1 N r2 r3 r4 r5 : Nat} {σ : ST} (hK : KH σ) (hB : FB V H c c1 N r2 r3 r4 r5 σ) (p w : Int32) {σ1 : ST} {v1 : Int32} (x1 : fX11_heap_0 p w σ = (v1, σ1)) : v1 = (fX12_heap_0 p w σ1).1 := by
  obtain ⟨u1, u2, u3⟩ := cutNow_X hK.1.1
  have kH := kn_fX11_cutNow_0 hK
  have hB1 := hB.fr u3 rfl
  have hX1 := hB1.2.1.of_kcu u1 u2
  have e5 := hX1.1.1
  generalize gs : fX11_cutNow_0 σ = s at *
  have e5' : (fX11_cutNow_0 σ).1 5 = nI (CUT V H c N).1.1 := by rw [gs]; exact e5
  have ei := isPiece_X p σ e5'
  rw [gs] at ei
  by_cases hp : PN p (CUT V H c N).1.1
  · rw [if_pos hp] at ei
    rw [heap_X ei, if_neg no10] at x1
    by_cases hw : ¬ w < 0 ∧ ¬ 1 < w
    · rw [if_pos hw] at x1
      obtain ⟨_, k2, k3, k4, k5⟩ := heapNow_X kH.1 hB1.2.1
      have hB2 := hB1.fr k5 rfl
      generalize gh : fX11_heapNow_0 s = hn at *
      obtain ⟨hv, t⟩ := hn
      have k4' : CUTX V H c N t := k4
      have hB2' : FB V H c c1 N r2 r3 r4 r5 t := hB2
      obtain ⟨p1, p2⟩ := pieces_M hB2'.1.1 hB2'.1.2.2.2.2.2
      have em : fX12_isPiece_0 p (fX12_findPieces_0 t) = 1 := by rw [isPiece_M p _ p1.1.1, if_pos hp]
      have hB3 := hB2'.fr p2 rfl
      obtain ⟨b1, b2, _, _⟩ := findBest_R hB3 k4' hB2'.1.2.2.2.2.1
      rcases Nat.lt_or_ge 9 (CUT V H c N).1.1 with z | z
      · have k3' : hv = 0 := k3 z
        subst k3'
        have x2 : ((-2 : Int32), t) = (v1, σ1) := by
          rw [← x1]
          exact (if_pos (show ((0 : Int32), t).1 = 0 from rfl)).symm
        have es := pin2 x2
        have er := pin1 x2
        subst es
        rw [heap_M em, if_neg no10, if_pos hw, b2 z, if_pos rfl]
        exact er.symm
      · obtain ⟨q1, q2, _⟩ := k2 z
        have q1' : hv = 1 := q1
        subst q1'
        have q2' : HPX V H c N r2 r4 t := q2
        have x2 : (if w = 0 then t.2.2 41 p.toNatClampNeg else t.2.2 46 p.toNatClampNeg, t) = (v1, σ1) := by
          rw [← x1]
          exact (if_neg (show ¬ ((1 : Int32), t).1 = 0 from no10)).symm
        have es := pin2 x2
        have er := pin1 x2
        subst es
        obtain ⟨τ', y1, y2, y3, y4, y5, y6, y7⟩ := b1 z
        obtain ⟨j1, j2⟩ := join_M (L := LKc V H c N r2 r4) z y2 y4
        obtain ⟨x, rfl, hx⟩ := PN.nat hp hX1.2.2.2.2
        rw [heap_M em, if_neg no10, if_pos hw, y1, if_neg (show ¬ ((1 : Int32), τ').1 = 0 from no10), ← er]
        show (if w = 0 then t.2.2 41 (nI x).toNatClampNeg else t.2.2 46 (nI x).toNatClampNeg) = (if w = 0 then (fX12_join_0 τ').2.2 86 (nI x).toNatClampNeg else (fX12_join_0 τ').2.2 87 (nI x).toNatClampNeg)
        rw [show (nI x).toNatClampNeg = x from nI_clamp (by omega)]
        by_cases f : w = 0
        · rw [if_pos f, if_pos f, (q2'.h41 hx).1, j2.2 86 rfl, y5 x hx]
        · rw [if_neg f, if_neg f, q2'.2.2.2.2.2.2 x hx, j1 x hx]
    · rw [if_neg hw] at x1
      have es := pin2 x1
      have er := pin1 x1
      subst es
      obtain ⟨p1, p2⟩ := pieces_M hB1.1.1 hB1.1.2.2.2.2.2
      have em : fX12_isPiece_0 p (fX12_findPieces_0 s) = 1 := by rw [isPiece_M p _ p1.1.1, if_pos hp]
      rw [heap_M em, if_neg no10, if_neg hw]
      exact er.symm
  · rw [if_neg hp] at ei
    rw [heap_X ei, if_pos rfl] at x1
    have es := pin2 x1
    have er := pin1 x1
    subst es
    obtain ⟨p1, p2⟩ := pieces_M hB1.1.1 hB1.1.2.2.2.2.2
    have em : fX12_isPiece_0 p (fX12_findPieces_0 s) = 0 := by rw [isPiece_M p _ p1.1.1, if_neg hp]
    rw [heap_M em, if_pos rfl]
    exact er.symm
theorem worth_X2 (w : Int32) (σ : ST) : fX11_worth_0 w σ = if ¬ w < 0 ∧ ¬ 1 < w then (if (fX11_heapNow_0 σ).1 = 0 then (-1000000, (fX11_heapNow_0 σ).2) else (if w = 0 then (fX11_heapNow_0 σ).2.1 11 else (fX11_heapNow_0 σ).2.1 18, (fX11_heapNow_0 σ).2)) else (-1000000, σ) := by
  simp only [fX11_worth_0, fX11_worth_0b0, fX11_worth_0b9, fX11_worth_0b19, fX11_worth_0b24a, fX11_worth_0b24, fX11_worth_0b16, bd_e, bp_e, within_X, ite01, byWay_X]
  by_cases c : ¬ w < 0 ∧ ¬ 1 < w
  · rw [if_neg (fun q => q c), if_pos c]
    by_cases d : (fX11_heapNow_0 σ).1 = 0
    · rw [if_pos d, if_pos d]
    · rw [if_neg d, if_neg d]
      by_cases f : w = 0
      · rw [if_pos f, if_pos f, if_pos rfl]
      · rw [if_neg f, if_neg f, if_neg (by decide)]
  · rw [if_pos c, if_neg c]
theorem worth_M2 (w : Int32) (σ : ST) : fX12_worth_0 w σ = if ¬ w < 0 ∧ ¬ 1 < w then (if (fX12_findBest_0 σ).1 = 0 then (-1000000, (fX12_findBest_0 σ).2) else (if w = 0 then (fX12_join_0 (fX12_findBest_0 σ).2).1 39 else fX12_worthOf_1 (fX12_join_0 (fX12_findBest_0 σ).2), fX12_join_0 (fX12_findBest_0 σ).2)) else (-1000000, σ) := by
  simp only [fX12_worth_0, fX12_worth_0b0, fX12_worth_0b9, fX12_worth_0b19, fX12_worth_0b27, fX12_worth_0b34, fX12_worth_0b42, fX12_worth_0b16, bd_e, bp_e, in_M, ite01]
  by_cases c : ¬ w < 0 ∧ ¬ 1 < w
  · rw [if_neg (fun q => q c), if_pos c]
    by_cases d : (fX12_findBest_0 σ).1 = 0
    · rw [if_pos d, if_pos d]
    · rw [if_neg d, if_neg d]
      by_cases f : w = 0
      · rw [if_pos f, if_pos f]
      · rw [if_neg f, if_neg f]
  · rw [if_pos c, if_neg c]
theorem worth_eq {V : Nat → Nat} {H : Nat → Bool} {c c1 N r2 r3 r4 r5 : Nat} {σ : ST} (hK : KH σ) (hB : FB V H c c1 N r2 r3 r4 r5 σ) (w : Int32) {σ1 : ST} {v1 : Int32} (x1 : fX11_worth_0 w σ = (v1, σ1)) : v1 = (fX12_worth_0 w σ1).1 := by
  rw [worth_X2] at x1
  by_cases hw : ¬ w < 0 ∧ ¬ 1 < w
  · rw [if_pos hw] at x1
    obtain ⟨_, k2, k3, k4, k5⟩ := heapNow_X hK.1 hB.2.1
    have hB2 := hB.fr k5 rfl
    generalize gh : fX11_heapNow_0 σ = hn at *
    obtain ⟨hv, t⟩ := hn
    have k4' : CUTX V H c N t := k4
    have hB2' : FB V H c c1 N r2 r3 r4 r5 t := hB2
    obtain ⟨b1, b2, _, _⟩ := findBest_R hB2' k4' hB2'.1.2.2.2.2.1
    rcases Nat.lt_or_ge 9 (CUT V H c N).1.1 with z | z
    · have k3' : hv = 0 := k3 z
      subst k3'
      have x2 : ((-1000000 : Int32), t) = (v1, σ1) := by
        rw [← x1]
        exact (if_pos (show ((0 : Int32), t).1 = 0 from rfl)).symm
      have es := pin2 x2
      have er := pin1 x2
      subst es
      rw [worth_M2, if_pos hw, b2 z, if_pos rfl]
      exact er.symm
    · obtain ⟨q1, q2, _⟩ := k2 z
      have q1' : hv = 1 := q1
      subst q1'
      have q2' : HPX V H c N r2 r4 t := q2
      have x2 : (if w = 0 then t.1 11 else t.1 18, t) = (v1, σ1) := by
        rw [← x1]
        exact (if_neg (show ¬ ((1 : Int32), t).1 = 0 from no10)).symm
      have es := pin2 x2
      have er := pin1 x2
      subst es
      obtain ⟨τ', y1, y2, y3, y4, y5, y6, y7⟩ := b1 z
      obtain ⟨j1, j2⟩ := join_M (L := LKc V H c N r2 r4) z y2 y4
      rw [worth_M2, if_pos hw, y1, if_neg (show ¬ ((1 : Int32), τ').1 = 0 from no10), ← er]
      show (if w = 0 then t.1 11 else t.1 18) = (if w = 0 then (fX12_join_0 τ').1 39 else fX12_worthOf_1 (fX12_join_0 τ'))
      by_cases f : w = 0
      · rw [if_pos f, if_pos f, (q2'.2.2.1.1 (BEST_t _ _)).1, j2.1 39 rfl, y3]
      · rw [if_neg f, if_neg f, q2'.2.2.2.2.2.1]
        exact (worth1_M z ((j2.1 35 rfl).trans y2) (y4.fr j2 rfl) (fun x y _ _ => LKv_comm V _ r2 r4 x y) (fun j hj => ⟨j1 j hj, by have := JN_le (GJ_lst (LKc V H c N r2 r4) (CUT V H c N).1.1) hj; omega⟩)).symm
  · rw [if_neg hw] at x1
    have es := pin2 x1
    have er := pin1 x1
    subst es
    rw [worth_M2, if_neg hw]
    exact er.symm
