/-! hung: both sides answer the same -/
theorem hung41_l {σ : ST} {w n : Nat} {l2 : Int32} {sh : Nat → Nat} (hn : n ≤ 48) (h35 : σ.1 35 = nI n) (hs : ∀ q, sh q ≤ 48) (hx : ∀ (K : Int32 → Int32 → Int32 → Int32 → Int32 → Int32 → ST → Int32 × ST) (l3 l4 l5 : Int32) (q : Nat), q < n → fX12_hung_0b50 K (nI w) l2 l3 l4 l5 (nI q) σ = fX12_hung_0b118 K (nI w) l2 l3 l4 l5 (nI q) (nI (sh q)) σ) : ∀ (fu m q : Nat), q + m = n → m < fu → fX12_hung_0l41 fu (nI w) l2 (hf sh q).1 (nI (hf sh q).2.1) (nI (hf sh q).2.2) (nI q) σ = fX12_hung_0b169 l2 (hf sh n).1 (nI (hf sh n).2.2) σ
  | 0, _, _, _, h => absurd h (Nat.not_lt_zero _)
  | fu + 1, 0, q, hq, _ => by
    have q0 : q = n := by omega
    subst q0
    show fX12_hung_0b41 (fX12_hung_0l41 fu) (nI w) l2 (hf sh q).1 (nI (hf sh q).2.1) (nI (hf sh q).2.2) (nI q) σ = _
    unfold fX12_hung_0b41
    simp only [bd_e, h35]
    rw [if_pos ((leN (by omega) (by omega)).mpr (Nat.le_refl _))]
  | fu + 1, m + 1, q, hq, hf' => by
    have b1 := (hf_le hs q).1
    have b2 := hs q
    rw [← hung41_l hn h35 hs hx fu m (q + 1) (by omega) (by omega)]
    show fX12_hung_0b41 (fX12_hung_0l41 fu) (nI w) l2 (hf sh q).1 (nI (hf sh q).2.1) (nI (hf sh q).2.2) (nI q) σ = fX12_hung_0l41 fu (nI w) l2 (if sh q ≤ (hf sh q).2.1 then (hf sh q).1 else nI q) (nI (if sh q ≤ (hf sh q).2.1 then (hf sh q).2.1 else sh q)) (nI (if sh q ≤ 0 then (hf sh q).2.2 else (hf sh q).2.2 + 1)) (nI (q + 1)) σ
    unfold fX12_hung_0b41
    simp only [bd_e, h35]
    rw [if_neg (fun z => absurd ((leN (by omega) (by omega)).mp z) (by omega)), hx _ _ _ _ q (by omega)]
    unfold fX12_hung_0b118 fX12_hung_0b130 fX12_hung_0b125 fX12_hung_0b131 fX12_hung_0b144 fX12_hung_0b139 fX12_hung_0b146 fX12_hung_0b159 fX12_hung_0b155 fX12_hung_0b160
    simp only [bd_e, n_add1, leN (a := sh q) (b := (hf sh q).2.1) (by omega) (by omega), show nI (sh q) ≤ 0 ↔ sh q ≤ 0 from leN (b := 0) (by omega) (by omega)]
    by_cases c : sh q ≤ (hf sh q).2.1
    · by_cases d : sh q ≤ 0
      · simp only [if_pos c, if_pos d, Int32.add_zero]
      · simp only [if_pos c, if_neg d]
    · simp only [if_neg c, if_neg (show ¬ sh q ≤ 0 by omega)]
theorem hung_eq {V : Nat → Nat} {H : Nat → Bool} {c c1 N : Nat} {σ : ST} (h : KCU σ) (hF : FACT V H c c1 N σ) (hW : JW σ) (hV : JV σ) (a b : Int32) : (fX11_hung_0 a b σ).1 = (fX12_hung_0 a b (fX11_hung_0 a b σ).2).1 := by
  obtain ⟨k1, k2, k3⟩ := cutNow_X h
  obtain ⟨g1, g2⟩ := both_cut h hF
  obtain ⟨p1, p2⟩ := pieces_M g2.1 g2.2.2.2.2.2
  have S := side_of g1 p1
  have B := CUT_pb V H c N
  have hN := hF.2.2.2.2.1.1
  obtain ⟨W, hW12, w1, w2, ww⟩ := hW
  have eX : fX11_hung_0 a b σ = if PN a W ∧ ¬ b < 0 ∧ ¬ 1 < b then (if b = 0 then (fX10_pieceWithMost_0 a (fX11_cutNow_0 σ), fX11_cutNow_0 σ) else (fX10_piecesWithSome_0 a (fX11_cutNow_0 σ), fX11_cutNow_0 σ)) else (-1, σ) := by
    unfold fX11_hung_0 fX11_hung_0b0 fX11_hung_0b17 fX11_hung_0b28 fX11_hung_0b36 fX11_hung_0b51 fX11_hung_0b63 fX11_hung_0b26
    simp only [bd_e, within_X, w1, ite01]
    by_cases c1 : PN a W
    · rw [if_neg (fun z => z c1)]
      by_cases c2 : ¬ b < 0 ∧ ¬ 1 < b
      · rw [if_neg (fun z => z c2), if_pos (show PN a W ∧ ¬ b < 0 ∧ ¬ 1 < b from ⟨c1, c2⟩)]
      · rw [if_pos c2, if_neg (fun z : PN a W ∧ ¬ b < 0 ∧ ¬ 1 < b => c2 z.2)]
    · rw [if_pos c1, if_neg (fun z : PN a W ∧ ¬ b < 0 ∧ ¬ 1 < b => c1 z.1)]
  have eM : ∀ τ : ST, τ.1 32 = nI W → fX12_hung_0 a b τ = if PN a W ∧ ¬ b < 0 ∧ ¬ 1 < b then fX12_hung_0l41 4096 a b (-9) 0 0 0 (fX12_findPieces_0 τ) else (-1, τ) := by
    intro τ h32
    unfold fX12_hung_0 fX12_hung_0b0 fX12_hung_0b14 fX12_hung_0b23 fX12_hung_0b25
    simp only [bd_e, in_M, h32, ite01]
    by_cases c1 : PN a W
    · rw [if_neg (fun z => z c1)]
      by_cases c2 : ¬ b < 0 ∧ ¬ 1 < b
      · rw [if_neg (fun z => z c2), if_pos (show PN a W ∧ ¬ b < 0 ∧ ¬ 1 < b from ⟨c1, c2⟩)]
      · rw [if_pos c2, if_neg (fun z : PN a W ∧ ¬ b < 0 ∧ ¬ 1 < b => c2 z.2)]
    · rw [if_pos c1, if_neg (fun z : PN a W ∧ ¬ b < 0 ∧ ¬ 1 < b => c1 z.1)]
  by_cases cc : PN a W ∧ ¬ b < 0 ∧ ¬ 1 < b
  · have e2 : (fX11_hung_0 a b σ).2 = fX11_cutNow_0 σ := by
      rw [eX, if_pos cc]
      by_cases d : b = 0
      · rw [if_pos d]
      · rw [if_neg d]
    rw [e2, eM _ ((k3.1 32 rfl).trans w2), if_pos cc, eX, if_pos cc]
    obtain ⟨w, rfl, hw⟩ := cc.1.nat (by omega)
    obtain ⟨f, t, hft, ht, h52, h53⟩ := hV W w hW12 w1 hw
    obtain ⟨v1, v2⟩ := ww w hw
    have h52' : (fX11_cutNow_0 σ).2.2 52 w = nI f := by rw [k3.2 52 rfl]; exact h52
    have h53' : (fX11_cutNow_0 σ).2.2 53 w = nI t := by rw [k3.2 53 rfl]; exact h53
    have h72' : (fX12_findPieces_0 (fX11_cutNow_0 σ)).2.2 72 w = nI f := by rw [p2.2 72 rfl, k3.2 72 rfl, v1]; exact h52
    have h73' : (fX12_findPieces_0 (fX11_cutNow_0 σ)).2.2 73 w = nI t := by rw [p2.2 73 rfl, k3.2 73 rfl, v2]; exact h53
    generalize hn : (CUT V H c N).1.1 = n at *
    have hsh : ∀ q, (fun q => if q < n then shr f t ((CUT V H c N).1.2.1 q).1 ((CUT V H c N).1.2.1 q).2.1 else 0) q ≤ 48 := fun q => by
      show (if q < n then shr f t ((CUT V H c N).1.2.1 q).1 ((CUT V H c N).1.2.1 q).2.1 else 0) ≤ 48
      by_cases d : q < n
      · rw [if_pos d]
        have := B q (by rw [hn]; exact d)
        unfold shr
        omega
      · rw [if_neg d]
        omega
    have hX : ∀ q, q < n → fX10_sharedRows_0 (nI w) (nI q) (fX11_cutNow_0 σ) = nI ((fun q => if q < n then shr f t ((CUT V H c N).1.2.1 q).1 ((CUT V H c N).1.2.1 q).2.1 else 0) q) := fun q hq => by
      have b1 := B q (by rw [hn]; exact hq)
      obtain ⟨a1, a2, _⟩ := g1.1.2.1 q (by rw [hn]; exact hq)
      have hn48 := S.1
      show _ = nI (if q < n then shr f t ((CUT V H c N).1.2.1 q).1 ((CUT V H c N).1.2.1 q).2.1 else 0)
      rw [if_pos hq]
      exact shared_X (by omega) (by omega) hft ht b1.1 (by omega) h52' h53' a1 a2
    have hM : ∀ (K : Int32 → Int32 → Int32 → Int32 → Int32 → Int32 → ST → Int32 × ST) (l3 l4 l5 : Int32) (q : Nat), q < n → fX12_hung_0b50 K (nI w) b l3 l4 l5 (nI q) (fX12_findPieces_0 (fX11_cutNow_0 σ)) = fX12_hung_0b118 K (nI w) b l3 l4 l5 (nI q) (nI ((fun q => if q < n then shr f t ((CUT V H c N).1.2.1 q).1 ((CUT V H c N).1.2.1 q).2.1 else 0) q)) (fX12_findPieces_0 (fX11_cutNow_0 σ)) := fun K l3 l4 l5 q hq => by
      have b1 := B q (by rw [hn]; exact hq)
      obtain ⟨a1, a2, _⟩ := p1.1.2 q (by rw [hn]; exact hq)
      have hn48 := S.1
      show _ = fX12_hung_0b118 K (nI w) b l3 l4 l5 (nI q) (nI (if q < n then shr f t ((CUT V H c N).1.2.1 q).1 ((CUT V H c N).1.2.1 q).2.1 else 0)) _
      rw [if_pos hq]
      have L := hung62_l (K := K) (l2 := b) (l3 := l3) (l4 := l4) (l5 := l5) (w := w) (q := q) (by omega) (by omega) hft ht (show ((CUT V H c N).1.2.1 q).1 + ((CUT V H c N).1.2.1 q).2.1 ≤ 48 by omega) h72' h73' a1 a2 8589934592 ((CUT V H c N).1.2.1 q).2.1 ((CUT V H c N).1.2.1 q).1 rfl (by omega) (Nat.le_refl _)
      rw [show min ((CUT V H c N).1.2.1 q).1 (t + 1) - max ((CUT V H c N).1.2.1 q).1 f = 0 by omega] at L
      rw [← L]
      unfold fX12_hung_0b50
      simp only [bd_e, show (nI q).toNatClampNeg = q from nI_clamp (by omega), a1, nI_0]
    have hm := most_l S.1 S.2.1 hsh hX 4096 n 0 (by omega) (by have := S.1; omega)
    have hsome := some_l S.1 S.2.1 hsh hX 4096 n 0 (by omega) (by have := S.1; omega)
    have hb := hung41_l (l2 := b) S.1 S.2.2.1 hsh hM 4096 n 0 (by omega) (by have := S.1; omega)
    generalize hF' : hf (fun q => if q < n then shr f t ((CUT V H c N).1.2.1 q).1 ((CUT V H c N).1.2.1 q).2.1 else 0) = F at *
    have F0 : F 0 = (-9, 0, 0) := by rw [← hF']; rfl
    rw [F0] at hm hsome hb
    have hb' : fX12_hung_0l41 4096 (nI w) b (-9) 0 0 0 (fX12_findPieces_0 (fX11_cutNow_0 σ)) = fX12_hung_0b169 b (F n).1 (nI (F n).2.2) (fX12_findPieces_0 (fX11_cutNow_0 σ)) := by
      rw [← hb, nI_0]
    rw [hb']
    unfold fX12_hung_0b169 fX12_hung_0b173 fX12_hung_0b177 fX12_hung_0b179
    by_cases d : b = 0
    · rw [if_pos d, if_pos d]
      show fX10_pieceWithMost_0 (nI w) (fX11_cutNow_0 σ) = (F n).1
      rw [← hm, nI_0]
      rfl
    · rw [if_neg d, if_neg d]
      show fX10_piecesWithSome_0 (nI w) (fX11_cutNow_0 σ) = nI (F n).2.2
      rw [← hsome, nI_0]
      rfl
  · rw [eX, if_neg cc]
    show -1 = (fX12_hung_0 a b σ).1
    rw [eM _ w2, if_neg cc]
