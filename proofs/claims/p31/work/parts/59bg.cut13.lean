/-! hung: words and the pieces they share rows with -/
def JV (σ : ST) : Prop := ∀ W w, W ≤ 12 → σ.1 20 = nI W → w < W → ∃ f t, f ≤ t ∧ t < 48 ∧ σ.2.2 52 w = nI f ∧ σ.2.2 53 w = nI t
theorem JV.fr {I A : List (Nat × Nat)} {σ τ : ST} (h : JV σ) (f : Fr I A σ τ) (hh : (!inR I 20 && !inR A 52 && !inR A 53) = true) : JV τ := by
  simp only [Bool.and_eq_true, Bool.not_eq_true'] at hh
  obtain ⟨⟨h1, h2⟩, h3⟩ := hh
  intro W w hW hw hwW
  rw [f.2 _ h2, f.2 _ h3]
  exact h W w hW ((f.1 _ h1).symm.trans hw) hwW
theorem jv_word {σ σ1 : ST} {a b r1 : Int32} (hJ : JRW σ) (hV : JV σ) (x1 : fX11_word_0 a b σ = (r1, σ1)) : JV σ1 := by
  obtain ⟨⟨R, hR, e1, e2, _⟩, W, hW, w1, _, _⟩ := hJ
  obtain ⟨τ, y0, y1, y2, y3⟩ := word_X e1 hR w1 hW a b
  rw [y0] at x1
  have p2 := pin2 x1
  subst p2
  intro W' w hW' hw hwW
  by_cases c : AR a b R ∧ W < 12
  · rw [if_pos c] at y1 y2 y3
    have eW := y_eq (by omega) (by omega) (hw.symm.trans y1)
    rw [y2, y3]
    by_cases d : w = W
    · subst d
      obtain ⟨f, t, rfl, rfl, h1, h2⟩ := c.1.nat hR
      rw [pk_us, pk_us]
      exact ⟨f, t, h1, by omega, rfl, rfl⟩
    · rw [pk_un d, pk_un d]
      exact hV W w hW w1 (by omega)
  · rw [if_neg c] at y1 y2 y3
    have eW := y_eq (by omega) (by omega) (hw.symm.trans y1)
    rw [y2, y3]
    exact hV W w hW w1 (by omega)
theorem jv_hush {σ σ1 : ST} {r1 : Int32} (x1 : fX11_hush_0 σ = (r1, σ1)) : JV σ1 := by
  simp only [fX11_hush_0, fX11_hush_0b0, bd_e] at x1
  have e : σ1.1 20 = nI 0 := by
    rw [← pin2 x1, (nf_X _).2 20 (by omega), sI_ne _ _ rfl, sI_eq, nI_0]
  intro W w hW hw hwW
  have := y_eq (by omega) (by omega) (e.symm.trans hw)
  omega
/-- pieces have rows, and lie among the N rows -/
def PB (s : PSt) (N : Nat) : Prop := ∀ q, q < s.1 → 1 ≤ (s.2.1 q).2.1 ∧ (s.2.1 q).1 + (s.2.1 q).2.1 ≤ N
theorem addP_pb {s : PSt} {i l t N : Nat} (h : PB s N) (h1 : 1 ≤ l) (h2 : i + l ≤ N) : PB (addP s i l t) N := by
  intro q hq
  have hq' : q < s.1 + 1 := hq
  show 1 ≤ (if q = s.1 then (i, l, t) else s.2.1 q).2.1 ∧ (if q = s.1 then (i, l, t) else s.2.1 q).1 + (if q = s.1 then (i, l, t) else s.2.1 q).2.1 ≤ N
  by_cases c : q = s.1
  · rw [if_pos c]
    exact ⟨h1, h2⟩
  · rw [if_neg c]
    exact h q (by omega)
theorem pcs_pb {T : Nat → Nat} {t a b N : Nat} (hb : b ≤ N) (hT : ∀ i, a ≤ i → i < b → 1 ≤ T i ∧ i + T i ≤ b) : ∀ g i (s : PSt), a ≤ i → PB s N → PB (pcs T t b g i s) N
  | 0, _, _, _, h => h
  | g + 1, i, s, ha, h => by
    show PB (if b ≤ i then s else pcs T t b g (i + T i) (addP s i (T i) t)) N
    by_cases c : b ≤ i
    · rw [if_pos c]
      exact h
    · rw [if_neg c]
      obtain ⟨t1, t2⟩ := hT i ha (by omega)
      exact pcs_pb hb hT g (i + T i) _ (by omega) (addP_pb h t1 (by omega))
theorem eh_le (H : Nat → Bool) (N : Nat) : ∀ f l, l ≤ N → eh H N f l ≤ N
  | 0, _, h => h
  | f + 1, l, h => by
    show (if N ≤ l then l else if H l = true then eh H N f (l + 1) else l) ≤ N
    by_cases c : N ≤ l
    · rw [if_pos c]
      exact h
    · rw [if_neg c]
      by_cases d : H l = true
      · rw [if_pos d]
        exact eh_le H N f (l + 1) (by omega)
      · rw [if_neg d]
        exact h
theorem cutS_pb (V : Nat → Nat) (H : Nat → Bool) (c N : Nat) : ∀ f l s st tot hd, PB s N → PB (cutS V H c N f l s st tot hd).1 N
  | 0, _, _, _, _, _, h => h
  | f + 1, l, s, st, tot, hd, h => by
    have es : cutS V H c N (f + 1) l s st tot hd = if N ≤ l then (s, st, tot, hd) else if eh H N N l ≤ l then cutS V H c N f (l + 1) s st tot hd else cutS V H c N f (eh H N N l + 1) (pcs (cs V c (eh H N N l) (eh H N N l - l)).2 st (eh H N N l) (eh H N N l - l + 1) l s) (st + 1) (tot + (cs V c (eh H N N l) (eh H N N l - l)).1 l) (hd + (eh H N N l - l)) := rfl
    rw [es]
    by_cases q : N ≤ l
    · rw [if_pos q]
      exact h
    · rw [if_neg q]
      have he := eh_le H N N l (by omega)
      by_cases d : eh H N N l ≤ l
      · rw [if_pos d]
        exact cutS_pb V H c N f _ _ _ _ _ h
      · rw [if_neg d]
        exact cutS_pb V H c N f _ _ _ _ _ (pcs_pb he (fun i a b => cs_T V c (eh H N N l) (eh H N N l - l) (by omega) i (by omega) b) _ l s (Nat.le_refl _) h)
theorem CUT_pb (V : Nat → Nat) (H : Nat → Bool) (c N : Nat) : PB (CUT V H c N).1 N := cutS_pb V H c N _ _ _ _ _ _ fun q hq => absurd hq (Nat.not_lt_zero _)
/-- the rows that f .. t and a .. a + l - 1 share -/
def shr (f t a l : Nat) : Nat := min (a + l) (t + 1) - max a f
theorem shared_X {σ : ST} {w q f t a l : Nat} (hw : w < 48) (hq : q < 48) (hft : f ≤ t) (ht : t < 48) (hl : 1 ≤ l) (hal : a + l ≤ 48) (h52 : σ.2.2 52 w = nI f) (h53 : σ.2.2 53 w = nI t) (h12 : σ.2.2 12 q = nI a) (h13 : σ.2.2 13 q = nI l) : fX10_sharedRows_0 (nI w) (nI q) σ = nI (shr f t a l) := by
  have m1 : (if nI f < nI a then nI a else nI f) = nI (max a f) := by
    by_cases c : f < a
    · rw [if_pos ((nI_ltI (by omega) (by omega)).mpr c), show max a f = a by omega]
    · rw [if_neg (fun z => c (y_lt (by omega) (by omega) z)), show max a f = f by omega]
  have m2 : (if nI (a + l - 1) < nI t then nI (a + l - 1) else nI t) = nI (min (a + l - 1) t) := by
    by_cases c : a + l - 1 < t
    · rw [if_pos ((nI_ltI (by omega) (by omega)).mpr c), show min (a + l - 1) t = a + l - 1 by omega]
    · rw [if_neg (fun z => c (y_lt (by omega) (by omega) z)), show min (a + l - 1) t = t by omega]
  have m3 : nI (min (a + l - 1) t) - nI (max a f) + 1 = nI (min (a + l) (t + 1)) - nI (max a f) := by
    rw [show min (a + l) (t + 1) = min (a + l - 1) t + 1 by omega, ← n_add1, Int32.sub_eq_add_neg, Int32.sub_eq_add_neg, Int32.add_assoc, Int32.add_assoc, Int32.add_comm (-nI (max a f)) 1]
  have s1 := subI (a := min (a + l) (t + 1)) (b := max a f) (by omega) (by omega)
  have z : (0 : Int32).toInt = 0 := rfl
  unfold fX10_sharedRows_0 fX10_sharedRows_0b0
  simp only [bd_e, show (nI w).toNatClampNeg = w from nI_clamp (by omega), show (nI q).toNatClampNeg = q from nI_clamp (by omega), h52, h53, h12, h13, nI_add, show nI (a + l) - 1 = nI (a + l - 1) from pk_sub (b := 1) (by omega), m1, m2, m3]
  unfold shr
  by_cases c : max a f < min (a + l) (t + 1)
  · rw [if_pos (by rw [Int32.lt_iff_toInt_lt, s1, z]; omega)]
    exact pk_sub (by omega)
  · rw [if_neg (by rw [Int32.lt_iff_toInt_lt, s1, z]; omega), show min (a + l) (t + 1) - max a f = 0 by omega]
    exact nI_0.symm
/-- pieces 0 .. q - 1: the first that shares most, how many it shares, how many share any -/
def hf (sh : Nat → Nat) : Nat → Int32 × Nat × Nat
  | 0 => (-9, 0, 0)
  | q + 1 => (if sh q ≤ (hf sh q).2.1 then (hf sh q).1 else nI q, if sh q ≤ (hf sh q).2.1 then (hf sh q).2.1 else sh q, if sh q ≤ 0 then (hf sh q).2.2 else (hf sh q).2.2 + 1)
theorem hf_le {sh : Nat → Nat} (h : ∀ q, sh q ≤ 48) : ∀ q, (hf sh q).2.1 ≤ 48 ∧ (hf sh q).2.2 ≤ q
  | 0 => ⟨Nat.zero_le _, Nat.le_refl _⟩
  | q + 1 => by
    obtain ⟨h1, h2⟩ := hf_le h q
    have h3 := h q
    show (if sh q ≤ (hf sh q).2.1 then (hf sh q).2.1 else sh q) ≤ 48 ∧ (if sh q ≤ 0 then (hf sh q).2.2 else (hf sh q).2.2 + 1) ≤ q + 1
    constructor
    · split <;> omega
    · split <;> omega
theorem most_l {σ : ST} {w n : Nat} {sh : Nat → Nat} (hn : n ≤ 48) (h5 : σ.1 5 = nI n) (hs : ∀ q, sh q ≤ 48) (hx : ∀ q, q < n → fX10_sharedRows_0 (nI w) (nI q) σ = nI (sh q)) : ∀ (fu m q : Nat), q + m = n → m < fu → fX10_pieceWithMost_0l9 fu (nI w) (hf sh q).1 (nI (hf sh q).2.1) (nI q) σ = (hf sh n).1
  | 0, _, _, _, h => absurd h (Nat.not_lt_zero _)
  | fu + 1, 0, q, hq, _ => by
    have q0 : q = n := by omega
    subst q0
    show fX10_pieceWithMost_0b9 (fX10_pieceWithMost_0l9 fu) (nI w) (hf sh q).1 (nI (hf sh q).2.1) (nI q) σ = _
    unfold fX10_pieceWithMost_0b9 fX10_pieceWithMost_0b48
    simp only [bd_e, h5]
    rw [if_pos ((leN (by omega) (by omega)).mpr (Nat.le_refl _))]
  | fu + 1, m + 1, q, hq, hf' => by
    have b1 := (hf_le hs q).1
    have b2 := hs q
    rw [← most_l hn h5 hs hx fu m (q + 1) (by omega) (by omega)]
    show fX10_pieceWithMost_0b9 (fX10_pieceWithMost_0l9 fu) (nI w) (hf sh q).1 (nI (hf sh q).2.1) (nI q) σ = fX10_pieceWithMost_0l9 fu (nI w) (if sh q ≤ (hf sh q).2.1 then (hf sh q).1 else nI q) (nI (if sh q ≤ (hf sh q).2.1 then (hf sh q).2.1 else sh q)) (nI (q + 1)) σ
    unfold fX10_pieceWithMost_0b9 fX10_pieceWithMost_0b18 fX10_pieceWithMost_0b35 fX10_pieceWithMost_0b42
    simp only [bd_e, h5, hx q (by omega), n_add1, leN (a := sh q) (b := (hf sh q).2.1) (by omega) (by omega)]
    rw [if_neg (fun z => absurd ((leN (by omega) (by omega)).mp z) (by omega))]
    by_cases c : sh q ≤ (hf sh q).2.1
    · rw [if_pos c, if_pos c, if_pos c]
    · rw [if_neg c, if_neg c, if_neg c]
theorem some_l {σ : ST} {w n : Nat} {sh : Nat → Nat} (hn : n ≤ 48) (h5 : σ.1 5 = nI n) (hs : ∀ q, sh q ≤ 48) (hx : ∀ q, q < n → fX10_sharedRows_0 (nI w) (nI q) σ = nI (sh q)) : ∀ (fu m q : Nat), q + m = n → m < fu → fX10_piecesWithSome_0l5 fu (nI w) (nI (hf sh q).2.2) (nI q) σ = nI (hf sh n).2.2
  | 0, _, _, _, h => absurd h (Nat.not_lt_zero _)
  | fu + 1, 0, q, hq, _ => by
    have q0 : q = n := by omega
    subst q0
    show fX10_piecesWithSome_0b5 (fX10_piecesWithSome_0l5 fu) (nI w) (nI (hf sh q).2.2) (nI q) σ = _
    unfold fX10_piecesWithSome_0b5 fX10_piecesWithSome_0b39
    simp only [bd_e, h5]
    rw [if_pos ((leN (by omega) (by omega)).mpr (Nat.le_refl _))]
  | fu + 1, m + 1, q, hq, hf' => by
    have b2 := hs q
    rw [← some_l hn h5 hs hx fu m (q + 1) (by omega) (by omega)]
    show fX10_piecesWithSome_0b5 (fX10_piecesWithSome_0l5 fu) (nI w) (nI (hf sh q).2.2) (nI q) σ = fX10_piecesWithSome_0l5 fu (nI w) (nI (if sh q ≤ 0 then (hf sh q).2.2 else (hf sh q).2.2 + 1)) (nI (q + 1)) σ
    unfold fX10_piecesWithSome_0b5 fX10_piecesWithSome_0b14 fX10_piecesWithSome_0b30 fX10_piecesWithSome_0b26 fX10_piecesWithSome_0b31
    simp only [bd_e, h5, hx q (by omega), n_add1, show nI (sh q) ≤ 0 ↔ sh q ≤ 0 from leN (b := 0) (by omega) (by omega)]
    rw [if_neg (fun z => absurd ((leN (by omega) (by omega)).mp z) (by omega))]
    by_cases c : sh q ≤ 0
    · rw [if_pos c, if_pos c, Int32.add_zero]
    · rw [if_neg c, if_neg c]
/-- the reference counts row by row -/
theorem hung62_l {K : Int32 → Int32 → Int32 → Int32 → Int32 → Int32 → ST → Int32 × ST} {σ : ST} {w q f t a l : Nat} {l2 l3 l4 l5 : Int32} (hw : w < 48) (hq : q < 48) (hft : f ≤ t) (ht : t < 48) (hal : a + l ≤ 48) (h72 : σ.2.2 72 w = nI f) (h73 : σ.2.2 73 w = nI t) (h75 : σ.2.2 75 q = nI a) (h76 : σ.2.2 76 q = nI l) : ∀ (fu m r : Nat), r + m = a + l → m < fu → a ≤ r → fX12_hung_0l62 K fu (nI w) l2 l3 l4 l5 (nI q) (nI (min r (t + 1) - max a f)) (nI r) σ = fX12_hung_0b118 K (nI w) l2 l3 l4 l5 (nI q) (nI (shr f t a l)) σ
  | 0, _, _, _, h, _ => absurd h (Nat.not_lt_zero _)
  | fu + 1, 0, r, hr, _, ha => by
    have r0 : r = a + l := by omega
    subst r0
    show fX12_hung_0b62 K (fX12_hung_0l62 K fu) (nI w) l2 l3 l4 l5 (nI q) (nI (min (a + l) (t + 1) - max a f)) (nI (a + l)) σ = _
    unfold fX12_hung_0b62 shr
    simp only [bd_e, show (nI q).toNatClampNeg = q from nI_clamp (by omega), h75, h76, nI_add]
    rw [if_pos ((leN (by omega) (by omega)).mpr (Nat.le_refl _))]
  | fu + 1, m + 1, r, hr, hf', ha => by
    rw [← hung62_l hw hq hft ht hal h72 h73 h75 h76 fu m (r + 1) (by omega) (by omega) (by omega)]
    show fX12_hung_0b62 K (fX12_hung_0l62 K fu) (nI w) l2 l3 l4 l5 (nI q) (nI (min r (t + 1) - max a f)) (nI r) σ = _
    unfold fX12_hung_0b62 fX12_hung_0b82 fX12_hung_0b108 fX12_hung_0b104 fX12_hung_0b109
    simp only [bd_e, show (nI q).toNatClampNeg = q from nI_clamp (by omega), show (nI w).toNatClampNeg = w from nI_clamp (by omega), h75, h76, h72, h73, nI_add, n_add1, in_M, ite01, nI_ltI (a := r) (b := f) (by omega) (by omega), nI_ltI (a := t) (b := r) (by omega) (by omega)]
    rw [if_neg (fun z => absurd ((leN (by omega) (by omega)).mp z) (by omega))]
    by_cases c : ¬ r < f ∧ ¬ t < r
    · rw [if_neg (fun z => z c), show min (r + 1) (t + 1) - max a f = min r (t + 1) - max a f + 1 by omega]
    · rw [if_pos c, Int32.add_zero, show min (r + 1) (t + 1) - max a f = min r (t + 1) - max a f by omega]
