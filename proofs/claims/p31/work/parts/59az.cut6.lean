/-! which rows are heard; the stretches; the class's cut -/
/-- row r of the class is heard, at threshold c -/
def HX (σ : ST) (c : Int32) (r : Nat) : Bool := decide (σ.2.2 4 r = 0 ∧ σ.2.2 5 r = 0 ∧ ¬ σ.2.2 3 (4 * r + 0) + σ.2.2 3 (4 * r + 1) + σ.2.2 3 (4 * r + 2) + σ.2.2 3 (4 * r + 3) < c)
def HM (σ : ST) (c : Int32) (r : Nat) : Bool := decide (σ.2.2 69 r = 0 ∧ σ.2.2 70 r = 0 ∧ ¬ σ.2.2 68 (4 * r + 0) + σ.2.2 68 (4 * r + 1) + σ.2.2 68 (4 * r + 2) + σ.2.2 68 (4 * r + 3) < c)
theorem heard_X {σ : ST} {c : Int32} {r : Nat} (hr : r < 48) : fX7_isHeard_0 (nI r) c σ = if HX σ c r = true then 1 else 0 := by
  have e : ∀ k fu s, k < 4 → fX7_isHeard_0l25 (fu + 1) (nI r) c s (nI k) σ = fX7_isHeard_0l25 fu (nI r) c (s + σ.2.2 3 (4 * r + k)) (nI (k + 1)) σ := fun k fu s hk => by
    show fX7_isHeard_0b25 (fX7_isHeard_0l25 fu) (nI r) c s (nI k) σ = _
    unfold fX7_isHeard_0b25 fX7_isHeard_0b31
    rw [if_neg (show ¬ 4 ≤ nI k from fun q => absurd ((leN (a := 4) (by omega) (by omega)).mp q) (by omega))]
    simp only [bd_e, n_mul4, nI_add, n_add1, show (nI (r * 4 + k)).toNatClampNeg = 4 * r + k from by rw [nI_clamp (by omega)]; omega]
  have e4 : ∀ fu s, fX7_isHeard_0l25 (fu + 1) (nI r) c s (nI 4) σ = if s < c then 0 else 1 := fun fu s => by
    show fX7_isHeard_0b25 (fX7_isHeard_0l25 fu) (nI r) c s (nI 4) σ = _
    unfold fX7_isHeard_0b25 fX7_isHeard_0b51 fX7_isHeard_0b60 fX7_isHeard_0b56 fX7_isHeard_0b61
    rw [if_pos (show 4 ≤ nI 4 by decide)]
  unfold fX7_isHeard_0 fX7_isHeard_0b0 fX7_isHeard_0b9 fX7_isHeard_0b18 fX7_isHeard_0b20 HX
  simp only [bd_e, show (nI r).toNatClampNeg = r from nI_clamp (by omega)]
  by_cases h4 : σ.2.2 4 r = 0
  · rw [if_pos h4]
    by_cases h5 : σ.2.2 5 r = 0
    · rw [if_pos h5, ← nI_0, e 0 4095 _ (by omega), e 1 4094 _ (by omega), e 2 4093 _ (by omega), e 3 4092 _ (by omega), e4 4091, nI_0, Int32.zero_add]
      by_cases h : σ.2.2 3 (4 * r + 0) + σ.2.2 3 (4 * r + 1) + σ.2.2 3 (4 * r + 2) + σ.2.2 3 (4 * r + 3) < c
      · rw [if_pos h, if_neg (fun q => (of_decide_eq_true q).2.2 h)]
      · rw [if_neg h, if_pos (decide_eq_true ⟨h4, h5, h⟩)]
    · rw [if_neg h5, if_neg (fun q => h5 (of_decide_eq_true q).2.1)]
  · rw [if_neg h4, if_neg (fun q => h4 (of_decide_eq_true q).1)]
theorem heard_M {σ : ST} {r : Nat} (hr : r < 48) : fX12_isHeard_0 (nI r) σ = if HM σ (σ.2.2 66 1) r = true then 1 else 0 := by
  unfold fX12_isHeard_0 fX12_isHeard_0b0 fX12_isHeard_0b51 fX12_isHeard_0b60 fX12_isHeard_0b70 fX12_isHeard_0b74 fX12_isHeard_0b75 HM
  simp only [bd_e, n_4mul, n_add1, n_add2, n_add3, show (nI r).toNatClampNeg = r from nI_clamp (by omega), show (nI (4 * r)).toNatClampNeg = 4 * r + 0 from nI_clamp (by omega), show (nI (4 * r + 1)).toNatClampNeg = 4 * r + 1 from nI_clamp (by omega), show (nI (4 * r + 2)).toNatClampNeg = 4 * r + 2 from nI_clamp (by omega), show (nI (4 * r + 3)).toNatClampNeg = 4 * r + 3 from nI_clamp (by omega), show (1 : Int32).toNatClampNeg = 1 by decide]
  by_cases h4 : σ.2.2 69 r = 0
  · rw [if_pos h4]
    by_cases h5 : σ.2.2 70 r = 0
    · rw [if_pos h5]
      by_cases h : σ.2.2 68 (4 * r + 0) + σ.2.2 68 (4 * r + 1) + σ.2.2 68 (4 * r + 2) + σ.2.2 68 (4 * r + 3) < σ.2.2 66 1
      · rw [if_pos h, if_neg (fun q => (of_decide_eq_true q).2.2 h)]
      · rw [if_neg h, if_pos (decide_eq_true ⟨h4, h5, h⟩)]
    · rw [if_neg h5, if_neg (fun q => h5 (of_decide_eq_true q).2.1)]
  · rw [if_neg h4, if_neg (fun q => h4 (of_decide_eq_true q).1)]
/-- the first row from l on that isn't heard, or N -/
def eh (H : Nat → Bool) (N : Nat) : Nat → Nat → Nat
  | 0, l => l
  | f + 1, l => if N ≤ l then l else if H l = true then eh H N f (l + 1) else l
def EH (H : Nat → Bool) (N l e : Nat) : Prop := l ≤ e ∧ e ≤ N ∧ (∀ r, l ≤ r → r < e → H r = true) ∧ (e < N → ¬ H e = true)
theorem eh_of {H : Nat → Bool} {N e : Nat} : ∀ f l, N - l ≤ f → EH H N l e → eh H N f l = e
  | 0, l, hf, h => by
    have h1 := h.1
    have h2 := h.2.1
    show l = e
    omega
  | f + 1, l, hf, h => by
    show (if N ≤ l then l else if H l = true then eh H N f (l + 1) else l) = e
    have h1 := h.1
    have h2 := h.2.1
    by_cases c : N ≤ l
    · rw [if_pos c]
      omega
    · rw [if_neg c]
      by_cases d : H l = true
      · have ne : l ≠ e := fun q => h.2.2.2 (by omega) (by rw [← q]; exact d)
        rw [if_pos d]
        exact eh_of f (l + 1) (by omega) ⟨by omega, h2, fun r a b => h.2.2.1 r (by omega) b, h.2.2.2⟩
      · rw [if_neg d]
        rcases Nat.eq_or_lt_of_le h1 with q | q
        · exact q
        · exact absurd (h.2.2.1 l (Nat.le_refl _) q) d
/-- the stretches from row l on: pieces, stretches, price, heard rows -/
def cutS (V : Nat → Nat) (H : Nat → Bool) (c N : Nat) : Nat → Nat → PSt → Nat → Nat → Nat → PSt × Nat × Nat × Nat
  | 0, _, s, st, tot, hd => (s, st, tot, hd)
  | f + 1, l, s, st, tot, hd => if N ≤ l then (s, st, tot, hd) else if eh H N N l ≤ l then cutS V H c N f (l + 1) s st tot hd else cutS V H c N f (eh H N N l + 1) (pcs (cs V c (eh H N N l) (eh H N N l - l)).2 st (eh H N N l) (eh H N N l - l + 1) l s) (st + 1) (tot + (cs V c (eh H N N l) (eh H N N l - l)).1 l) (hd + (eh H N N l - l))
def CUT (V : Nat → Nat) (H : Nat → Bool) (c N : Nat) : PSt × Nat × Nat × Nat := cutS V H c N (N + 1) 0 (0, fun _ => (0, 0, 0), fun _ => -9) 0 0 0
/-- the class's cut is that of N rows: values V, heard H, price c -/
def CUTX (V : Nat → Nat) (H : Nat → Bool) (c N : Nat) (σ : ST) : Prop := CP V (CUT V H c N).1 σ ∧ σ.1 6 = nI (CUT V H c N).2.1 ∧ σ.1 7 = nI (CUT V H c N).2.2.1 ∧ σ.1 8 = nI (CUT V H c N).2.2.2 ∧ (CUT V H c N).1.1 ≤ 48
/-- what the class's rows say -/
def RWX (V : Nat → Nat) (H : Nat → Bool) (c1 N : Nat) (σ : ST) : Prop := N ≤ 48 ∧ σ.1 2 = nI N ∧ (∀ r, r < N → HX σ (nI c1) r = H r) ∧ (∀ r, r < N → H r = true → ∀ k, k < 4 → σ.2.2 3 (4 * r + k) = nI (V (4 * r + k)) ∧ V (4 * r + k) ≤ 99)
theorem RWX.fr {V : Nat → Nat} {H : Nat → Bool} {c1 N : Nat} {I J : List (Nat × Nat)} {σ τ : ST} (h : RWX V H c1 N σ) (f : Fr I J σ τ) (hh : (!inR I 2 && [3, 4, 5].all (fun k => !inR J k)) = true) : RWX V H c1 N τ := by
  simp only [List.all_cons, List.all_nil, Bool.and_true, Bool.and_eq_true, Bool.not_eq_true'] at hh
  obtain ⟨h1, h2, h3, h4⟩ := hh
  refine ⟨h.1, (f.1 _ h1).trans h.2.1, fun r hr => ?_, ?_⟩
  · rw [← h.2.2.1 r hr]
    unfold HX
    rw [f.2 _ h2, f.2 _ h3, f.2 _ h4]
  · rw [f.2 _ h2]
    exact h.2.2.2
theorem RWX.rows {V : Nat → Nat} {H : Nat → Bool} {c1 N : Nat} {σ : ST} (h : RWX V H c1 N σ) {l e : Nat} (he : EH H N l e) : ROWS 3 l e V σ := fun r a b => h.2.2.2 r (by have := he.2.1; omega) (he.2.2.1 r a b)
theorem endX_l {K : Int32 → Int32 → Int32 → ST → ST} {V : Nat → Nat} {H : Nat → Bool} {c1 N : Nat} {c0 : Int32} {l : Nat} {σ : ST} (h : RWX V H c1 N σ) : ∀ (fu m j : Nat), j + m = N → m < fu → l ≤ j → (∀ r, l ≤ r → r < j → H r = true) → ∃ e, EH H N l e ∧ fX2_cut_0l45 K fu c0 (nI c1) (nI l) (nI j) σ = fX2_cut_0b71 K c0 (nI c1) (nI l) (nI e) σ
  | 0, _, _, _, h, _, _ => absurd h (Nat.not_lt_zero _)
  | fu + 1, 0, j, hj, _, hl, hr => by
    have hN := h.1
    refine ⟨j, ⟨hl, by omega, hr, fun q => by omega⟩, ?_⟩
    show fX2_cut_0b45 K (fX2_cut_0l45 K fu) c0 (nI c1) (nI l) (nI j) σ = _
    unfold fX2_cut_0b45
    simp only [bd_e, h.2.1]
    rw [if_pos ((leN (by omega) (by omega)).mpr (by omega))]
  | fu + 1, m + 1, j, hj, hf, hl, hr => by
    have hN := h.1
    have e0 : fX2_cut_0l45 K (fu + 1) c0 (nI c1) (nI l) (nI j) σ = fX2_cut_0b45 K (fX2_cut_0l45 K fu) c0 (nI c1) (nI l) (nI j) σ := rfl
    rw [e0]
    unfold fX2_cut_0b45 fX2_cut_0b54
    simp only [bd_e, h.2.1, heard_X (σ := σ) (c := nI c1) (show j < 48 by omega), h.2.2.1 j (by omega)]
    rw [if_neg (fun q => absurd ((leN (by omega) (by omega)).mp q) (by omega))]
    by_cases d : H j = true
    · rw [if_pos d, if_neg (show ¬ (1 : Int32) = 0 by decide)]
      unfold fX2_cut_0b65
      simp only [bd_e, n_add1]
      exact endX_l h fu m (j + 1) (by omega) (by omega) (by omega) (fun r a b => by
        rcases Nat.eq_or_lt_of_le (Nat.le_of_lt_succ b) with q | q
        · rw [q]
          exact d
        · exact hr r a q)
    · rw [if_neg d, if_pos rfl]
      exact ⟨j, ⟨hl, by omega, hr, fun _ => d⟩, rfl⟩
theorem cs_T (V : Nat → Nat) (c b : Nat) : ∀ m, m ≤ b → ∀ i, b - m ≤ i → i < b → 1 ≤ (cs V c b m).2 i ∧ i + (cs V c b m).2 i ≤ b
  | 0, _, i, h1, h2 => by omega
  | m + 1, hm, i, h1, h2 => by
    have e : (cs V c b (m + 1)).2 i = if i = b - 1 - m then (bF (wt V c (b - 1 - m) (cs V c b m).1) m).2 else (cs V c b m).2 i := rfl
    rw [e]
    by_cases q : i = b - 1 - m
    · rw [if_pos q]
      obtain ⟨l, l1, l2, l3⟩ := bF_mem (wt V c (b - 1 - m) (cs V c b m).1) m
      rw [l3]
      show 1 ≤ l ∧ i + l ≤ b
      omega
    · rw [if_neg q]
      exact cs_T V c b m (by omega) i (by omega) h2
theorem cut32_l {V : Nat → Nat} {H : Nat → Bool} {c c1 N : Nat} (hc : c ≤ 999) : ∀ (fu f l : Nat) (s : PSt) (st tot hd : Nat) (τ : ST), N + 1 - l ≤ f → N + 1 - l < fu → l ≤ N + 1 → RWX V H c1 N τ → CP V s τ → s.1 ≤ l → s.1 ≤ 48 → τ.1 6 = nI st → τ.1 7 = nI tot → τ.1 8 = nI hd → ∃ τ', fX2_cut_0l32 fu (nI c) (nI c1) (nI l) τ = τ' ∧ CP V (cutS V H c N f l s st tot hd).1 τ' ∧ τ'.1 6 = nI (cutS V H c N f l s st tot hd).2.1 ∧ τ'.1 7 = nI (cutS V H c N f l s st tot hd).2.2.1 ∧ τ'.1 8 = nI (cutS V H c N f l s st tot hd).2.2.2 ∧ (cutS V H c N f l s st tot hd).1.1 ≤ 48 ∧ Fr [(3, 8)] [(8, 19)] τ τ'
  | 0, _, _, _, _, _, _, _, _, h, _, _, _, _, _, _, _, _ => absurd h (Nat.not_lt_zero _)
  | fu + 1, f, l, s, st, tot, hd, τ, hf, hfu, hlN, hR, hC, hs, hs48, h6, h7, h8 => by
    have hN := hR.1
    have e0 : fX2_cut_0l32 (fu + 1) (nI c) (nI c1) (nI l) τ = fX2_cut_0b32 (fX2_cut_0l32 fu) (nI c) (nI c1) (nI l) τ := rfl
    by_cases q : N ≤ l
    · have es : cutS V H c N f l s st tot hd = (s, st, tot, hd) := by
        cases f with
        | zero => rfl
        | succ f => exact if_pos q
      rw [es, e0]
      unfold fX2_cut_0b32 fX2_cut_0b148
      simp only [bd_e, hR.2.1]
      rw [if_pos ((leN (by omega) (by omega)).mpr q)]
      exact ⟨τ, rfl, hC, h6, h7, h8, hs48, Fr.refl τ⟩
    · obtain ⟨f, rfl⟩ : ∃ g, f = g + 1 := ⟨f - 1, by omega⟩
      obtain ⟨e, he, ee⟩ := endX_l (K := fX2_cut_0l32 fu) (c0 := nI c) (l := l) hR 4096 (N - l) l (by omega) (by omega) (Nat.le_refl _) (fun r a b => by omega)
      have e1 := eh_of N l (by omega) he
      have es : cutS V H c N (f + 1) l s st tot hd = if e ≤ l then cutS V H c N f (l + 1) s st tot hd else cutS V H c N f (e + 1) (pcs (cs V c e (e - l)).2 st e (e - l + 1) l s) (st + 1) (tot + (cs V c e (e - l)).1 l) (hd + (e - l)) := by
        rw [← e1]
        exact if_neg q
      have e2 : fX2_cut_0l32 (fu + 1) (nI c) (nI c1) (nI l) τ = fX2_cut_0b71 (fX2_cut_0l32 fu) (nI c) (nI c1) (nI l) (nI e) τ := by
        rw [e0, ← ee]
        unfold fX2_cut_0b32 fX2_cut_0b41
        simp only [bd_e, hR.2.1]
        rw [if_neg (fun z => absurd ((leN (by omega) (by omega)).mp z) (by omega))]
      have hel := he.1
      have heN := he.2.1
      rw [e2, es]
      unfold fX2_cut_0b71
      simp only [leN (a := e) (b := l) (by omega) (by omega)]
      by_cases d : e ≤ l
      · rw [if_pos d, if_pos d]
        unfold fX2_cut_0b139
        simp only [bd_e, n_add1, show e = l by omega]
        exact cut32_l hc fu f (l + 1) s st tot hd τ (by omega) (by omega) (by omega) hR hC (by omega) hs48 h6 h7 h8
      · rw [if_neg d, if_neg d]
        unfold fX2_cut_0b78
        obtain ⟨c1', c2', c3'⟩ := costs_X (V := V) (c := c) (a := l) (b := e) (σ := τ) (by omega) hc (by omega) (hR.rows he)
        have hT : ∀ i, l ≤ i → i < e → 1 ≤ (cs V c e (e - l)).2 i ∧ i + (cs V c e (e - l)).2 i ≤ e := fun i a b => cs_T V c e (e - l) (by omega) i (by omega) b
        generalize hτ1 : fX2_findCosts_0 (nI c) (nI l) (nI e) τ = τ1 at *
        obtain ⟨τ2, y1, y2, y3, y4⟩ := ap3_l (V := V) (T := (cs V c e (e - l)).2) (a := l) (b := e) (t := st) (by omega) hT 4096 (e - l + 1) l s τ1 (Nat.le_refl _) (by omega) (by omega) (by omega) hs (hC.fr c3' rfl) ((hR.rows he).fr c3' rfl) c2' ((c3'.1 6 rfl).trans h6)
        have ea : fX2_addPieces_0 (nI l) (nI e) τ1 = τ2 := by
          rw [← y1]
          rfl
        have f12 : Fr [(3, 8)] [(8, 19)] τ τ2 := (c3'.wide rfl rfl).call y4 rfl rfl
        have a7 : τ2.1 7 = nI tot := by rw [y4.1 7 rfl, c3'.1 7 rfl, h7]
        have a8 : τ2.1 8 = nI hd := by rw [y4.1 8 rfl, c3'.1 8 rfl, h8]
        have a6 : τ2.1 6 = nI st := by rw [y4.1 6 rfl, c3'.1 6 rfl, h6]
        have a18 : τ2.2.2 18 l = nI ((cs V c e (e - l)).1 l) := by
          rw [y4.2 18 rfl]
          exact c1' l (Nat.le_refl _) (by omega)
        have el : nI e - nI l = nI (e - l) := pk_sub (by omega)
        simp only [bd_e, ea, a7, a18, show (nI l).toNatClampNeg = l from nI_clamp (by omega), nI_add]
        generalize h71 : sI τ2 7 (nI (tot + (cs V c e (e - l)).1 l)) = τ3
        have b8 : τ3.1 8 = nI hd := by rw [← h71, sI_ne _ _ rfl]; exact a8
        simp only [b8, el, nI_add]
        generalize h81 : sI τ3 8 (nI (hd + (e - l))) = τ4
        have b6 : τ4.1 6 = nI st := by rw [← h81, sI_ne _ _ rfl, ← h71, sI_ne _ _ rfl]; exact a6
        simp only [b6, n_add1]
        generalize h61 : sI τ4 6 (nI (st + 1)) = τ5
        unfold fX2_cut_0b139
        simp only [bd_e, n_add1]
        have f3 : Fr [(6, 8)] [] τ2 τ3 := by rw [← h71]; exact (Fr.refl _).putI rfl
        have f4 : Fr [(6, 8)] [] τ3 τ4 := by rw [← h81]; exact (Fr.refl _).putI rfl
        have f5 : Fr [(6, 8)] [] τ4 τ5 := by rw [← h61]; exact (Fr.refl _).putI rfl
        have f25 := (f3.call f4 rfl rfl).call f5 rfl rfl
        have d6 : τ5.1 6 = nI (st + 1) := by rw [← h61, sI_eq]
        have d8 : τ5.1 8 = nI (hd + (e - l)) := by rw [← h61, sI_ne _ _ rfl, ← h81, sI_eq]
        have d7 : τ5.1 7 = nI (tot + (cs V c e (e - l)).1 l) := by rw [← h61, sI_ne _ _ rfl, ← h81, sI_ne _ _ rfl, ← h71, sI_eq]
        have fA : Fr [(3, 8)] [(8, 19)] τ τ5 := f12.call f25 rfl rfl
        obtain ⟨τ6, z1, z2, z3, z4, z5, z6, z7⟩ := cut32_l hc fu f (e + 1) (pcs (cs V c e (e - l)).2 st e (e - l + 1) l s) (st + 1) (tot + (cs V c e (e - l)).1 l) (hd + (e - l)) τ5 (by omega) (by omega) (by omega) (hR.fr fA rfl) (y2.fr f25 rfl) (by omega) (by omega) d6 d7 d8
        exact ⟨τ6, z1, z2, z3, z4, z5, z6, fA.call z7 rfl rfl⟩
theorem cut_X {V : Nat → Nat} {H : Nat → Bool} {c c1 N : Nat} {σ : ST} (hc : c ≤ 999) (hR : RWX V H c1 N σ) : CUTX V H c N (fX2_cut_0 (nI c) (nI c1) σ) ∧ Fr [(3, 8)] [(8, 19)] σ (fX2_cut_0 (nI c) (nI c1) σ) := by
  generalize hx : fX2_cut_0 (nI c) (nI c1) σ = x
  unfold fX2_cut_0 fX2_cut_0b0 at hx
  simp only [bd_e] at hx
  generalize h1 : sI (sI (sI (sI σ 5 0) 6 0) 7 0) 8 0 = τ0 at hx
  generalize h2 : sA τ0 17 (fun j => if j < 48 then (-9) else τ0.2.2 17 j) = τ1 at hx
  have f0 : Fr [(3, 8)] [(8, 19)] σ τ0 := by
    rw [← h1]
    exact ((((Fr.refl σ).putI rfl).putI rfl).putI rfl).putI rfl
  have f1 : Fr [] [(17, 17)] τ0 τ1 := by
    rw [← h2]
    exact (Fr.refl _).putA rfl
  have a8 : τ0.1 8 = nI 0 := by rw [← h1, sI_eq, nI_0]
  have a7 : τ0.1 7 = nI 0 := by rw [← h1, sI_ne _ _ rfl, sI_eq, nI_0]
  have a6 : τ0.1 6 = nI 0 := by rw [← h1, sI_ne _ _ rfl, sI_ne _ _ rfl, sI_eq, nI_0]
  have a5 : τ0.1 5 = nI 0 := by rw [← h1, sI_ne _ _ rfl, sI_ne _ _ rfl, sI_ne _ _ rfl, sI_eq, nI_0]
  have f01 := f0.call f1 rfl rfl
  have hN := hR.1
  obtain ⟨τ2, y0, y1, y2, y3, y4, y5, y6⟩ := cut32_l hc 4096 (N + 1) 0 (0, fun _ => (0, 0, 0), fun _ => -9) 0 0 0 τ1 (by omega) (by omega) (by omega) (hR.fr f01 rfl) ⟨(f1.1 5 rfl).trans a5, fun q hq => absurd hq (Nat.not_lt_zero _), fun r hr => by
    rw [← h2, sA_eq]
    exact if_pos hr⟩ (Nat.le_refl _) (by omega) ((f1.1 6 rfl).trans a6) ((f1.1 7 rfl).trans a7) ((f1.1 8 rfl).trans a8)
  have e : x = τ2 := by
    rw [← hx, ← y0, nI_0]
  rw [e]
  exact ⟨⟨y1, y2, y3, y4, y5⟩, f01.call y6 rfl rfl⟩
