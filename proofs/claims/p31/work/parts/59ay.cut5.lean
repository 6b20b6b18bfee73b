/-! the pieces of a stretch: the plan; the class writes it down -/
/-- pieces: how many; first row, length, stretch of each; the piece of each row -/
abbrev PSt : Type := Nat × (Nat → Nat × Nat × Nat) × (Nat → Int32)
def addP (s : PSt) (i l t : Nat) : PSt := (s.1 + 1, fun q => if q = s.1 then (i, l, t) else s.2.1 q, putN s.2.2 (nI s.1) i l)
def pcs (T : Nat → Nat) (t b : Nat) : Nat → Nat → PSt → PSt
  | 0, _, s => s
  | f + 1, i, s => if b ≤ i then s else pcs T t b f (i + T i) (addP s i (T i) t)
/-- the class's arrays hold the pieces s -/
def CP (V : Nat → Nat) (s : PSt) (σ : ST) : Prop := σ.1 5 = nI s.1 ∧ (∀ q, q < s.1 → σ.2.2 12 q = nI (s.2.1 q).1 ∧ σ.2.2 13 q = nI (s.2.1 q).2.1 ∧ σ.2.2 14 q = nI (SP (cvW V (s.2.1 q).1) (s.2.1 q).2.1) ∧ σ.2.2 16 q = nI (s.2.1 q).2.2 ∧ ∀ k, k < 4 → σ.2.2 15 (q * 4 + k) = nI (MI (cvW V (s.2.1 q).1) (s.2.1 q).2.1 k)) ∧ (∀ r, r < 48 → σ.2.2 17 r = s.2.2 r)
theorem CP.fr {V : Nat → Nat} {s : PSt} {I J : List (Nat × Nat)} {σ τ : ST} (h : CP V s σ) (f : Fr I J σ τ) (hh : (!inR I 5 && [12, 13, 14, 15, 16, 17].all (fun k => !inR J k)) = true) : CP V s τ := by
  simp only [List.all_cons, List.all_nil, Bool.and_true, Bool.and_eq_true, Bool.not_eq_true'] at hh
  obtain ⟨h1, h2, h3, h4, h5, h6, h7⟩ := hh
  unfold CP
  rw [f.1 _ h1, f.2 _ h2, f.2 _ h3, f.2 _ h4, f.2 _ h5, f.2 _ h6, f.2 _ h7]
  exact h
theorem wm_l {w : Nat → Nat → Nat} {n l : Nat} (hn : n < 48) (hl : 1 ≤ l) (hl2 : l ≤ 48) : ∀ (fu m k : Nat) (τ : ST), k + m = 4 → m < fu → GTH w l τ → (∀ i, i < k → τ.2.2 15 (n * 4 + i) = nI (MI w l i)) → ∃ τ', fX3_writeMiddle_0l22 fu (nI (n * 4)) (nI k) τ = τ' ∧ (∀ i, i < 4 → τ'.2.2 15 (n * 4 + i) = nI (MI w l i)) ∧ (∀ j, j < n * 4 → τ'.2.2 15 j = τ.2.2 15 j) ∧ Fr [] [(15, 15)] τ τ'
  | 0, _, _, _, _, h, _, _ => absurd h (Nat.not_lt_zero _)
  | fu + 1, 0, k, τ, hk, _, hG, hM => by
    have k4 : k = 4 := by omega
    subst k4
    refine ⟨τ, ?_, hM, fun _ _ => rfl, Fr.refl τ⟩
    show fX3_writeMiddle_0b22 (fX3_writeMiddle_0l22 fu) (nI (n * 4)) (nI 4) τ = _
    unfold fX3_writeMiddle_0b22
    rw [if_pos (show 4 ≤ nI 4 by decide)]
    rfl
  | fu + 1, m + 1, k, τ, hk, hf, hG, hM => by
    have e0 : fX3_writeMiddle_0l22 (fu + 1) (nI (n * 4)) (nI k) τ = fX3_writeMiddle_0b22 (fX3_writeMiddle_0l22 fu) (nI (n * 4)) (nI k) τ := rfl
    have d1 : (nI l - 1) / 2 = nI ((l - 1) / 2) := by
      rw [show nI l - 1 = nI (l - 1) from pk_sub (b := 1) (by omega)]
      exact pk_div (d := 2) (by omega) (by omega) (by omega)
    have em : MI w l k = srt (w k) l ((l - 1) / 2) := if_neg (by omega)
    rw [e0]
    unfold fX3_writeMiddle_0b22 fX3_writeMiddle_0b27
    rw [if_neg (show ¬ 4 ≤ nI k from fun q => absurd ((leN (a := 4) (by omega) (by omega)).mp q) (by omega))]
    simp only [bd_e, nI_add, hG.1, d1, n_add1, show (nI k).toNatClampNeg = k from nI_clamp (by omega), show (nI (n * 4 + k)).toNatClampNeg = n * 4 + k from nI_clamp (by omega), show (nI ((l - 1) / 2)).toNatClampNeg = (l - 1) / 2 from nI_clamp (by omega), hG.2.2 k (by omega) ((l - 1) / 2) (by omega), ← em]
    have f1 : Fr [] [(15, 15)] τ (sA τ 15 (upd (τ.2.2 15) (n * 4 + k) (nI (MI w l k)))) := (Fr.refl τ).putA rfl
    obtain ⟨τ2, z1, z2, z3, z4⟩ := wm_l hn hl hl2 fu m (k + 1) (sA τ 15 (upd (τ.2.2 15) (n * 4 + k) (nI (MI w l k)))) (by omega) (by omega) ⟨hG.1, hG.2.1, fun i hi j hj => by
      have q : inR [(15, 15)] (8 + i) = false := by
        rcases (show i = 0 ∨ i = 1 ∨ i = 2 ∨ i = 3 by omega) with rfl | rfl | rfl | rfl <;> rfl
      rw [f1.2 _ q]
      exact hG.2.2 i hi j hj⟩ (fun i hi => by
      rw [sA_eq]
      rcases Nat.eq_or_lt_of_le (Nat.le_of_lt_succ hi) with c | c
      · rw [c, pk_us]
      · rw [pk_un (by omega)]
        exact hM i c)
    exact ⟨τ2, z1, z2, fun j hj => by rw [z3 j hj, sA_eq, pk_un (by omega)], f1.call z4 rfl rfl⟩
theorem wm_X {w : Nat → Nat → Nat} {n l : Nat} {σ : ST} (hn : n < 48) (hl : 1 ≤ l) (hl2 : l ≤ 48) (hG : GTH w l σ) : (∀ i, i < 4 → (fX3_writeMiddle_0 (nI (n * 4)) σ).2.2 15 (n * 4 + i) = nI (MI w l i)) ∧ (∀ j, j < n * 4 → (fX3_writeMiddle_0 (nI (n * 4)) σ).2.2 15 j = σ.2.2 15 j) ∧ Fr [] [(15, 15)] σ (fX3_writeMiddle_0 (nI (n * 4)) σ) := by
  obtain ⟨τ, y1, y2, y3, y4⟩ := wm_l hn hl hl2 4096 4 0 σ rfl (by omega) hG (fun i hi => absurd hi (Nat.not_lt_zero _))
  have e : fX3_writeMiddle_0 (nI (n * 4)) σ = τ := by
    rw [← y1, nI_0]
    unfold fX3_writeMiddle_0 fX3_writeMiddle_0b0 fX3_writeMiddle_0b7 fX3_writeMiddle_0b11 fX3_writeMiddle_0b20
    simp only [bd_e, hG.1]
    rw [if_neg (show ¬ nI l = 0 from fun q => absurd ((nI_eq (b := 0) (by omega) (by omega)).mp (q.trans nI_0.symm)) (by omega)), if_neg (nI_pos (by omega)), if_pos (show nI (n * 4) ≤ 192 - 4 from (leN (b := 188) (by omega) (by omega)).mpr (by omega))]
  rw [e]
  exact ⟨y2, y3, y4⟩
theorem ap48_l {K3 : Int32 → Int32 → ST → ST} {V : Nat → Nat} {a b i l n : Nat} (hb : b ≤ 48) (hl : i + l ≤ b) : ∀ (fu m j : Nat) (τ : ST), j + m = l → m < fu → GTH (cvW V i) j τ → ROWS 3 i b V τ → τ.1 5 = nI n → ∃ τ', fX2_addPieces_0l48 K3 fu (nI a) (nI i) (nI (i + l)) (nI (i + j)) τ = fX2_addPieces_0b79 K3 (nI a) (nI i) (nI (i + l)) τ' ∧ GTH (cvW V i) l τ' ∧ τ'.2.2 17 = putN (τ.2.2 17) (nI n) (i + j) m ∧ Fr [(3, 4)] [(8, 11), (17, 17)] τ τ'
  | 0, _, _, _, _, h, _, _, _ => absurd h (Nat.not_lt_zero _)
  | fu + 1, 0, j, τ, hm, _, hG, hR, h5 => by
    have e0 : fX2_addPieces_0l48 K3 (fu + 1) (nI a) (nI i) (nI (i + l)) (nI (i + j)) τ = fX2_addPieces_0b48 K3 (fX2_addPieces_0l48 K3 fu) (nI a) (nI i) (nI (i + l)) (nI (i + j)) τ := rfl
    have ej : j = l := by omega
    subst ej
    refine ⟨τ, ?_, hG, (putN_0 _ _ _).symm, Fr.refl τ⟩
    rw [e0]
    unfold fX2_addPieces_0b48
    rw [if_pos ((leN (by omega) (by omega)).mpr (Nat.le_refl _))]
  | fu + 1, m + 1, j, τ, hm, hf, hG, hR, h5 => by
    have e0 : fX2_addPieces_0l48 K3 (fu + 1) (nI a) (nI i) (nI (i + l)) (nI (i + j)) τ = fX2_addPieces_0b48 K3 (fX2_addPieces_0l48 K3 fu) (nI a) (nI i) (nI (i + l)) (nI (i + j)) τ := rfl
    obtain ⟨g1, f1⟩ := take_X (w := cvW V i) (n := j) (r := i + j) (σ := τ) (by omega) (by omega) (hR.cvW (by omega)) hG (fun k hk => (hR (i + j) (by omega) (by omega) k hk).1)
    rw [e0]
    unfold fX2_addPieces_0b48 fX2_addPieces_0b55
    rw [if_neg (fun q => absurd ((leN (by omega) (by omega)).mp q) (by omega))]
    simp only [bd_e, n_add1, f1.1 5 rfl, h5, show (nI (i + j)).toNatClampNeg = i + j from nI_clamp (by omega)]
    generalize ht : sA (fX3_take_0 (nI (i + j)) τ) 17 (upd ((fX3_take_0 (nI (i + j)) τ).2.2 17) (i + j) (nI n)) = τ1
    have a17 : τ1.2.2 17 = upd (τ.2.2 17) (i + j) (nI n) := by rw [← ht, sA_eq, f1.2 17 rfl]
    have f2 : Fr [] [(17, 17)] (fX3_take_0 (nI (i + j)) τ) τ1 := by
      rw [← ht]
      exact (Fr.refl _).putA rfl
    have f3 : Fr [(3, 4)] [(8, 11), (17, 17)] τ τ1 := (f1.wide rfl rfl).call f2 rfl rfl
    obtain ⟨τ2, z1, z2, z3, z4⟩ := ap48_l hb hl fu m (j + 1) τ1 (K3 := K3) (a := a) (V := V) (n := n) (by omega) (by omega) ⟨(f2.1 3 rfl).trans g1.1, (f2.1 4 rfl).trans g1.2.1, fun k hk x hx => by
      have q : inR [(17, 17)] (8 + k) = false := by
        rcases (show k = 0 ∨ k = 1 ∨ k = 2 ∨ k = 3 by omega) with rfl | rfl | rfl | rfl <;> rfl
      rw [f2.2 _ q]
      exact g1.2.2 k hk x hx⟩ (hR.fr f3 rfl) ((f3.1 5 rfl).trans h5)
    exact ⟨τ2, z1, z2, by rw [z3, a17, show i + (j + 1) = i + j + 1 by omega, putN_step], f3.call z4 rfl rfl⟩
theorem ap3_l {V T : Nat → Nat} {a b t : Nat} (hb : b ≤ 48) (hT : ∀ i, a ≤ i → i < b → 1 ≤ T i ∧ i + T i ≤ b) : ∀ (fu g i : Nat) (s : PSt) (τ : ST), a ≤ i → i ≤ b → b - i < g → b - i < fu → s.1 ≤ i → CP V s τ → ROWS 3 a b V τ → (∀ x, a ≤ x → x < b → τ.2.2 19 x = nI (T x)) → τ.1 6 = nI t → ∃ τ', fX2_addPieces_0l3 fu (nI b) (nI i) τ = τ' ∧ CP V (pcs T t b g i s) τ' ∧ (pcs T t b g i s).1 ≤ b ∧ Fr [(3, 5)] [(8, 17)] τ τ'
  | 0, _, _, _, _, _, _, _, h, _, _, _, _, _ => absurd h (Nat.not_lt_zero _)
  | _ + 1, 0, _, _, _, _, _, h, _, _, _, _, _, _ => absurd h (Nat.not_lt_zero _)
  | fu + 1, g + 1, i, s, τ, h1, h2, hg, hf, hs, hC, hR, h19, h6 => by
    have e0 : fX2_addPieces_0l3 (fu + 1) (nI b) (nI i) τ = fX2_addPieces_0b3 (fX2_addPieces_0l3 fu) (nI b) (nI i) τ := rfl
    have ep : pcs T t b (g + 1) i s = if b ≤ i then s else pcs T t b g (i + T i) (addP s i (T i) t) := rfl
    rw [e0, ep]
    unfold fX2_addPieces_0b3
    simp only [leN (a := b) (b := i) (by omega) (by omega)]
    by_cases q : b ≤ i
    · rw [if_pos q, if_pos q]
      exact ⟨τ, rfl, hC, by omega, Fr.refl τ⟩
    · rw [if_neg q, if_neg q]
      obtain ⟨t1, t2⟩ := hT i h1 (by omega)
      unfold fX2_addPieces_0b10 fX2_addPieces_0b19
      simp only [bd_e, hC.1, show (nI i).toNatClampNeg = i from nI_clamp (by omega), h19 i h1 (by omega)]
      rw [if_neg (show ¬ 48 ≤ nI s.1 from fun z => absurd ((leN (a := 48) (by omega) (by omega)).mp z) (by omega))]
      have ev : (if (1 : Int32) < nI (T i) then nI (T i) else 1) = nI (T i) := by
        by_cases z : T i = 1
        · rw [z]
          decide
        · rw [if_pos (show (1 : Int32) < nI (T i) from (nI_ltI (a := 1) (by omega) (by omega)).mpr (by omega))]
      have ev2 : (if nI (i + T i) < nI b then nI (i + T i) else nI b) = nI (i + T i) := by
        by_cases z : i + T i = b
        · rw [z, if_neg (fun y => absurd (y_lt (by omega) (by omega) y) (by omega))]
        · rw [if_pos ((nI_ltI (by omega) (by omega)).mpr (by omega))]
      simp only [ev, nI_add, ev2]
      obtain ⟨g0, f0⟩ := empty_X (cvW V i) τ
      have f0' : Fr [(3, 4)] [(8, 11), (17, 17)] τ (fX3_empty_0 τ) := f0.wide rfl rfl
      obtain ⟨τ1, y1, y2, y3, y4⟩ := ap48_l hb t2 4096 (T i) 0 (fX3_empty_0 τ) (K3 := fX2_addPieces_0l3 fu) (V := V) (a := b) (n := s.1) (by omega) (by omega) g0 ((hR.sub h1 (Nat.le_refl _)).fr f0 rfl) ((f0.1 5 rfl).trans hC.1)
      rw [Nat.add_zero] at y1 y3
      rw [y1]
      have f1 := f0'.call y4 rfl rfl
      have C1 : τ1.1 5 = nI s.1 := (f1.1 5 rfl).trans hC.1
      unfold fX2_addPieces_0b79
      simp only [bd_e, sA_1, C1, y2.2.1, f1.1 6 rfl, h6, n_mul4, show (nI s.1).toNatClampNeg = s.1 from nI_clamp (by omega), show nI (i + T i) - nI i = nI (T i) by rw [pk_sub (by omega), show i + T i - i = T i by omega]]
      generalize h12 : sA τ1 12 (upd (τ1.2.2 12) s.1 (nI i)) = τ2
      generalize h13 : sA τ2 13 (upd (τ2.2.2 13) s.1 (nI (T i))) = τ3
      generalize h14 : sA τ3 14 (upd (τ3.2.2 14) s.1 (nI (SP (cvW V i) (T i)))) = τ4
      generalize h16 : sA τ4 16 (upd (τ4.2.2 16) s.1 (nI t)) = τ5
      have r2 : Fr [] [(12, 12)] τ1 τ2 := by rw [← h12]; exact (Fr.refl _).putA rfl
      have r3 : Fr [] [(13, 13)] τ2 τ3 := by rw [← h13]; exact (Fr.refl _).putA rfl
      have r4 : Fr [] [(14, 14)] τ3 τ4 := by rw [← h14]; exact (Fr.refl _).putA rfl
      have r5 : Fr [] [(16, 16)] τ4 τ5 := by rw [← h16]; exact (Fr.refl _).putA rfl
      have ra : Fr [] [(12, 14), (16, 16)] τ1 τ5 := (((r2.wide rfl rfl).call r3 rfl rfl).call r4 rfl rfl).call r5 rfl rfl
      have G5 : GTH (cvW V i) (T i) τ5 := ⟨(ra.1 3 rfl).trans y2.1, (ra.1 4 rfl).trans y2.2.1, fun k hk x hx => by
        have z : inR [(12, 14), (16, 16)] (8 + k) = false := by
          rcases (show k = 0 ∨ k = 1 ∨ k = 2 ∨ k = 3 by omega) with rfl | rfl | rfl | rfl <;> rfl
        rw [ra.2 _ z]
        exact y2.2.2 k hk x hx⟩
      obtain ⟨w1, w2, w3⟩ := wm_X (n := s.1) (show s.1 < 48 by omega) t1 (by omega) G5
      simp only [w3.1 5 rfl, ra.1 5 rfl, C1, n_add1]
      generalize hs5 : fX3_writeMiddle_0 (nI (s.1 * 4)) τ5 = τ6 at *
      generalize hs6 : sI τ6 5 (nI (s.1 + 1)) = τ7
      have f7 : Fr [(5, 5)] [] τ6 τ7 := by rw [← hs6]; exact (Fr.refl _).putI rfl
      have fA : Fr [(3, 5)] [(8, 17)] τ τ7 := (((f1.wide rfl rfl).call ra rfl rfl).call w3 rfl rfl).call f7 rfl rfl
      have b12 : τ7.2.2 12 = upd (τ.2.2 12) s.1 (nI i) := by
        rw [f7.2 12 rfl, w3.2 12 rfl, r5.2 12 rfl, r4.2 12 rfl, r3.2 12 rfl, ← h12, sA_eq, f1.2 12 rfl]
      have b13 : τ7.2.2 13 = upd (τ.2.2 13) s.1 (nI (T i)) := by
        rw [f7.2 13 rfl, w3.2 13 rfl, r5.2 13 rfl, r4.2 13 rfl, ← h13, sA_eq, r2.2 13 rfl, f1.2 13 rfl]
      have b14 : τ7.2.2 14 = upd (τ.2.2 14) s.1 (nI (SP (cvW V i) (T i))) := by
        rw [f7.2 14 rfl, w3.2 14 rfl, r5.2 14 rfl, ← h14, sA_eq, r3.2 14 rfl, r2.2 14 rfl, f1.2 14 rfl]
      have b16 : τ7.2.2 16 = upd (τ.2.2 16) s.1 (nI t) := by
        rw [f7.2 16 rfl, w3.2 16 rfl, ← h16, sA_eq, r4.2 16 rfl, r3.2 16 rfl, r2.2 16 rfl, f1.2 16 rfl]
      have b17 : τ7.2.2 17 = putN (τ.2.2 17) (nI s.1) i (T i) := by
        rw [f7.2 17 rfl, w3.2 17 rfl, ra.2 17 rfl, y3, f0.2 17 rfl]
      have b15 : ∀ j, j < s.1 * 4 → τ7.2.2 15 j = τ.2.2 15 j := fun j hj => by
        rw [f7.2 15 rfl, w2 j hj, ra.2 15 rfl, f1.2 15 rfl]
      have C7 : CP V (addP s i (T i) t) τ7 := by
        refine ⟨by rw [← hs6, sI_eq]; rfl, fun x hx => ?_, fun r hr => ?_⟩
        · have hx' : x < s.1 + 1 := hx
          show τ7.2.2 12 x = nI (if x = s.1 then (i, T i, t) else s.2.1 x).1 ∧ τ7.2.2 13 x = nI (if x = s.1 then (i, T i, t) else s.2.1 x).2.1 ∧ τ7.2.2 14 x = nI (SP (cvW V (if x = s.1 then (i, T i, t) else s.2.1 x).1) (if x = s.1 then (i, T i, t) else s.2.1 x).2.1) ∧ τ7.2.2 16 x = nI (if x = s.1 then (i, T i, t) else s.2.1 x).2.2 ∧ ∀ k, k < 4 → τ7.2.2 15 (x * 4 + k) = nI (MI (cvW V (if x = s.1 then (i, T i, t) else s.2.1 x).1) (if x = s.1 then (i, T i, t) else s.2.1 x).2.1 k)
          rw [b12, b13, b14, b16]
          by_cases z : x = s.1
          · subst z
            rw [if_pos rfl, pk_us, pk_us, pk_us, pk_us]
            refine ⟨rfl, rfl, rfl, rfl, fun k hk => ?_⟩
            rw [f7.2 15 rfl]
            exact w1 k hk
          · rw [if_neg z, pk_un z, pk_un z, pk_un z, pk_un z]
            obtain ⟨c1, c2, c3, c4, c5⟩ := hC.2.1 x (by omega)
            exact ⟨c1, c2, c3, c4, fun k hk => by rw [b15 _ (by omega)]; exact c5 k hk⟩
        · rw [b17]
          show putN (τ.2.2 17) (nI s.1) i (T i) r = putN s.2.2 (nI s.1) i (T i) r
          unfold putN
          rw [hC.2.2 r hr]
      obtain ⟨τ8, z1, z2, z3, z4⟩ := ap3_l hb hT fu g (i + T i) (addP s i (T i) t) τ7 (by omega) t2 (by omega) (by omega) (show s.1 + 1 ≤ i + T i by omega) C7 (hR.fr fA rfl) (fun x p1 p2 => by rw [fA.2 19 rfl]; exact h19 x p1 p2) ((fA.1 6 rfl).trans h6)
      exact ⟨τ8, z1, z2, z3, fA.call z4 rfl rfl⟩
