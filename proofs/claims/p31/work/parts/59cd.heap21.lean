/-! the class's second way: the pick, one joining -/
/-- the class's matrix of links between heaps; who is where -/
def JST (L : Nat → Nat → Int32) (n : Nat) (g : Nat → Nat) (σ : ST) : Prop := σ.1 9 = nI n ∧ (∀ p, p < n → σ.2.2 46 p = nI (g p)) ∧ ∀ a b, a < n → b < n → a ≠ b → g a = a → g b = b → σ.2.2 (31 + a) b = SL L n g a b
def pc1 (P : PK) : Int32 := if P.1 = true then nI P.2.1 else -1
def pc2 (P : PK) : Int32 := if P.1 = true then nI P.2.2.1 else -1
theorem jt25_l {K : Int32 → Int32 → Int32 → Int32 → ST → Int32 × ST} {L : Nat → Nat → Int32} {n a : Nat} {g : Nat → Nat} {τ : ST} (hn : n ≤ 9) (ha : a < n) (hS : LST1 n g) (hJ : JST L n g τ) : ∀ (fu d b : Nat) (P : PK), b + d = n → d < fu → a < b → fX1_joinTwo_0l25 K fu (pc1 P) (pc2 P) P.2.2.2 (nI a) (nI b) τ = K (pc1 (fg (fun b P => pks (SL L n g) g a b P) d b P)) (pc2 (fg (fun b P => pks (SL L n g) g a b P) d b P)) (fg (fun b P => pks (SL L n g) g a b P) d b P).2.2.2 (nI (a + 1)) τ := by
  intro fu
  induction fu with
  | zero =>
    intro d b P _ h
    exact absurd h (Nat.not_lt_zero _)
  | succ fu ih =>
    intro d b P hd hf hab
    cases d with
    | zero =>
      have eb : b = n := by omega
      subst eb
      show fX1_joinTwo_0b25 K (fX1_joinTwo_0l25 K fu) (pc1 P) (pc2 P) P.2.2.2 (nI a) (nI b) τ = _
      unfold fX1_joinTwo_0b25 fX1_joinTwo_0b97
      simp only [bd_e, hJ.1, n_add1]
      rw [if_pos ((leN (by omega) (by omega)).mpr (Nat.le_refl _))]
      rfl
    | succ d =>
      have na : (nI a).toNatClampNeg = a := nI_clamp (by omega)
      have nb : (nI b).toNatClampNeg = b := nI_clamp (by omega)
      have ga := (hS a ha).1
      have gb := (hS b (by omega)).1
      have k := ih d (b + 1) (pks (SL L n g) g a b P) (by omega) (by omega) (by omega)
      show fX1_joinTwo_0b25 K (fX1_joinTwo_0l25 K fu) (pc1 P) (pc2 P) P.2.2.2 (nI a) (nI b) τ = K (pc1 (fg (fun b P => pks (SL L n g) g a b P) d (b + 1) (pks (SL L n g) g a b P))) (pc2 (fg (fun b P => pks (SL L n g) g a b P) d (b + 1) (pks (SL L n g) g a b P))) (fg (fun b P => pks (SL L n g) g a b P) d (b + 1) (pks (SL L n g) g a b P)).2.2.2 (nI (a + 1)) τ
      rw [← k]
      unfold fX1_joinTwo_0b25 fX1_joinTwo_0b34 fX1_joinTwo_0b46 fX1_joinTwo_0b58 fX1_joinTwo_0b73 fX1_joinTwo_0b91
      simp only [bd_e, hJ.1, n_add1, na, nb, hJ.2.1 a ha, hJ.2.1 b (by omega), nI_eq (a := g a) (b := a) (by omega) (by omega), nI_eq (a := g b) (b := b) (by omega) (by omega)]
      rw [if_neg (fun q => absurd ((leN (by omega) (by omega)).mp q) (by omega))]
      unfold pks
      by_cases d1 : g a = a
      · by_cases d2 : g b = b
        · rw [if_pos d1, if_pos d2, hJ.2.2 a b ha (by omega) (by omega) d1 d2]
          by_cases d3 : P.2.2.2 < SL L n g a b
          · have nle : ¬ SL L n g a b ≤ P.2.2.2 := by
              rw [Int32.lt_iff_toInt_lt] at d3
              rw [Int32.le_iff_toInt_le]
              omega
            rw [if_neg nle, if_pos ⟨d1, d2, d3⟩]
            rfl
          · have le : SL L n g a b ≤ P.2.2.2 := by
              rw [Int32.lt_iff_toInt_lt] at d3
              rw [Int32.le_iff_toInt_le]
              omega
            rw [if_pos le, if_neg (fun w => d3 w.2.2)]
        · rw [if_pos d1, if_neg d2, if_neg (fun w => d2 w.2.1)]
      · rw [if_neg d1, if_neg (fun w => d1 w.1)]
theorem jt10_l {L : Nat → Nat → Int32} {n : Nat} {g : Nat → Nat} {τ : ST} (hn : n ≤ 9) (hS : LST1 n g) (hJ : JST L n g τ) : ∀ (fu d a : Nat) (P : PK), a + d = n → d < fu → fX1_joinTwo_0l10 fu (pc1 P) (pc2 P) P.2.2.2 (nI a) τ = fX1_joinTwo_0b103 (pc1 (fg (fun a P => fg (fun b P => pks (SL L n g) g a b P) (n - (a + 1)) (a + 1) P) d a P)) (pc2 (fg (fun a P => fg (fun b P => pks (SL L n g) g a b P) (n - (a + 1)) (a + 1) P) d a P)) τ := by
  intro fu
  induction fu with
  | zero =>
    intro d a P _ h
    exact absurd h (Nat.not_lt_zero _)
  | succ fu ih =>
    intro d a P hd hf
    cases d with
    | zero =>
      have ea : a = n := by omega
      subst ea
      show fX1_joinTwo_0b10 (fX1_joinTwo_0l10 fu) (pc1 P) (pc2 P) P.2.2.2 (nI a) τ = _
      unfold fX1_joinTwo_0b10
      simp only [bd_e, hJ.1]
      rw [if_pos ((leN (by omega) (by omega)).mpr (Nat.le_refl _))]
      rfl
    | succ d =>
      have k := jt25_l (K := fX1_joinTwo_0l10 fu) hn (show a < n by omega) hS hJ 4096 (n - (a + 1)) (a + 1) P (by omega) (by omega) (by omega)
      have k2 := ih d (a + 1) (fg (fun b P => pks (SL L n g) g a b P) (n - (a + 1)) (a + 1) P) (by omega) (by omega)
      rw [k2] at k
      show fX1_joinTwo_0b10 (fX1_joinTwo_0l10 fu) (pc1 P) (pc2 P) P.2.2.2 (nI a) τ = _
      unfold fX1_joinTwo_0b10 fX1_joinTwo_0b19
      simp only [bd_e, hJ.1, n_add1]
      rw [if_neg (fun q => absurd ((leN (by omega) (by omega)).mp q) (by omega))]
      exact k
/-- midway in a joining: x takes y's links, below p -/
def JMD (n x y p : Nat) (σ τ : ST) : Prop := ∀ a b, a < n → b < n → ¬ (a = x ∧ b = x) → τ.2.2 (31 + a) b = if a = x then (if b < p then σ.2.2 (31 + x) b + σ.2.2 (31 + y) b else σ.2.2 (31 + x) b) else if b = x then (if a < p then σ.2.2 (31 + x) a + σ.2.2 (31 + y) a else σ.2.2 (31 + a) x) else σ.2.2 (31 + a) b
theorem q31 {a : Nat} (h : a < 9) : inR [(31, 39), (46, 46)] (31 + a) = true := by
  rcases (show a = 0 ∨ a = 1 ∨ a = 2 ∨ a = 3 ∨ a = 4 ∨ a = 5 ∨ a = 6 ∨ a = 7 ∨ a = 8 by omega) with rfl | rfl | rfl | rfl | rfl | rfl | rfl | rfl | rfl <;> rfl
theorem jt116_l {n x y : Nat} {g : Nat → Nat} {σ : ST} (hn : n ≤ 9) (hx : x < n) (hy : y < n) (hxy : x ≠ y) (hg : ∀ p, p < n → g p < n) : ∀ (fu d p : Nat) (τ : ST), p + d = n → d < fu → τ.1 9 = nI n → JMD n x y p σ τ → (∀ j, j < n → τ.2.2 46 j = nI (if j < p then jn g x y j else g j)) → ∃ τ', fX1_joinTwo_0l116 fu (nI x) (nI y) (nI p) τ = (1, τ') ∧ JMD n x y n σ τ' ∧ (∀ j, j < n → τ'.2.2 46 j = nI (jn g x y j)) ∧ Fr [] [(31, 39), (46, 46)] τ τ' := by
  intro fu
  induction fu with
  | zero =>
    intro d p τ _ h
    exact absurd h (Nat.not_lt_zero _)
  | succ fu ih =>
    intro d p τ hd hf h9 hM h46
    have e0 : fX1_joinTwo_0l116 (fu + 1) (nI x) (nI y) (nI p) τ = fX1_joinTwo_0b116 (fX1_joinTwo_0l116 fu) (nI x) (nI y) (nI p) τ := rfl
    cases d with
    | zero =>
      have ep : p = n := by omega
      subst ep
      refine ⟨τ, ?_, hM, fun j hj => by rw [h46 j hj, if_pos hj], Fr.refl τ⟩
      rw [e0]
      unfold fX1_joinTwo_0b116 fX1_joinTwo_0b189
      simp only [bd_e, h9]
      rw [if_pos ((leN (by omega) (by omega)).mpr (Nat.le_refl _))]
    | succ d =>
      have hp : p < n := by omega
      have nx : (nI x).toNatClampNeg = x := nI_clamp (by omega)
      have ny : (nI y).toNatClampNeg = y := nI_clamp (by omega)
      have np : (nI p).toNatClampNeg = p := nI_clamp (by omega)
      generalize g1 : sA τ (31 + x) (upd (τ.2.2 (31 + x)) p (τ.2.2 (31 + x) p + τ.2.2 (31 + y) p)) = τ1
      generalize g2 : sA τ1 (31 + p) (upd (τ1.2.2 (31 + p)) x (τ1.2.2 (31 + x) p)) = τ2
      have a1 : ∀ a b, τ1.2.2 (31 + a) b = if a = x ∧ b = p then τ.2.2 (31 + x) p + τ.2.2 (31 + y) p else τ.2.2 (31 + a) b := fun a b => by
        rw [← g1]
        by_cases c : a = x
        · subst c
          rw [sA_eq]
          by_cases e : b = p
          · rw [if_pos ⟨rfl, e⟩, e, pk_us]
          · rw [if_neg (fun w => e w.2), pk_un e]
        · rw [sA_ne _ _ (beq_f (by omega)), if_neg (fun w => c w.1)]
      have a2 : ∀ a b, τ2.2.2 (31 + a) b = if a = p ∧ b = x then τ1.2.2 (31 + x) p else τ1.2.2 (31 + a) b := fun a b => by
        rw [← g2]
        by_cases c : a = p
        · subst c
          rw [sA_eq]
          by_cases e : b = x
          · rw [if_pos ⟨rfl, e⟩, e, pk_us]
          · rw [if_neg (fun w => e w.2), pk_un e]
        · rw [sA_ne _ _ (beq_f (by omega)), if_neg (fun w => c w.1)]
      have f2 : Fr [] [(31, 39), (46, 46)] τ τ2 := by
        rw [← g2, ← g1]
        exact ((Fr.refl τ).putA (q31 (by omega))).putA (q31 (by omega))
      have b46 : τ2.2.2 46 = τ.2.2 46 := by rw [← g2, sA_ne _ _ (beq_f (by omega)), ← g1, sA_ne _ _ (beq_f (by omega))]
      have e46 : τ.2.2 46 p = nI (g p) := by rw [h46 p hp, if_neg (Nat.lt_irrefl _)]
      have hM2 : JMD n x y (p + 1) σ τ2 := fun a b ha hb hab => by
        rw [a2, a1, a1]
        by_cases px : p = x
        · subst px
          have n1 : ¬ (a = p ∧ b = p) := hab
          rw [if_neg n1, if_neg n1, hM a b ha hb hab]
          by_cases ca : a = p
          · have cb : ¬ b = p := fun w => hab ⟨ca, w⟩
            rw [if_pos ca, if_pos ca]
            by_cases lb : b < p
            · rw [if_pos lb, if_pos (show b < p + 1 by omega)]
            · rw [if_neg lb, if_neg (show ¬ b < p + 1 by omega)]
          · rw [if_neg ca, if_neg ca]
            by_cases cb : b = p
            · rw [if_pos cb, if_pos cb]
              by_cases la : a < p
              · rw [if_pos la, if_pos (show a < p + 1 by omega)]
              · rw [if_neg la, if_neg (show ¬ a < p + 1 by omega)]
            · rw [if_neg cb, if_neg cb]
        · have r1 : τ.2.2 (31 + x) p = σ.2.2 (31 + x) p := by rw [hM x p hx hp (fun w => px w.2), if_pos rfl, if_neg (Nat.lt_irrefl _)]
          have r2 : τ.2.2 (31 + y) p = σ.2.2 (31 + y) p := by rw [hM y p hy hp (fun w => px w.2), if_neg (fun w => hxy w.symm), if_neg px]
          rw [if_pos (show x = x ∧ p = p from ⟨rfl, rfl⟩), r1, r2]
          by_cases ca : a = x
          · have cb : ¬ b = x := fun w => hab ⟨ca, w⟩
            rw [if_neg (fun w => cb w.2), if_pos ca]
            by_cases eb : b = p
            · rw [if_pos ⟨ca, eb⟩, if_pos (show b < p + 1 by omega), eb]
            · rw [if_neg (fun w => eb w.2), hM a b ha hb hab, if_pos ca]
              by_cases lb : b < p
              · rw [if_pos lb, if_pos (show b < p + 1 by omega)]
              · rw [if_neg lb, if_neg (show ¬ b < p + 1 by omega)]
          · rw [if_neg ca]
            by_cases cb : b = x
            · rw [if_pos cb]
              by_cases ea : a = p
              · rw [if_pos ⟨ea, cb⟩, if_pos (show a < p + 1 by omega), ea]
              · rw [if_neg (fun w => ea w.1), if_neg (fun w => ca w.1), hM a b ha hb hab, if_neg ca, if_pos cb]
                by_cases la : a < p
                · rw [if_pos la, if_pos (show a < p + 1 by omega)]
                · rw [if_neg la, if_neg (show ¬ a < p + 1 by omega)]
            · rw [if_neg cb, if_neg (fun w => cb w.2), if_neg (fun w => ca w.1), hM a b ha hb hab, if_neg ca, if_neg cb]
      have gp := hg p hp
      have eJ : jn g x y p = if g p = y then x else g p := rfl
      have eA : fX1_joinTwo_0l116 (fu + 1) (nI x) (nI y) (nI p) τ = if nI (g p) = nI y then fX1_joinTwo_0l116 fu (nI x) (nI y) (nI (p + 1)) (sA τ2 46 (upd (τ2.2.2 46) p (nI x))) else fX1_joinTwo_0l116 fu (nI x) (nI y) (nI (p + 1)) τ2 := by
        rw [e0]
        unfold fX1_joinTwo_0b116 fX1_joinTwo_0b125 fX1_joinTwo_0b175 fX1_joinTwo_0b183
        simp only [bd_e, h9, nx, ny, np, n_add1, g1, g2, b46, e46]
        rw [if_neg (fun q => absurd ((leN (by omega) (by omega)).mp q) (by omega))]
      by_cases d1 : g p = y
      · have f3 : Fr [] [(31, 39), (46, 46)] τ (sA τ2 46 (upd (τ2.2.2 46) p (nI x))) := f2.putA rfl
        obtain ⟨τ3, z1, z2, z3, z4⟩ := ih d (p + 1) (sA τ2 46 (upd (τ2.2.2 46) p (nI x))) (by omega) (by omega) ((f3.1 9 rfl).trans h9) (fun a b ha hb hab => by
          rw [sA_ne _ _ (beq_f (by omega))]
          exact hM2 a b ha hb hab) (fun j hj => by
          rw [sA_eq]
          by_cases c : j = p
          · rw [c, pk_us, if_pos (by omega), eJ, if_pos d1]
          · rw [pk_un c, b46, h46 j hj]
            by_cases e : j < p
            · rw [if_pos e, if_pos (by omega)]
            · rw [if_neg e, if_neg (by omega)])
        refine ⟨τ3, ?_, z2, z3, f3.call z4 rfl rfl⟩
        rw [eA, if_pos (by rw [d1]), z1]
      · obtain ⟨τ3, z1, z2, z3, z4⟩ := ih d (p + 1) τ2 (by omega) (by omega) ((f2.1 9 rfl).trans h9) hM2 (fun j hj => by
          rw [b46, h46 j hj]
          by_cases c : j = p
          · rw [c, if_neg (Nat.lt_irrefl _), if_pos (by omega), eJ, if_neg d1]
          · by_cases e : j < p
            · rw [if_pos e, if_pos (by omega)]
            · rw [if_neg e, if_neg (by omega)])
        refine ⟨τ3, ?_, z2, z3, f2.call z4 rfl rfl⟩
        rw [eA, if_neg (fun w => d1 ((nI_eq (by omega) (by omega)).mp w)), z1]
theorem joinTwo_X {L : Nat → Nat → Int32} {n : Nat} {g : Nat → Nat} {τ : ST} (hn : n ≤ 9) (hs : ∀ x y, x < n → y < n → L x y = L y x) (hS : LST1 n g) (hJ : JST L n g τ) : ((PICK (SL L n g) n g).1 = true → ∃ τ', fX1_joinTwo_0 τ = (1, τ') ∧ JST L n (jn g (PICK (SL L n g) n g).2.1 (PICK (SL L n g) n g).2.2.1) τ' ∧ Fr [] [(31, 39), (46, 46)] τ τ') ∧ (¬ (PICK (SL L n g) n g).1 = true → fX1_joinTwo_0 τ = (0, τ)) := by
  have k := jt10_l hn hS hJ 4096 n 0 (false, 0, 0, 0) (by omega) (by omega)
  have e : fX1_joinTwo_0 τ = fX1_joinTwo_0b103 (pc1 (PICK (SL L n g) n g)) (pc2 (PICK (SL L n g) n g)) τ := by
    rw [nI_0] at k
    exact k
  constructor
  · intro c
    obtain ⟨p1, p2, p3, p4⟩ := PICK_ok (SL L n g) n g c
    generalize hx : (PICK (SL L n g) n g).2.1 = x at *
    generalize hy : (PICK (SL L n g) n g).2.2.1 = y at *
    have e1 : pc1 (PICK (SL L n g) n g) = nI x := by
      unfold pc1
      rw [if_pos c, hx]
    have e2 : pc2 (PICK (SL L n g) n g) = nI y := by
      unfold pc2
      rw [if_pos c, hy]
    obtain ⟨τ', y1, y2, y3, y4⟩ := jt116_l (n := n) (x := x) (y := y) (g := g) (σ := τ) hn (by omega) p2 (by omega) (fun p hp => by have := (hS p hp).1; omega) 4096 n 0 τ (by omega) (by omega) hJ.1 (fun a b ha hb hab => by
      by_cases ca : a = x
      · rw [if_pos ca, if_neg (Nat.not_lt_zero _), ca]
      · rw [if_neg ca]
        by_cases cb : b = x
        · rw [if_pos cb, if_neg (Nat.not_lt_zero _), cb]
        · rw [if_neg cb]) (fun j hj => by rw [if_neg (Nat.not_lt_zero _)]; exact hJ.2.1 j hj)
    refine ⟨τ', ?_, ⟨(y4.1 9 rfl).trans hJ.1, y3, fun a b ha hb hab ga gb => ?_⟩, y4⟩
    · rw [e, e1, e2, ← y1, nI_0]
      unfold fX1_joinTwo_0b103 fX1_joinTwo_0b107 fX1_joinTwo_0b113
      rw [if_neg (nI_pos (by omega)), if_pos (nI_pos' (by omega))]
    · have rep : ∀ z, jn g x y z = z → g z = z ∧ z ≠ y := fun z hz => by
        have hz' : (if g z = y then x else g z) = z := hz
        by_cases w : g z = y
        · rw [if_pos w] at hz'
          rw [← hz', p3] at w
          omega
        · rw [if_neg w] at hz'
          exact ⟨hz', fun q => w (by rw [q]; exact p4)⟩
      obtain ⟨a1, a2⟩ := rep a ga
      obtain ⟨b1, b2⟩ := rep b gb
      rw [y2 a b ha hb (fun w => hab (w.1.trans w.2.symm))]
      by_cases ca : a = x
      · have cb : ¬ b = x := fun w => hab (ca.trans w.symm)
        rw [if_pos ca, if_pos hb, ca, SL_jn (by omega) cb b2, hJ.2.2 x b (by omega) hb (fun w => cb w.symm) p3 b1, hJ.2.2 y b p2 hb (fun w => b2 w.symm) p4 b1]
      · rw [if_neg ca]
        by_cases cb : b = x
        · rw [if_pos cb, if_pos ha, cb, SL_comm hs, SL_jn (by omega) ca a2, hJ.2.2 x a (by omega) ha (fun w => ca w.symm) p3 a1, hJ.2.2 y a p2 ha (fun w => a2 w.symm) p4 a1]
        · rw [if_neg cb, SL_keep ⟨ca, a2⟩ ⟨cb, b2⟩, hJ.2.2 a b ha hb hab a1 b1]
  · intro c
    have e1 : pc1 (PICK (SL L n g) n g) = -1 := if_neg c
    rw [e, e1]
    unfold fX1_joinTwo_0b103 fX1_joinTwo_0b111
    rw [if_pos (show (-1 : Int32) < 0 by decide)]
