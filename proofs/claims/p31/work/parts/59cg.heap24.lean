/-! the class's heaps, when they are wanted: of the rows and rules as they stand -/
def lvv (f : Nat → List (Nat → Nat)) : Nat → Nat → List (Nat → Nat)
  | 0, _ => []
  | k + 1, v => f v ++ lvv f k (v + 1)
/-- all dealings out that begin with the i first of a, in order; d pieces are to be dealt -/
def lvs : Nat → Nat → (Nat → Nat) → List (Nat → Nat)
  | 0, _, a => [a]
  | d + 1, i, a => lvv (fun v => lvs d (i + 1) (stA a i v)) (hpi a i + 1) 0
/-- those that are near -/
def NRL (L : Nat → Nat → Int32) (n : Nat) (T : Int32) (l : List (Nat → Nat)) : List (Nat → Nat) := l.filter fun a => decide (¬ WO L a n < T)
def few (n : Nat) (l : List (Nat → Nat)) : Nat := l.foldl (fun m a => min m (hpi a n)) 9
def mst (n : Nat) (l : List (Nat → Nat)) : Nat := l.foldl (fun m a => max m (hpi a n)) 0
def bt64 (m : Int64) (t : Nat) : Bool := m.toBitVec.getLsbD t
def tri (i : Nat) : Nat := i * (i - 1) / 2
/-- the class's near ones -/
def NRS (n : Nat) (l : List (Nat → Nat)) (σ : ST) : Prop := σ.1 14 = nI l.length ∧ σ.1 15 = nI (few n l) ∧ σ.1 16 = nI (mst n l) ∧ ∀ hi lo, lo < hi → hi < n → bt64 (σ.2.1 0) (tri hi + lo) = l.all (fun a => decide (a hi = a lo)) ∧ bt64 (σ.2.1 1) (tri hi + lo) = l.any (fun a => decide (a hi = a lo))
abbrev LKc (V : Nat → Nat) (H : Nat → Bool) (c N r2 r4 : Nat) : Nat → Nat → Int32 := LKv V (CUT V H c N).1 r2 r4
abbrev BSc (V : Nat → Nat) (H : Nat → Bool) (c N r2 r4 : Nat) : BB := BEST (LKc V H c N r2 r4) (CUT V H c N).1.1
abbrev NEc (V : Nat → Nat) (H : Nat → Bool) (c N r2 r3 r4 : Nat) : List (Nat → Nat) := NRL (LKc V H c N r2 r4) (CUT V H c N).1.1 ((BSc V H c N r2 r4).2.1 - nI r3) (lvs (CUT V H c N).1.1 0 (fun _ => 0))
/-- the class's heaps are those of N rows -/
def HPX (V : Nat → Nat) (H : Nat → Bool) (c N r2 r4 : Nat) (σ : ST) : Prop := (CUT V H c N).1.1 ≤ 9 ∧ TIED (LKc V H c N r2 r4) (CUT V H c N).1.1 σ ∧ CBB (BSc V H c N r2 r4) (CUT V H c N).1.1 σ ∧ (∀ x, x < hpi (BSc V H c N r2 r4).2.2 (CUT V H c N).1.1 → ∀ k, k < 4 → σ.2.2 43 (x * 4 + k) = nI (MH V (HS (CUT V H c N).1 (BSc V H c N r2 r4).2.2 x) N k)) ∧ JND (LKc V H c N r2 r4) (CUT V H c N).1.1 σ
/-- what the class's rows and rules say -/
def FX (V : Nat → Nat) (H : Nat → Bool) (c c1 N r2 r3 r4 : Nat) (σ : ST) : Prop := c ≤ 999 ∧ r2 ≤ 399 ∧ r3 ≤ 9999 ∧ r4 ≤ 999 ∧ σ.2.2 1 0 = nI c ∧ σ.2.2 1 1 = nI c1 ∧ σ.2.2 1 2 = nI r2 ∧ σ.2.2 1 3 = nI r3 ∧ σ.2.2 1 4 = nI r4 ∧ RWX V H c1 N σ
def JHEAP (σ : ST) : Prop := σ.1 23 = 0 → σ.1 22 = 0 ∧ ∀ V H c c1 N r2 r3 r4, FX V H c c1 N r2 r3 r4 σ → HPX V H c N r2 r4 σ
def JNEAR (σ : ST) : Prop := σ.1 24 = 0 → σ.1 23 = 0 ∧ ∀ V H c c1 N r2 r3 r4, FX V H c c1 N r2 r3 r4 σ → NRS (CUT V H c N).1.1 (NEc V H c N r2 r3 r4) σ
theorem FX.fr {V : Nat → Nat} {H : Nat → Bool} {c c1 N r2 r3 r4 : Nat} {I J : List (Nat × Nat)} {σ τ : ST} (h : FX V H c c1 N r2 r3 r4 σ) (f : Fr I J σ τ) (hh : ((!inR I 2 && [3, 4, 5].all (fun k => !inR J k)) && !inR J 1) = true) : FX V H c c1 N r2 r3 r4 τ := by
  simp only [Bool.and_eq_true, Bool.not_eq_true'] at hh
  obtain ⟨k1, k2, k3, k4, k5, k6, k7, k8, k9, k10⟩ := h
  refine ⟨k1, k2, k3, k4, by rw [f.2 _ hh.2]; exact k5, by rw [f.2 _ hh.2]; exact k6, by rw [f.2 _ hh.2]; exact k7, by rw [f.2 _ hh.2]; exact k8, by rw [f.2 _ hh.2]; exact k9, k10.fr f ?_⟩
  simp only [Bool.and_eq_true, Bool.not_eq_true']
  exact hh.1
theorem inR_21 {J : List (Nat × Nat)} (h : [21, 22, 23, 24, 25, 26, 27, 28, 29].all (fun k => !inR J k) = true) {x : Nat} (hx : x < 9) : inR J (21 + x) = false := by
  simp only [List.all_cons, List.all_nil, Bool.and_true, Bool.and_eq_true, Bool.not_eq_true'] at h
  obtain ⟨h0, h1, h2, h3, h4, h5, h6, h7, h8⟩ := h
  rcases (show x = 0 ∨ x = 1 ∨ x = 2 ∨ x = 3 ∨ x = 4 ∨ x = 5 ∨ x = 6 ∨ x = 7 ∨ x = 8 by omega) with rfl | rfl | rfl | rfl | rfl | rfl | rfl | rfl | rfl <;> assumption
theorem TIED.fr' {L : Nat → Nat → Int32} {n : Nat} {I J : List (Nat × Nat)} {σ τ : ST} (h : TIED L n σ) (hn : n ≤ 9) (f : Fr I J σ τ) (h1 : inR I 9 = false) (h2 : [21, 22, 23, 24, 25, 26, 27, 28, 29].all (fun k => !inR J k) = true) (h3 : inR J 40 = false) : TIED L n τ := by
  refine ⟨(f.1 9 h1).trans h.1, fun x y hxy => ?_, by rw [f.2 40 h3]; exact h.2.2⟩
  have k1 := hxy.1
  have k2 := hxy.2
  rw [f.2 _ (inR_21 h2 (show x < 9 by omega)), f.2 _ (inR_21 h2 (show y < 9 by omega))]
  exact h.2.1 x y hxy
/-- ints and arrays that the class's heaps hang on -/
def hI (I : List (Nat × Nat)) : Bool := [9, 10, 11, 17, 18].all fun k => !inR I k
def hA (J : List (Nat × Nat)) : Bool := [21, 22, 23, 24, 25, 26, 27, 28, 29].all (fun k => !inR J k) && [40, 41, 43, 46].all (fun k => !inR J k)
theorem CBB.fr {B : BB} {n : Nat} {I J : List (Nat × Nat)} {σ τ : ST} (h : CBB B n σ) (f : Fr I J σ τ) (h1 : inR I 10 = false) (h2 : inR I 11 = false) (h3 : inR J 41 = false) : CBB B n τ := by
  unfold CBB
  rw [f.1 _ h1, f.1 _ h2, f.2 _ h3]
  exact h
theorem JND.fr {L : Nat → Nat → Int32} {n : Nat} {I J : List (Nat × Nat)} {σ τ : ST} (h : JND L n σ) (f : Fr I J σ τ) (h1 : inR I 17 = false) (h2 : inR I 18 = false) (h3 : inR J 46 = false) : JND L n τ := by
  unfold JND
  rw [f.1 _ h1, f.1 _ h2, f.2 _ h3]
  exact h
theorem HPX.fr {V : Nat → Nat} {H : Nat → Bool} {c N r2 r4 : Nat} {I J : List (Nat × Nat)} {σ τ : ST} (h : HPX V H c N r2 r4 σ) (f : Fr I J σ τ) (h1 : hI I = true) (h2 : hA J = true) : HPX V H c N r2 r4 τ := by
  unfold hI at h1
  unfold hA at h2
  rw [Bool.and_eq_true] at h2
  obtain ⟨g0, g2⟩ := h2
  simp only [List.all_cons, List.all_nil, Bool.and_true, Bool.and_eq_true, Bool.not_eq_true'] at h1 g2
  obtain ⟨a1, a2, a3, a4, a5⟩ := h1
  obtain ⟨b1, b2, b3, b4⟩ := g2
  exact ⟨h.1, h.2.1.fr' h.1 f a1 g0 b1, h.2.2.1.fr f a2 a3 b2, by rw [f.2 _ b3]; exact h.2.2.2.1, h.2.2.2.2.fr f a4 a5 b4⟩
def LQ (a b : Int64) (σ : ST) : Prop := σ.2.1 0 = a ∧ σ.2.1 1 = b
theorem NRS.fr {n : Nat} {l : List (Nat → Nat)} {I J : List (Nat × Nat)} {σ τ : ST} (h : NRS n l σ) (f : Fr I J σ τ) (h1 : [14, 15, 16].all (fun k => !inR I k) = true) (hl : LQ (σ.2.1 0) (σ.2.1 1) τ) : NRS n l τ := by
  simp only [List.all_cons, List.all_nil, Bool.and_true, Bool.and_eq_true, Bool.not_eq_true'] at h1
  obtain ⟨a1, a2, a3⟩ := h1
  unfold NRS
  rw [f.1 _ a1, f.1 _ a2, f.1 _ a3, hl.1, hl.2]
  exact h
def KHP (σ : ST) : Prop := KCU σ ∧ JHEAP σ ∧ JNEAR σ
abbrev kII : List (Nat × Nat) := [(0, 1), (3, 4), (12, 13), (19, 21), (25, 999)]
abbrev kAA (U : Nat) : List (Nat × Nat) := [(0, 0), (2, 2), (6, 11), (18, 20), (30, 39), (42, 42), (44, 45), (47, U)]
theorem KHP.same {U : Nat} {σ τ : ST} (h : KHP σ) (f : Fr kII (kAA U) σ τ) (hl : LQ (σ.2.1 0) (σ.2.1 1) τ) : KHP τ := by
  have b : Fr kII (kAA U) τ σ := ⟨fun k e => (f.1 k e).symm, fun k e => (f.2 k e).symm⟩
  have fw : Fr [(0, 1), (3, 4), (9, 21), (23, 999)] [(0, 0), (2, 2), (6, 11), (18, U + 47)] σ τ := f.wide rfl (by
    have z : ∀ a, Nat.ble 18 (18 + a) = true := fun a => Nat.ble_eq.mpr (Nat.le_add_right _ _)
    have z1 : Nat.ble U (U + 47) = true := Nat.ble_eq.mpr (Nat.le_add_right _ _)
    have z2 : ∀ k, k ≤ 47 → Nat.ble k (U + 47) = true := fun k hk => Nat.ble_eq.mpr (by omega)
    have e1 := z2 20 (by omega)
    have e2 := z2 39 (by omega)
    have e3 := z2 42 (by omega)
    have e4 := z2 45 (by omega)
    have e5 := z2 0 (by omega)
    have e6 := z2 2 (by omega)
    have e7 := z2 11 (by omega)
    simp only [subR, List.all_cons, List.all_nil, List.any_cons, List.any_nil, z1, e1, e2, e3, e4, e5, e6, e7]
    generalize U.ble 0 = x1
    generalize U.ble 2 = x2
    generalize U.ble 11 = x3
    cases x1 <;> cases x2 <;> cases x3 <;> rfl)
  refine ⟨h.1.same (U := U + 47) fw, fun q => ?_, fun q => ?_⟩
  · obtain ⟨k1, k2⟩ := h.2.1 ((f.1 23 rfl).symm.trans q)
    exact ⟨(f.1 22 rfl).trans k1, fun V H c c1 N r2 r3 r4 hF => (k2 V H c c1 N r2 r3 r4 (hF.fr b rfl)).fr f rfl rfl⟩
  · obtain ⟨k1, k2⟩ := h.2.2 ((f.1 24 rfl).symm.trans q)
    exact ⟨(f.1 23 rfl).trans k1, fun V H c c1 N r2 r3 r4 hF => (k2 V H c c1 N r2 r3 r4 (hF.fr b rfl)).fr f rfl hl⟩
theorem KHP.fr {I J : List (Nat × Nat)} {σ τ : ST} (h : KHP σ) (f : Fr I J σ τ) (h1 : subR I kII = true) (h2 : subR J (kAA 9999) = true) (hl : LQ (σ.2.1 0) (σ.2.1 1) τ) : KHP τ := h.same (U := 9999) (f.wide h1 h2) hl
theorem KHP.putI {σ : ST} (h : KHP σ) {k : Nat} {v : Int32} (hh : inR kII k = true) : KHP (sI σ k v) := h.same (U := 9999) ((Fr.refl σ).putI hh) ⟨rfl, rfl⟩
theorem KHP.putA {σ : ST} (h : KHP σ) {k : Nat} {f : Nat → Int32} (hh : inR (kAA 9999) k = true) : KHP (sA σ k f) := h.same (U := 9999) ((Fr.refl σ).putA hh) ⟨rfl, rfl⟩
theorem KHP.putL {σ : ST} (h : KHP σ) {k : Nat} {v : Int64} (h0 : Nat.beq 0 k = false) (h1 : Nat.beq 1 k = false) : KHP (sL σ k v) := h.same (U := 9999) ⟨fun _ _ => rfl, fun _ _ => rfl⟩ ⟨by
  show cond (Nat.beq 0 k) v (σ.2.1 0) = σ.2.1 0
  rw [h0]
  rfl, by
  show cond (Nat.beq 1 k) v (σ.2.1 1) = σ.2.1 1
  rw [h1]
  rfl⟩
theorem KHP.putG {σ : ST} (h : KHP σ) {k : Nat} {f : Nat → Int32} (hk : 48 ≤ k) : KHP (sA σ k f) := by
  refine h.same (U := k) ⟨fun _ _ => rfl, fun a e => sA_ne _ _ (beq_f fun q => ?_)⟩ ⟨rfl, rfl⟩
  subst q
  have z : Nat.ble 47 a = true := Nat.ble_eq.mpr (by omega)
  have z2 : Nat.ble a a = true := Nat.ble_eq.mpr (Nat.le_refl _)
  simp only [inR, List.any_cons, List.any_nil, z, z2, Bool.and_true, Bool.or_true, Bool.or_false, Bool.true_or, Bool.and_self] at e
  exact absurd e (by decide)
