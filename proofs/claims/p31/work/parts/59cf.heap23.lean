/-! the worth of the second way; the class's join -/
theorem sm_cut {f : Nat → Int32} {i : Nat} : ∀ d, (∀ k, i ≤ k → k < i + d → f k = 0) → sm f (i + d) = sm f i
  | 0, _ => rfl
  | d + 1, h => by
    show sm f (i + d) + f (i + d) = sm f i
    rw [sm_cut d (fun k h1 h2 => h k h1 (by omega)), h (i + d) (by omega) (by omega), Int32.add_zero]
theorem rs_sm (L : Nat → Nat → Int32) (a : Nat → Nat) (i : Nat) : ∀ j, rs L a i j = sm (fun x => if a i = a x then L x i else 0) j
  | 0 => rfl
  | j + 1 => by
    show rs L a i j + _ = sm _ j + _
    rw [rs_sm L a i j]
theorem WO_sm (L : Nat → Nat → Int32) (a : Nat → Nat) : ∀ n, WO L a n = sm (fun i => rs L a i i) n
  | 0 => rfl
  | n + 1 => by
    show WO L a n + _ = sm _ n + _
    rw [WO_sm L a n]
def up (L : Nat → Nat → Int32) (a : Nat → Nat) (p q : Nat) : Int32 := if p < q ∧ a p = a q then L p q else 0
theorem WO_up (L : Nat → Nat → Int32) (a : Nat → Nat) (n : Nat) : WO L a n = sm (fun p => sm (fun q => up L a p q) n) n := by
  rw [sm_swap, WO_sm]
  refine sm_congr n fun i hi => ?_
  obtain ⟨d, rfl⟩ : ∃ d, n = i + d := ⟨n - i, by omega⟩
  rw [rs_sm, sm_cut (f := fun p => up L a p i) d (fun k h1 h2 => if_neg fun w => by have := w.1; omega)]
  refine sm_congr i fun x hx => ?_
  unfold up
  by_cases c : a i = a x
  · rw [if_pos c, if_pos ⟨hx, c.symm⟩]
  · rw [if_neg c, if_neg (fun w => c w.2.symm)]
theorem wx17_l {K : Int32 → Int32 → ST → Int32} {L : Nat → Nat → Int32} {a : Nat → Nat} {n p : Nat} {A : Int32} {τ : ST} (hn : n ≤ 9) (hp : p < n) (h9 : τ.1 9 = nI n) (hL : ∀ x y, x < n → y < n → x ≠ y → τ.2.2 (21 + x) y = L x y) (ha : ∀ j, j < n → τ.2.2 46 j = nI (a j) ∧ a j ≤ 9) : ∀ (fu d q : Nat), q + d = n → d < fu → p < q → fX1_worthOf_0l17 K fu (A + sm (fun q => up L a p q) q) (nI p) (nI q) τ = K (A + sm (fun q => up L a p q) n) (nI (p + 1)) τ := by
  intro fu
  induction fu with
  | zero =>
    intro d q _ h
    exact absurd h (Nat.not_lt_zero _)
  | succ fu ih =>
    intro d q hd hf hpq
    cases d with
    | zero =>
      have eq : q = n := by omega
      subst eq
      show fX1_worthOf_0b17 K (fX1_worthOf_0l17 K fu) (A + sm (fun q => up L a p q) q) (nI p) (nI q) τ = _
      unfold fX1_worthOf_0b17 fX1_worthOf_0b64
      simp only [bd_e, h9, n_add1]
      rw [if_pos ((leN (by omega) (by omega)).mpr (Nat.le_refl _))]
    | succ d =>
      obtain ⟨a1, a2⟩ := ha p hp
      obtain ⟨b1, b2⟩ := ha q (by omega)
      rw [← ih d (q + 1) (by omega) (by omega) (by omega)]
      show fX1_worthOf_0b17 K (fX1_worthOf_0l17 K fu) (A + sm (fun q => up L a p q) q) (nI p) (nI q) τ = fX1_worthOf_0l17 K fu (A + (sm (fun q => up L a p q) q + up L a p q)) (nI p) (nI (q + 1)) τ
      unfold fX1_worthOf_0b17 fX1_worthOf_0b26 fX1_worthOf_0b43 fX1_worthOf_0b55 fX1_worthOf_0b56 up
      simp only [bd_e, h9, n_add1, show (nI p).toNatClampNeg = p from nI_clamp (by omega), show (nI q).toNatClampNeg = q from nI_clamp (by omega), a1, b1, nI_eq (a := a p) (b := a q) (by omega) (by omega), hL p q hp (by omega) (by omega)]
      rw [if_neg (fun q => absurd ((leN (by omega) (by omega)).mp q) (by omega))]
      by_cases c : a p = a q
      · rw [if_pos c, if_pos (show p < q ∧ a p = a q from ⟨hpq, c⟩), Int32.add_assoc]
      · rw [if_neg c, if_neg (show ¬ (p < q ∧ a p = a q) from fun w => c w.2), Int32.add_zero, Int32.add_zero]
theorem wx4_l {L : Nat → Nat → Int32} {a : Nat → Nat} {n : Nat} {τ : ST} (hn : n ≤ 9) (h9 : τ.1 9 = nI n) (hL : ∀ x y, x < n → y < n → x ≠ y → τ.2.2 (21 + x) y = L x y) (ha : ∀ j, j < n → τ.2.2 46 j = nI (a j) ∧ a j ≤ 9) : ∀ (fu d p : Nat), p + d = n → d < fu → fX1_worthOf_0l4 fu (sm (fun p => sm (fun q => up L a p q) n) p) (nI p) τ = sm (fun p => sm (fun q => up L a p q) n) n := by
  intro fu
  induction fu with
  | zero =>
    intro d p _ h
    exact absurd h (Nat.not_lt_zero _)
  | succ fu ih =>
    intro d p hd hf
    cases d with
    | zero =>
      have ep : p = n := by omega
      subst ep
      show fX1_worthOf_0b4 (fX1_worthOf_0l4 fu) _ (nI p) τ = _
      unfold fX1_worthOf_0b4 fX1_worthOf_0b70
      simp only [bd_e, h9]
      rw [if_pos ((leN (by omega) (by omega)).mpr (Nat.le_refl _))]
    | succ d =>
      have k := wx17_l (K := fX1_worthOf_0l4 fu) (A := sm (fun p => sm (fun q => up L a p q) n) p) hn (show p < n by omega) h9 hL ha 4096 (n - (p + 1)) (p + 1) (by omega) (by omega) (by omega)
      have z : sm (fun q => up L a p q) (p + 1) = 0 := sm_0 _ fun k hk => if_neg fun w => by omega
      rw [z, Int32.add_zero] at k
      rw [← ih d (p + 1) (by omega) (by omega)]
      show fX1_worthOf_0b4 (fX1_worthOf_0l4 fu) (sm (fun p => sm (fun q => up L a p q) n) p) (nI p) τ = fX1_worthOf_0l4 fu (sm (fun p => sm (fun q => up L a p q) n) p + sm (fun q => up L a p q) n) (nI (p + 1)) τ
      unfold fX1_worthOf_0b4 fX1_worthOf_0b12
      simp only [bd_e, h9, n_add1]
      rw [if_neg (fun q => absurd ((leN (by omega) (by omega)).mp q) (by omega))]
      exact k
theorem worthOf_X {L : Nat → Nat → Int32} {a : Nat → Nat} {n : Nat} {τ : ST} (hn : n ≤ 9) (h9 : τ.1 9 = nI n) (hL : ∀ x y, x < n → y < n → x ≠ y → τ.2.2 (21 + x) y = L x y) (ha : ∀ j, j < n → τ.2.2 46 j = nI (a j) ∧ a j ≤ 9) : fX1_worthOf_0 τ = WO L a n := by
  rw [WO_up, ← wx4_l hn h9 hL ha 4096 n 0 (by omega) (by omega), nI_0]
  rfl
/-- the second way, of the class -/
def JND (L : Nat → Nat → Int32) (n : Nat) (σ : ST) : Prop := σ.1 17 = nI (rc (GJ L n) n) ∧ σ.1 18 = WO L (JN (GJ L n)) n ∧ ∀ j, j < n → σ.2.2 46 j = nI (JN (GJ L n) j)
theorem JN_le {g : Nat → Nat} {n : Nat} (h : LST1 n g) {j : Nat} (hj : j < n) : JN g j ≤ j := by
  have h1 := (h j hj).1
  have h2 := rc_le g (g j)
  unfold JN
  omega
theorem join_X {L : Nat → Nat → Int32} {n : Nat} {σ : ST} (hn : n ≤ 9) (hs : ∀ x y, x < n → y < n → L x y = L y x) (h9 : σ.1 9 = nI n) (hM : MTX L (fun x y => x < y ∧ y < n) σ) : JND L n (fX1_join_0 σ) ∧ Fr [(17, 18)] [(31, 39), (46, 47)] σ (fX1_join_0 σ) := by
  have hL : ∀ x y, x < n → y < n → x ≠ y → σ.2.2 (21 + x) y = L x y := fun x y hx hy hxy => by
    rcases Nat.lt_or_ge x y with c | c
    · exact (hM x y ⟨c, hy⟩).1
    · rw [(hM y x ⟨by omega, hx⟩).2, hs y x hy hx]
  have q21 : ∀ J : List (Nat × Nat), J = [(31, 39), (46, 46)] ∨ J = [(31, 39), (46, 47)] → ∀ x, x < 9 → inR J (21 + x) = false := fun J hJ x hx => by
    rcases hJ with rfl | rfl <;> rcases (show x = 0 ∨ x = 1 ∨ x = 2 ∨ x = 3 ∨ x = 4 ∨ x = 5 ∨ x = 6 ∨ x = 7 ∨ x = 8 by omega) with rfl | rfl | rfl | rfl | rfl | rfl | rfl | rfl | rfl <;> rfl
  obtain ⟨τ1, y1, y2, y3⟩ := jn2_l (L := L) hn 4096 n 0 σ (by omega) (by omega) h9 hL (fun x hx => absurd hx (Nat.not_lt_zero _))
  have hL1 : ∀ x y, x < n → y < n → x ≠ y → τ1.2.2 (21 + x) y = L x y := fun x y hx hy hxy => by
    rw [y3.2 _ (q21 _ (Or.inl rfl) x (by omega))]
    exact hL x y hx hy hxy
  obtain ⟨τ2, z1, z2, z3⟩ := jn59_l hn hs n 4096 0 (fun p => p) τ1 (by omega) (by omega) (fun p _ => ⟨Nat.le_refl _, rfl⟩) ⟨(y3.1 9 rfl).trans h9, fun p hp => (y2 p hp).1, fun a b ha hb hab _ _ => by
    rw [(y2 a ha).2 b hb, hL1 a b ha hb hab, SL_id ha hb]⟩
  have f2 : Fr [] [(31, 39), (46, 46)] σ τ2 := y3.call z3 rfl rfl
  have hG := GJ_lst L n
  have z2' : JST L n (GJ L n) τ2 := z2
  generalize gg : GJ L n = g at *
  generalize g5 : sI (sA τ2 47 (fun j => if j < 9 then (-9) else τ2.2.2 47 j)) 17 0 = τ3
  have f3 : Fr [(17, 17)] [(31, 39), (46, 47)] σ τ3 := by
    rw [← g5]
    exact ((f2.wide rfl rfl).putA rfl).putI rfl
  obtain ⟨τ4, w1, w2, w3, w4⟩ := nh16_l hn hG 4096 n 0 τ3 (by omega) (by omega) (by rw [← g5, sI_eq]; exact nI_0.symm) (fun j hj => by
    rw [if_neg (Nat.not_lt_zero _), ← g5, sI_22, sA_ne _ _ rfl]
    exact z2'.2.1 j hj) (fun v hv => by
    rw [if_neg (fun w => absurd w.1 (Nat.not_lt_zero _)), ← g5, sI_22, sA_eq]
    exact if_pos hv)
  have enh : fX4_numberHeaps_0 (nI n) τ2 = τ4 := by
    rw [← w1, nI_0]
    unfold fX4_numberHeaps_0 fX4_numberHeaps_0b0
    simp only [bd_e, g5]
  have f4 : Fr [(17, 17)] [(31, 39), (46, 47)] σ τ4 := f3.call w4 rfl rfl
  have a9 : τ4.1 9 = nI n := (f4.1 9 rfl).trans h9
  have ew := worthOf_X (L := L) (a := JN g) hn a9 (fun x y hx hy hxy => by
    rw [f4.2 _ (q21 _ (Or.inr rfl) x (by omega))]
    exact hL x y hx hy hxy) (fun j hj => ⟨w3 j hj, by have := JN_le hG hj; omega⟩)
  have e : fX1_join_0 σ = sI τ4 18 (WO L (JN g) n) := by
    have e1 : fX1_join_0 σ = fX1_join_0b55 τ1 := by
      rw [← y1, nI_0]
      rfl
    have e2 : fX1_join_0b55 τ1 = fX1_join_0b83 τ2 := by
      rw [← z1, nI_0]
      rfl
    rw [e1, e2]
    unfold fX1_join_0b83
    simp only [bd_e, z2'.1, enh, ew]
  rw [e]
  refine ⟨⟨?_, ?_, fun j hj => ?_⟩, (f4.wide rfl rfl).putI rfl⟩
  · rw [gg, sI_ne _ _ rfl, w2]
  · rw [gg, sI_eq]
  · rw [gg]
    exact w3 j hj
