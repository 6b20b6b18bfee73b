/-! twice: the two heaps that a piece is at once -/
/-- a piece against two heaps -/
def T2 (m : Nat → Nat) (M : Nat → Nat → Nat) (a b : Nat) : Nat := sumTo (fun k => ad (min (M a k + M b k) 99) (m k)) 4
def tws (m : Nat → Nat) (M : Nat → Nat → Nat) (own a b : Nat) (o : Option (Nat × Nat × Nat)) : Option (Nat × Nat × Nat) := if a = own ∨ b = own then o else match o with
  | none => some (a, b, T2 m M a b)
  | some z => if T2 m M a b < z.2.2 then some (a, b, T2 m M a b) else some z
def TWO (m : Nat → Nat) (M : Nat → Nat → Nat) (own p : Nat) : Option (Nat × Nat × Nat) := fg (fun a o => fg (fun b o => tws m M own a b o) (p - (a + 1)) (a + 1) o) p 0 none
def twOK (o : Option (Nat × Nat × Nat)) : Prop := ∀ z, o = some z → z.1 < 9 ∧ z.2.1 < 9 ∧ z.2.2 ≤ 396
theorem T2_le {m : Nat → Nat} {M : Nat → Nat → Nat} (hm : ∀ k, k < 4 → m k ≤ 99) (a b : Nat) : T2 m M a b ≤ 396 := sumTo_le (b := 99) 4 fun k hk => by
  have h := hm k hk
  have e : min (M a k + M b k) 99 ≤ 99 := Nat.min_le_right _ _
  unfold ad
  omega
theorem tws_ok {m : Nat → Nat} {M : Nat → Nat → Nat} {own a b : Nat} {o : Option (Nat × Nat × Nat)} (hm : ∀ k, k < 4 → m k ≤ 99) (ha : a < 9) (hb : b < 9) (h : twOK o) : twOK (tws m M own a b o) := by
  have t := T2_le (M := M) hm a b
  unfold tws
  by_cases c : a = own ∨ b = own
  · rw [if_pos c]
    exact h
  · rw [if_neg c]
    cases o with
    | none =>
      intro z e
      have e' : (a, b, T2 m M a b) = z := Option.some.inj e
      subst e'
      exact ⟨ha, hb, t⟩
    | some y =>
      show twOK (if T2 m M a b < y.2.2 then some (a, b, T2 m M a b) else some y)
      by_cases d : T2 m M a b < y.2.2
      · rw [if_pos d]
        intro z e
        have e' : (a, b, T2 m M a b) = z := Option.some.inj e
        subst e'
        exact ⟨ha, hb, t⟩
      · rw [if_neg d]
        exact h
/-- the class's pair of numbers -/
def cf : Option (Nat × Nat × Nat) → Int32
  | none => -9
  | some z => nI (z.1 * 9 + z.2.1)
def cl : Option (Nat × Nat × Nat) → Nat
  | none => 1000000000
  | some z => z.2.2
theorem oot_l {q a b p n : Nat} {m : Nat → Nat} {M : Nat → Nat → Nat} {s : ST} (h10 : s.1 10 = nI p) (hp : p ≤ 9) (ha : a < p) (hb : b < p) (h5 : s.1 5 = nI n) (hn : n ≤ 48) (hq : q < n) (hm : ∀ k, k < 4 → s.2.2 15 (q * 4 + k) = nI (m k) ∧ m k ≤ 99) (hM : ∀ x, x < p → ∀ k, k < 4 → s.2.2 43 (x * 4 + k) = nI (M x k) ∧ M x k ≤ 99) : ∀ (fu d k : Nat), k + d = 4 → d < fu → fX4_offOfTwo_0l6 fu (nI q) (nI a) (nI b) (nI (sumTo (fun k => ad (min (M a k + M b k) 99) (m k)) k)) (nI k) s = nI (T2 m M a b)
  | 0, _, _, _, h => absurd h (Nat.not_lt_zero _)
  | fu + 1, 0, k, hk, _ => by
    have k4 : k = 4 := by omega
    subst k4
    show fX4_offOfTwo_0b6 (fX4_offOfTwo_0l6 fu) (nI q) (nI a) (nI b) _ (nI 4) s = _
    unfold fX4_offOfTwo_0b6 fX4_offOfTwo_0b59 T2
    rw [if_pos (show 4 ≤ nI 4 by decide)]
  | fu + 1, d + 1, k, hk, hf => by
    obtain ⟨m1, m2⟩ := hm k (by omega)
    obtain ⟨a1, a2⟩ := hM a ha k (by omega)
    obtain ⟨b1, b2⟩ := hM b hb k (by omega)
    have e99 : (if nI (M a k + M b k) < 99 then nI (M a k + M b k) else 99) = nI (min (M a k + M b k) 99) := by
      by_cases c : M a k + M b k < 99
      · rw [if_pos (show nI (M a k + M b k) < 99 from (nI_ltI (b := 99) (by omega) (by omega)).mpr c), Nat.min_eq_left (by omega)]
      · rw [if_neg (show ¬ nI (M a k + M b k) < 99 from fun z => c (y_lt (b := 99) (by omega) (by omega) z)), Nat.min_eq_right (by omega)]
        rfl
    have mn : min (M a k + M b k) 99 ≤ 99 := Nat.min_le_right _ _
    rw [← oot_l h10 hp ha hb h5 hn hq hm hM fu d (k + 1) (by omega) (by omega)]
    show fX4_offOfTwo_0b6 (fX4_offOfTwo_0l6 fu) (nI q) (nI a) (nI b) (nI (sumTo (fun k => ad (min (M a k + M b k) 99) (m k)) k)) (nI k) s = fX4_offOfTwo_0l6 fu (nI q) (nI a) (nI b) (nI (sumTo (fun k => ad (min (M a k + M b k) 99) (m k)) k + ad (min (M a k + M b k) 99) (m k))) (nI (k + 1)) s
    unfold fX4_offOfTwo_0b6 fX4_offOfTwo_0b12
    rw [if_neg (show ¬ 4 ≤ nI k from fun z => absurd ((leN (a := 4) (by omega) (by omega)).mp z) (by omega))]
    simp only [bd_e, middleOf_H h10 hp ha (show k < 4 by omega), middleOf_H h10 hp hb (show k < 4 by omega), middleOf_X h5 hn hq (show k < 4 by omega), m1, a1, b1, nI_add, e99, abs_v (a := min (M a k + M b k) 99) (b := m k) (by omega) (by omega), n_add1]
/-- what the class's search stands on -/
def TWX (q p n own : Nat) (m : Nat → Nat) (M : Nat → Nat → Nat) (s : ST) : Prop := s.1 10 = nI p ∧ p ≤ 9 ∧ s.1 5 = nI n ∧ n ≤ 9 ∧ q < n ∧ own < p ∧ (∀ k, k < 4 → s.2.2 15 (q * 4 + k) = nI (m k) ∧ m k ≤ 99) ∧ ∀ x, x < p → ∀ k, k < 4 → s.2.2 43 (x * 4 + k) = nI (M x k) ∧ M x k ≤ 99
theorem oot_X {q p n own a b : Nat} {m : Nat → Nat} {M : Nat → Nat → Nat} {s : ST} (h : TWX q p n own m M s) (ha : a < p) (hb : b < p) : fX4_offOfTwo_0 (nI q) (nI a) (nI b) s = nI (T2 m M a b) := by
  obtain ⟨h1, h2, h3, h4, h5, h6, h7, h8⟩ := h
  have z := oot_l (m := m) (M := M) h1 h2 ha hb h3 (by omega) h5 h7 h8 4096 4 0 (by omega) (by omega)
  have z0 : nI (sumTo (fun k => ad (min (M a k + M b k) 99) (m k)) 0) = (0 : Int32) := nI_0
  rw [z0, nI_0] at z
  unfold fX4_offOfTwo_0 fX4_offOfTwo_0b0
  exact z
theorem tx47_l {K : Int32 → Int32 → Int32 → Int32 → Int32 → Int32 → ST → Int32} {R : Int32} {q p n own a : Nat} {m : Nat → Nat} {M : Nat → Nat → Nat} {s : ST} (h : TWX q p n own m M s) (ha : a < p) : ∀ (fu d b : Nat) (o : Option (Nat × Nat × Nat)), b + d = p → d < fu → twOK o → fX4_twoInOne_0l47 K fu (nI q) R (nI own) (cf o) (nI (cl o)) (nI a) (nI b) s = K (nI q) R (nI own) (cf (fg (fun b o => tws m M own a b o) d b o)) (nI (cl (fg (fun b o => tws m M own a b o) d b o))) (nI (a + 1)) s := by
  intro fu
  induction fu with
  | zero =>
    intro d b o _ h
    exact absurd h (Nat.not_lt_zero _)
  | succ fu ih =>
    intro d b o hd hf hO
    have h' := h
    obtain ⟨h1, h2, h3, h4, h5, h6, h7, h8⟩ := h'
    cases d with
    | zero =>
      have eb : b = p := by omega
      subst eb
      show fX4_twoInOne_0b47 K (fX4_twoInOne_0l47 K fu) (nI q) R (nI own) (cf o) (nI (cl o)) (nI a) (nI b) s = _
      unfold fX4_twoInOne_0b47 fX4_twoInOne_0b114
      simp only [bd_e, h1, n_add1]
      rw [if_pos ((leN (by omega) (by omega)).mpr (Nat.le_refl _))]
      rfl
    | succ d =>
      have k := ih d (b + 1) (tws m M own a b o) (by omega) (by omega) (tws_ok (fun k hk => (h7 k hk).2) (by omega) (by omega) hO)
      have eo := oot_X h ha (show b < p by omega)
      have t396 := T2_le (M := M) (fun k hk => (h7 k hk).2) a b
      have clb : cl o ≤ 1000000000 := by
        cases o with
        | none => exact Nat.le_refl _
        | some z =>
          show z.2.2 ≤ 1000000000
          have := (hO z rfl).2.2
          omega
      show fX4_twoInOne_0b47 K (fX4_twoInOne_0l47 K fu) (nI q) R (nI own) (cf o) (nI (cl o)) (nI a) (nI b) s = K (nI q) R (nI own) (cf (fg (fun b o => tws m M own a b o) d (b + 1) (tws m M own a b o))) (nI (cl (fg (fun b o => tws m M own a b o) d (b + 1) (tws m M own a b o)))) (nI (a + 1)) s
      rw [← k]
      have skip : ∀ t : Int32, nI (cl o) ≤ t → fX4_twoInOne_0b85 K (fX4_twoInOne_0l47 K fu) (nI q) R (nI own) (cf o) (nI (cl o)) (nI a) (nI b) t s = fX4_twoInOne_0l47 K fu (nI q) R (nI own) (cf o) (nI (cl o)) (nI a) (nI (b + 1)) s := fun t ht => by
        unfold fX4_twoInOne_0b85 fX4_twoInOne_0b108
        rw [if_pos ht]
        simp only [bd_e, n_add1]
      have far : nI (cl o) ≤ (1000000000 : Int32) := (leN (b := 1000000000) (by omega) (by omega)).mpr clb
      unfold fX4_twoInOne_0b47 fX4_twoInOne_0b56 fX4_twoInOne_0b63 fX4_twoInOne_0b70 fX4_twoInOne_0b75
      simp only [bd_e, h1, eo, nI_eq (a := a) (b := own) (by omega) (by omega), nI_eq (a := b) (b := own) (by omega) (by omega)]
      rw [if_neg (fun q => absurd ((leN (by omega) (by omega)).mp q) (by omega))]
      unfold tws
      by_cases c1 : a = own
      · rw [if_pos c1, if_pos (show a = own ∨ b = own from Or.inl c1)]
        exact skip _ far
      · rw [if_neg c1]
        by_cases c2 : b = own
        · rw [if_pos c2, if_pos (show a = own ∨ b = own from Or.inr c2)]
          exact skip _ far
        · rw [if_neg c2, if_neg (show ¬ (a = own ∨ b = own) from fun w => w.elim c1 c2)]
          have take : ¬ nI (cl o) ≤ nI (T2 m M a b) → fX4_twoInOne_0b85 K (fX4_twoInOne_0l47 K fu) (nI q) R (nI own) (cf o) (nI (cl o)) (nI a) (nI b) (nI (T2 m M a b)) s = fX4_twoInOne_0l47 K fu (nI q) R (nI own) (cf (some (a, b, T2 m M a b))) (nI (cl (some (a, b, T2 m M a b)))) (nI a) (nI (b + 1)) s := fun ht => by
            unfold fX4_twoInOne_0b85 fX4_twoInOne_0b94 fX4_twoInOne_0b108
            rw [if_neg ht]
            simp only [bd_e, n_add1, show nI a * 9 = nI (a * 9) from pk_mul a 9, nI_add]
            rfl
          cases o with
          | none =>
            exact take fun z => absurd ((leN (a := 1000000000) (by omega) (by omega)).mp z) (by omega)
          | some z =>
            have zl : z.2.2 ≤ 396 := (hO z rfl).2.2
            show fX4_twoInOne_0b85 K (fX4_twoInOne_0l47 K fu) (nI q) R (nI own) (cf (some z)) (nI (cl (some z))) (nI a) (nI b) (nI (T2 m M a b)) s = fX4_twoInOne_0l47 K fu (nI q) R (nI own) (cf (if T2 m M a b < z.2.2 then some (a, b, T2 m M a b) else some z)) (nI (cl (if T2 m M a b < z.2.2 then some (a, b, T2 m M a b) else some z))) (nI a) (nI (b + 1)) s
            by_cases d : T2 m M a b < z.2.2
            · rw [if_pos d]
              exact take fun w => absurd ((leN (a := z.2.2) (by omega) (by omega)).mp w) (by omega)
            · rw [if_neg d]
              exact skip _ ((leN (a := z.2.2) (by omega) (by omega)).mpr (by omega))
theorem fg_ok {m : Nat → Nat} {M : Nat → Nat → Nat} {own a p : Nat} (hm : ∀ k, k < 4 → m k ≤ 99) (ha : a < 9) (hp : p ≤ 9) : ∀ d b o, b + d ≤ p → twOK o → twOK (fg (fun b o => tws m M own a b o) d b o)
  | 0, _, _, _, h => h
  | d + 1, b, o, hb, h => fg_ok hm ha hp d (b + 1) _ (by omega) (tws_ok hm ha (by omega) h)
theorem TWO_ok {m : Nat → Nat} {M : Nat → Nat → Nat} {own p : Nat} (hm : ∀ k, k < 4 → m k ≤ 99) (hp : p ≤ 9) : twOK (TWO m M own p) := fg_ind p 0 none (fun a o _ ha ho => fg_ok hm (by omega) hp (p - (a + 1)) (a + 1) o (by omega) ho) (fun z e => by cases e)
theorem tx32_l {R : Int32} {q p n own : Nat} {m : Nat → Nat} {M : Nat → Nat → Nat} {s : ST} (h : TWX q p n own m M s) : ∀ (fu d a : Nat) (o : Option (Nat × Nat × Nat)), a + d = p → d < fu → twOK o → fX4_twoInOne_0l32 fu (nI q) R (nI own) (cf o) (nI (cl o)) (nI a) s = fX4_twoInOne_0b120 (nI q) R (nI own) (cf (fg (fun a o => fg (fun b o => tws m M own a b o) (p - (a + 1)) (a + 1) o) d a o)) (nI (cl (fg (fun a o => fg (fun b o => tws m M own a b o) (p - (a + 1)) (a + 1) o) d a o))) s := by
  intro fu
  induction fu with
  | zero =>
    intro d a o _ h
    exact absurd h (Nat.not_lt_zero _)
  | succ fu ih =>
    intro d a o hd hf hO
    have h' := h
    obtain ⟨h1, h2, h3, h4, h5, h6, h7, h8⟩ := h'
    cases d with
    | zero =>
      have ea : a = p := by omega
      subst ea
      show fX4_twoInOne_0b32 (fX4_twoInOne_0l32 fu) (nI q) R (nI own) (cf o) (nI (cl o)) (nI a) s = _
      unfold fX4_twoInOne_0b32
      simp only [bd_e, h1]
      rw [if_pos ((leN (by omega) (by omega)).mpr (Nat.le_refl _))]
      rfl
    | succ d =>
      have hO2 := fg_ok (own := own) (M := M) (fun k hk => (h7 k hk).2) (show a < 9 by omega) h2 (p - (a + 1)) (a + 1) o (by omega) hO
      have k := tx47_l (K := fX4_twoInOne_0l32 fu) (R := R) h (show a < p by omega) 4096 (p - (a + 1)) (a + 1) o (by omega) (by omega) hO
      rw [ih d (a + 1) _ (by omega) (by omega) hO2] at k
      show fX4_twoInOne_0b32 (fX4_twoInOne_0l32 fu) (nI q) R (nI own) (cf o) (nI (cl o)) (nI a) s = _
      unfold fX4_twoInOne_0b32 fX4_twoInOne_0b41
      simp only [bd_e, h1, n_add1]
      rw [if_neg (fun q => absurd ((leN (by omega) (by omega)).mp q) (by omega))]
      exact k
/-- a piece against its own heap -/
def AL (m : Nat → Nat) (M : Nat → Nat → Nat) (own : Nat) : Nat := sumTo (fun k => ad (m k) (M own k)) 4
theorem two_X {q p n own r : Nat} {m : Nat → Nat} {M : Nat → Nat → Nat} {s : ST} (h : TWX q p n own m M s) (h41 : s.2.2 41 q = nI own) (hr : r ≤ 399) : fX4_twoInOne_0 (nI q) (nI r) s = if TWO m M own p = none then -9 else if nI (AL m M own) - nI (cl (TWO m M own p)) < nI r then -9 else cf (TWO m M own p) := by
  have h' := h
  obtain ⟨h1, h2, h3, h4, h5, h6, h7, h8⟩ := h'
  have z := tx32_l (R := nI r) h 4096 p 0 none (by omega) (by omega) (fun z e => by cases e)
  have eo : fX11_off_1 (nI (q * 4)) (nI (own * 4)) s = nI (AL m M own) := off1_e (by omega) (by omega) h7 (h8 own h6)
  have e1 : fX4_twoInOne_0 (nI q) (nI r) s = fX4_twoInOne_0b120 (nI q) (nI r) (nI own) (cf (TWO m M own p)) (nI (cl (TWO m M own p))) s := by
    rw [nI_0] at z
    unfold fX4_twoInOne_0 fX4_twoInOne_0b0 fX4_twoInOne_0b4 fX4_twoInOne_0b13
    simp only [bd_e, show (nI q).toNatClampNeg = q from nI_clamp (by omega), h41]
    rw [if_neg (nI_pos (by omega)), if_pos (show nI q < 9 from (nI_ltI (b := 9) (by omega) (by omega)).mpr (by omega))]
    exact z
  rw [e1]
  unfold fX4_twoInOne_0b120 fX4_twoInOne_0b147 fX4_twoInOne_0b156 fX4_twoInOne_0b161 fX4_twoInOne_0b163
  simp only [bd_e, n_mul4, eo]
  have hO := TWO_ok (own := own) (M := M) (fun k hk => (h7 k hk).2) h2
  cases hT : TWO m M own p with
  | none =>
    rw [if_pos (show cf none = -9 from rfl), if_pos rfl]
  | some y =>
    have hy := hO y hT
    have n1 : ¬ cf (some y) = -9 := y_neq (y.1 * 9 + y.2.1) (by omega) (by decide)
    rw [if_neg n1, if_neg (show ¬ some y = none from fun w => by cases w)]
/-- what the reference has kept of the search: only what is below F -/
def rq (F : Int) : Option (Nat × Nat × Nat) → Option (Nat × Nat × Nat)
  | none => none
  | some z => if (z.2.2 : Int) < F then some z else none
def ro4 : Option (Nat × Nat × Nat) → Int32
  | none => -9
  | some z => nI z.1
def ro5 : Option (Nat × Nat × Nat) → Int32
  | none => -9
  | some z => nI z.2.1
def ro6 (F : Int32) : Option (Nat × Nat × Nat) → Int32
  | none => F
  | some z => nI z.2.2
/-- what the reference's search stands on -/
def TWM (q p n own : Nat) (m : Nat → Nat) (M : Nat → Nat → Nat) (τ : ST) : Prop := p ≤ 9 ∧ n ≤ 9 ∧ q < n ∧ own < p ∧ τ.2.2 86 q = nI own ∧ (∀ k, k < 4 → τ.2.2 78 (4 * q + k) = nI (m k) ∧ m k ≤ 99) ∧ ∀ x, x < p → ∀ k, k < 4 → τ.2.2 89 (4 * x + k) = nI (M x k) ∧ M x k ≤ 99
theorem tr150_l {K1 : Int32 → Int32 → Int32 → Int32 → Int32 → Int32 → Int32 → ST → Int32 × ST} {K2 : Int32 → Int32 → Int32 → Int32 → Int32 → Int32 → Int32 → Int32 → ST → Int32 × ST} {l2 l4 l5 l6 l7 : Int32} {q p n own a b : Nat} {m : Nat → Nat} {M : Nat → Nat → Nat} {τ : ST} (h : TWM q p n own m M τ) (ha : a < p) (hb : b < p) : ∀ (fu d k : Nat), k + d = 4 → d < fu → fX12_twice_0l150 K1 K2 fu (nI q) l2 l4 l5 l6 l7 (nI a) (nI b) (nI (sumTo (fun k => ad (min (M a k + M b k) 99) (m k)) k)) (nI k) τ = fX12_twice_0b223 K1 K2 (nI q) l2 l4 l5 l6 l7 (nI a) (nI b) (nI (T2 m M a b)) τ
  | 0, _, _, _, h => absurd h (Nat.not_lt_zero _)
  | fu + 1, 0, k, hk, _ => by
    have k4 : k = 4 := by omega
    subst k4
    show fX12_twice_0b150 K1 K2 (fX12_twice_0l150 K1 K2 fu) (nI q) l2 l4 l5 l6 l7 (nI a) (nI b) _ (nI 4) τ = _
    unfold fX12_twice_0b150 T2
    rw [if_pos (show 4 ≤ nI 4 by decide)]
  | fu + 1, d + 1, k, hk, hf => by
    have h' := h
    obtain ⟨h1, h2, h3, h4, h5, h7, h8⟩ := h'
    obtain ⟨m1, m2⟩ := h7 k (by omega)
    obtain ⟨a1, a2⟩ := h8 a ha k (by omega)
    obtain ⟨b1, b2⟩ := h8 b hb k (by omega)
    have mn : min (M a k + M b k) 99 ≤ 99 := Nat.min_le_right _ _
    have sz := size_M (a := m k) (b := min (M a k + M b k) 99) (by omega) (by omega) τ
    rw [← tr150_l h ha hb fu d (k + 1) (by omega) (by omega)]
    show fX12_twice_0b150 K1 K2 (fX12_twice_0l150 K1 K2 fu) (nI q) l2 l4 l5 l6 l7 (nI a) (nI b) (nI (sumTo (fun k => ad (min (M a k + M b k) 99) (m k)) k)) (nI k) τ = fX12_twice_0l150 K1 K2 fu (nI q) l2 l4 l5 l6 l7 (nI a) (nI b) (nI (sumTo (fun k => ad (min (M a k + M b k) 99) (m k)) k + ad (min (M a k + M b k) 99) (m k))) (nI (k + 1)) τ
    unfold fX12_twice_0b150 fX12_twice_0b156 fX12_twice_0b208 fX12_twice_0b203
    rw [if_neg (show ¬ 4 ≤ nI k from fun z => absurd ((leN (a := 4) (by omega) (by omega)).mp z) (by omega))]
    simp only [bd_e, n_4mul, nI_add, show (nI (4 * a + k)).toNatClampNeg = 4 * a + k from nI_clamp (by omega), show (nI (4 * b + k)).toNatClampNeg = 4 * b + k from nI_clamp (by omega), show (nI (4 * q + k)).toNatClampNeg = 4 * q + k from nI_clamp (by omega), m1, a1, b1]
    by_cases c : M a k + M b k ≤ 99
    · rw [if_pos (show nI (M a k + M b k) ≤ 99 from (leN (b := 99) (by omega) (by omega)).mpr c)]
      rw [Nat.min_eq_left c] at sz ⊢
      unfold fX12_twice_0b210
      simp only [bd_e, sz, nI_add, n_add1, ad_comm (m k) (M a k + M b k)]
    · rw [if_neg (show ¬ nI (M a k + M b k) ≤ 99 from fun z => c ((leN (b := 99) (by omega) (by omega)).mp z))]
      rw [Nat.min_eq_right (by omega)] at sz ⊢
      have sz' : fX12_size_0 (nI (m k) - 99) τ = nI (ad (m k) 99) := sz
      unfold fX12_twice_0b210
      simp only [bd_e, sz', nI_add, n_add1, ad_comm (m k) 99]
theorem tr137_l {K1 : Int32 → Int32 → Int32 → Int32 → Int32 → Int32 → Int32 → ST → Int32 × ST} {l2 F32 : Int32} {F : Int} {q p n own a : Nat} {m : Nat → Nat} {M : Nat → Nat → Nat} {τ : ST} (h : TWM q p n own m M τ) (ha : a < p) (hF : ∀ x : Nat, x ≤ 396 → (F32 ≤ nI x ↔ F ≤ (x : Int))) : ∀ (fu d b : Nat) (o : Option (Nat × Nat × Nat)), b + d = p → d < fu → twOK o → fX12_twice_0l137 K1 fu (nI q) l2 (ro4 (rq F o)) (ro5 (rq F o)) (ro6 F32 (rq F o)) (nI p) (nI a) (nI b) τ = K1 (nI q) l2 (ro4 (rq F (fg (fun b o => tws m M own a b o) d b o))) (ro5 (rq F (fg (fun b o => tws m M own a b o) d b o))) (ro6 F32 (rq F (fg (fun b o => tws m M own a b o) d b o))) (nI p) (nI (a + 1)) τ := by
  intro fu
  induction fu with
  | zero =>
    intro d b o _ h
    exact absurd h (Nat.not_lt_zero _)
  | succ fu ih =>
    intro d b o hd hf hO
    have h' := h
    obtain ⟨h1, h2, h3, h4, h5, h7, h8⟩ := h'
    cases d with
    | zero =>
      have eb : b = p := by omega
      subst eb
      show fX12_twice_0b137 K1 (fX12_twice_0l137 K1 fu) (nI q) l2 (ro4 (rq F o)) (ro5 (rq F o)) (ro6 F32 (rq F o)) (nI b) (nI a) (nI b) τ = _
      unfold fX12_twice_0b137 fX12_twice_0b270
      rw [if_pos ((leN (by omega) (by omega)).mpr (Nat.le_refl _))]
      simp only [bd_e, n_add1]
      rfl
    | succ d =>
      have k := ih d (b + 1) (tws m M own a b o) (by omega) (by omega) (tws_ok (fun k hk => (h7 k hk).2) (by omega) (by omega) hO)
      have t396 := T2_le (M := M) (fun k hk => (h7 k hk).2) a b
      have e0 : fX12_twice_0l137 K1 (fu + 1) (nI q) l2 (ro4 (rq F o)) (ro5 (rq F o)) (ro6 F32 (rq F o)) (nI p) (nI a) (nI b) τ = fX12_twice_0b223 K1 (fX12_twice_0l137 K1 fu) (nI q) l2 (ro4 (rq F o)) (ro5 (rq F o)) (ro6 F32 (rq F o)) (nI p) (nI a) (nI b) (nI (T2 m M a b)) τ := by
        have z := tr150_l (K1 := K1) (K2 := fX12_twice_0l137 K1 fu) (l2 := l2) (l4 := ro4 (rq F o)) (l5 := ro5 (rq F o)) (l6 := ro6 F32 (rq F o)) (l7 := nI p) h ha (show b < p by omega) 4096 4 0 (by omega) (by omega)
        have z0 : nI (sumTo (fun k => ad (min (M a k + M b k) 99) (m k)) 0) = (0 : Int32) := nI_0
        rw [z0, nI_0] at z
        rw [← z]
        show fX12_twice_0b137 K1 (fX12_twice_0l137 K1 fu) (nI q) l2 (ro4 (rq F o)) (ro5 (rq F o)) (ro6 F32 (rq F o)) (nI p) (nI a) (nI b) τ = _
        unfold fX12_twice_0b137 fX12_twice_0b144
        rw [if_neg (fun q => absurd ((leN (by omega) (by omega)).mp q) (by omega))]
      show fX12_twice_0l137 K1 (fu + 1) (nI q) l2 (ro4 (rq F o)) (ro5 (rq F o)) (ro6 F32 (rq F o)) (nI p) (nI a) (nI b) τ = K1 (nI q) l2 (ro4 (rq F (fg (fun b o => tws m M own a b o) d (b + 1) (tws m M own a b o)))) (ro5 (rq F (fg (fun b o => tws m M own a b o) d (b + 1) (tws m M own a b o)))) (ro6 F32 (rq F (fg (fun b o => tws m M own a b o) d (b + 1) (tws m M own a b o)))) (nI p) (nI (a + 1)) τ
      rw [e0, ← k]
      unfold fX12_twice_0b223 fX12_twice_0b234 fX12_twice_0b245 fX12_twice_0b252 fX12_twice_0b264
      simp only [bd_e, show (nI q).toNatClampNeg = q from nI_clamp (by omega), h5, nI_eq (a := a) (b := own) (by omega) (by omega), nI_eq (a := b) (b := own) (by omega) (by omega), n_add1]
      unfold tws
      by_cases c1 : a = own
      · rw [if_pos c1, if_pos (show a = own ∨ b = own from Or.inl c1)]
      · rw [if_neg c1]
        by_cases c2 : b = own
        · rw [if_pos c2, if_pos (show a = own ∨ b = own from Or.inr c2)]
        · rw [if_neg c2, if_neg (show ¬ (a = own ∨ b = own) from fun w => w.elim c1 c2)]
          have hFt := hF (T2 m M a b) t396
          have new : rq F (some (a, b, T2 m M a b)) = if (T2 m M a b : Int) < F then some (a, b, T2 m M a b) else none := rfl
          cases o with
          | none =>
            show (if F32 ≤ nI (T2 m M a b) then fX12_twice_0l137 K1 fu (nI q) l2 (ro4 none) (ro5 none) (ro6 F32 none) (nI p) (nI a) (nI (b + 1)) τ else fX12_twice_0l137 K1 fu (nI q) l2 (nI a) (nI b) (nI (T2 m M a b)) (nI p) (nI a) (nI (b + 1)) τ) = fX12_twice_0l137 K1 fu (nI q) l2 (ro4 (rq F (some (a, b, T2 m M a b)))) (ro5 (rq F (some (a, b, T2 m M a b)))) (ro6 F32 (rq F (some (a, b, T2 m M a b)))) (nI p) (nI a) (nI (b + 1)) τ
            rw [new]
            by_cases d : F ≤ (T2 m M a b : Int)
            · rw [if_pos (hFt.mpr d), if_neg (show ¬ (T2 m M a b : Int) < F by omega)]
            · rw [if_neg (fun w => d (hFt.mp w)), if_pos (show (T2 m M a b : Int) < F by omega)]
              rfl
          | some z =>
            have zl : z.2.2 ≤ 396 := (hO z rfl).2.2
            have old : rq F (some z) = if (z.2.2 : Int) < F then some z else none := rfl
            show (if ro6 F32 (rq F (some z)) ≤ nI (T2 m M a b) then fX12_twice_0l137 K1 fu (nI q) l2 (ro4 (rq F (some z))) (ro5 (rq F (some z))) (ro6 F32 (rq F (some z))) (nI p) (nI a) (nI (b + 1)) τ else fX12_twice_0l137 K1 fu (nI q) l2 (nI a) (nI b) (nI (T2 m M a b)) (nI p) (nI a) (nI (b + 1)) τ) = fX12_twice_0l137 K1 fu (nI q) l2 (ro4 (rq F (if T2 m M a b < z.2.2 then some (a, b, T2 m M a b) else some z))) (ro5 (rq F (if T2 m M a b < z.2.2 then some (a, b, T2 m M a b) else some z))) (ro6 F32 (rq F (if T2 m M a b < z.2.2 then some (a, b, T2 m M a b) else some z))) (nI p) (nI a) (nI (b + 1)) τ
            by_cases zF : (z.2.2 : Int) < F
            · rw [old, if_pos zF]
              show (if nI z.2.2 ≤ nI (T2 m M a b) then _ else _) = _
              by_cases d : T2 m M a b < z.2.2
              · rw [if_neg (show ¬ nI z.2.2 ≤ nI (T2 m M a b) from fun w => absurd ((leN (by omega) (by omega)).mp w) (by omega)), if_pos d, new, if_pos (show (T2 m M a b : Int) < F by omega)]
                rfl
              · rw [if_pos (show nI z.2.2 ≤ nI (T2 m M a b) from (leN (by omega) (by omega)).mpr (by omega)), if_neg d, old, if_pos zF]
            · rw [old, if_neg zF]
              show (if F32 ≤ nI (T2 m M a b) then _ else _) = _
              by_cases d : F ≤ (T2 m M a b : Int)
              · rw [if_pos (hFt.mpr d)]
                by_cases e : T2 m M a b < z.2.2
                · rw [if_pos e, new, if_neg (show ¬ (T2 m M a b : Int) < F by omega)]
                · rw [if_neg e, old, if_neg zF]
              · rw [if_neg (fun w => d (hFt.mp w)), if_pos (show T2 m M a b < z.2.2 by omega), new, if_pos (show (T2 m M a b : Int) < F by omega)]
                rfl
theorem tr124_l {l2 F32 : Int32} {F : Int} {q p n own : Nat} {m : Nat → Nat} {M : Nat → Nat → Nat} {τ : ST} (h : TWM q p n own m M τ) (hF : ∀ x : Nat, x ≤ 396 → (F32 ≤ nI x ↔ F ≤ (x : Int))) : ∀ (fu d a : Nat) (o : Option (Nat × Nat × Nat)), a + d = p → d < fu → twOK o → fX12_twice_0l124 fu (nI q) l2 (ro4 (rq F o)) (ro5 (rq F o)) (ro6 F32 (rq F o)) (nI p) (nI a) τ = fX12_twice_0b276 l2 (ro4 (rq F (fg (fun a o => fg (fun b o => tws m M own a b o) (p - (a + 1)) (a + 1) o) d a o))) (ro5 (rq F (fg (fun a o => fg (fun b o => tws m M own a b o) (p - (a + 1)) (a + 1) o) d a o))) τ := by
  intro fu
  induction fu with
  | zero =>
    intro d a o _ h
    exact absurd h (Nat.not_lt_zero _)
  | succ fu ih =>
    intro d a o hd hf hO
    have h' := h
    obtain ⟨h1, h2, h3, h4, h5, h7, h8⟩ := h'
    cases d with
    | zero =>
      have ea : a = p := by omega
      subst ea
      show fX12_twice_0b124 (fX12_twice_0l124 fu) (nI q) l2 (ro4 (rq F o)) (ro5 (rq F o)) (ro6 F32 (rq F o)) (nI a) (nI a) τ = _
      unfold fX12_twice_0b124
      rw [if_pos ((leN (by omega) (by omega)).mpr (Nat.le_refl _))]
      rfl
    | succ d =>
      have hO2 := fg_ok (own := own) (M := M) (fun k hk => (h7 k hk).2) (show a < 9 by omega) h1 (p - (a + 1)) (a + 1) o (by omega) hO
      have k := tr137_l (K1 := fX12_twice_0l124 fu) (l2 := l2) h (show a < p by omega) hF 4096 (p - (a + 1)) (a + 1) o (by omega) (by omega) hO
      rw [ih d (a + 1) _ (by omega) (by omega) hO2] at k
      show fX12_twice_0b124 (fX12_twice_0l124 fu) (nI q) l2 (ro4 (rq F o)) (ro5 (rq F o)) (ro6 F32 (rq F o)) (nI p) (nI a) τ = _
      unfold fX12_twice_0b124 fX12_twice_0b131
      simp only [bd_e, n_add1]
      rw [if_neg (fun q => absurd ((leN (by omega) (by omega)).mp q) (by omega))]
      exact k
theorem tr42_l {l2 : Int32} {q p n own : Nat} {m : Nat → Nat} {M : Nat → Nat → Nat} {τ : ST} (h : TWM q p n own m M τ) : ∀ (fu d k : Nat), k + d = 4 → d < fu → fX12_twice_0l42 fu (nI q) l2 (nI (sumTo (fun k => ad (m k) (M own k)) k)) (nI k) τ = fX12_twice_0b88 (nI q) l2 (nI (AL m M own)) τ
  | 0, _, _, _, h => absurd h (Nat.not_lt_zero _)
  | fu + 1, 0, k, hk, _ => by
    have k4 : k = 4 := by omega
    subst k4
    show fX12_twice_0b42 (fX12_twice_0l42 fu) (nI q) l2 _ (nI 4) τ = _
    unfold fX12_twice_0b42 AL
    rw [if_pos (show 4 ≤ nI 4 by decide)]
  | fu + 1, d + 1, k, hk, hf => by
    have h' := h
    obtain ⟨h1, h2, h3, h4, h5, h7, h8⟩ := h'
    obtain ⟨m1, m2⟩ := h7 k (by omega)
    obtain ⟨a1, a2⟩ := h8 own h4 k (by omega)
    rw [← tr42_l h fu d (k + 1) (by omega) (by omega)]
    show fX12_twice_0b42 (fX12_twice_0l42 fu) (nI q) l2 (nI (sumTo (fun k => ad (m k) (M own k)) k)) (nI k) τ = fX12_twice_0l42 fu (nI q) l2 (nI (sumTo (fun k => ad (m k) (M own k)) k + ad (m k) (M own k))) (nI (k + 1)) τ
    unfold fX12_twice_0b42 fX12_twice_0b48
    rw [if_neg (show ¬ 4 ≤ nI k from fun z => absurd ((leN (a := 4) (by omega) (by omega)).mp z) (by omega))]
    simp only [bd_e, n_4mul, nI_add, n_add1, show (nI q).toNatClampNeg = q from nI_clamp (by omega), h5, show (nI (4 * q + k)).toNatClampNeg = 4 * q + k from nI_clamp (by omega), show (nI (4 * own + k)).toNatClampNeg = 4 * own + k from nI_clamp (by omega), m1, a1, size_M (a := m k) (b := M own k) (by omega) (by omega)]
theorem F32_le {A r : Nat} (hA : A ≤ 396) (hr : r ≤ 399) (x : Nat) (hx : x ≤ 396) : nI A - nI r + 1 ≤ nI x ↔ (A : Int) - r + 1 ≤ (x : Int) := by
  have s := subI (a := A) (b := r) (by omega) (by omega)
  have o1 : (1 : Int32).toInt = 1 := rfl
  have ex : (nI x).toInt = (x : Int) := nI_toInt (by omega)
  rw [Int32.le_iff_toInt_le, Int32.toInt_add, s, o1, ex, Int.bmod_eq_of_le (by omega) (by omega)]
/-- both sides' answers to a search -/
theorem two_ans {A r : Nat} {o : Option (Nat × Nat × Nat)} (hA : A ≤ 396) (hr : r ≤ 399) (hO : twOK o) {w : Int32} (hw : w = 0 ∨ w = 1) : (if (if o = none then -9 else if nI A - nI (cl o) < nI r then -9 else cf o) = -9 then -9 else if w = 0 then (if o = none then -9 else if nI A - nI (cl o) < nI r then -9 else cf o) / 9 else (if o = none then -9 else if nI A - nI (cl o) < nI r then -9 else cf o) - (if o = none then -9 else if nI A - nI (cl o) < nI r then -9 else cf o) / 9 * 9 : Int32) = if w = 0 then ro4 (rq ((A : Int) - r + 1) o) else ro5 (rq ((A : Int) - r + 1) o) := by
  cases o with
  | none =>
    rw [if_pos rfl, if_pos rfl]
    show (-9 : Int32) = if w = 0 then -9 else -9
    rcases hw with rfl | rfl <;> rfl
  | some z =>
    obtain ⟨z1, z2, z3⟩ := hO z rfl
    have s := subI (a := A) (b := z.2.2) (by omega) (by omega)
    have er : (nI r).toInt = (r : Int) := nI_toInt (by omega)
    have q : rq ((A : Int) - r + 1) (some z) = if (z.2.2 : Int) < (A : Int) - r + 1 then some z else none := rfl
    rw [if_neg (show ¬ some z = none from fun w => by cases w)]
    show (if (if nI A - nI z.2.2 < nI r then -9 else cf (some z)) = -9 then -9 else if w = 0 then (if nI A - nI z.2.2 < nI r then -9 else cf (some z)) / 9 else (if nI A - nI z.2.2 < nI r then -9 else cf (some z)) - (if nI A - nI z.2.2 < nI r then -9 else cf (some z)) / 9 * 9 : Int32) = _
    rw [q]
    by_cases c : nI A - nI z.2.2 < nI r
    · rw [if_pos c, if_pos rfl]
      rw [Int32.lt_iff_toInt_lt, s, er] at c
      rw [if_neg (show ¬ (z.2.2 : Int) < (A : Int) - r + 1 by omega)]
      show (-9 : Int32) = if w = 0 then -9 else -9
      rcases hw with rfl | rfl <;> rfl
    · rw [if_neg c]
      rw [Int32.lt_iff_toInt_lt, s, er] at c
      rw [if_pos (show (z.2.2 : Int) < (A : Int) - r + 1 by omega)]
      have n1 : ¬ cf (some z) = -9 := y_neq (z.1 * 9 + z.2.1) (by omega) (by decide)
      have d9 : cf (some z) / 9 = nI z.1 := by
        have e : nI (z.1 * 9 + z.2.1) / 9 = nI ((z.1 * 9 + z.2.1) / 9) := pk_div (d := 9) (by omega) (by omega) (by omega)
        show nI (z.1 * 9 + z.2.1) / 9 = nI z.1
        rw [e, show (z.1 * 9 + z.2.1) / 9 = z.1 by omega]
      rw [if_neg n1, d9]
      rcases hw with rfl | rfl
      · rfl
      · show cf (some z) - nI z.1 * 9 = nI z.2.1
        rw [show nI z.1 * 9 = nI (z.1 * 9) from pk_mul z.1 9]
        show nI (z.1 * 9 + z.2.1) - nI (z.1 * 9) = nI z.2.1
        rw [show nI (z.1 * 9 + z.2.1) - nI (z.1 * 9) = nI (z.1 * 9 + z.2.1 - z.1 * 9) from pk_sub (by omega), show z.1 * 9 + z.2.1 - z.1 * 9 = z.2.1 by omega]
theorem twice_X {n : Nat} (p w : Int32) {σ : ST} (h : (fX11_cutNow_0 σ).1 5 = nI n) : fX11_twice_0 p w σ = if PN p n then (if ¬ w < 0 ∧ ¬ 1 < w then (if (fX11_heapNow_0 (fX11_cutNow_0 σ)).1 = 0 then (-2, (fX11_heapNow_0 (fX11_cutNow_0 σ)).2) else fX11_twice_0b29 p w (fX11_heapNow_0 (fX11_cutNow_0 σ)).2) else (-1, fX11_cutNow_0 σ)) else (-1, fX11_cutNow_0 σ) := by
  unfold fX11_twice_0 fX11_twice_0b0 fX11_twice_0b8 fX11_twice_0b17 fX11_twice_0b19 fX11_twice_0b26
  simp only [bd_e, bp_e, isPiece_X p σ h, within_X, ite01]
  by_cases c : PN p n
  · rw [if_neg (fun q => q c), if_pos (show PN p n from c)]
    by_cases d : ¬ w < 0 ∧ ¬ 1 < w
    · rw [if_neg (fun q => q d), if_pos (show ¬ w < 0 ∧ ¬ 1 < w from d)]
    · rw [if_pos d, if_neg (show ¬ (¬ w < 0 ∧ ¬ 1 < w) from d)]
  · rw [if_pos c, if_neg (show ¬ PN p n from c)]
theorem twice_M {n : Nat} (p w : Int32) {τ : ST} (h : (fX12_findPieces_0 τ).1 35 = nI n) : fX12_twice_0 p w τ = if PN p n then (if ¬ w < 0 ∧ ¬ 1 < w then (if (fX12_findBest_0 (fX12_findPieces_0 τ)).1 = 0 then (-2, (fX12_findBest_0 (fX12_findPieces_0 τ)).2) else fX12_twice_0b33 p w (fX12_findBest_0 (fX12_findPieces_0 τ)).2) else (-1, fX12_findPieces_0 τ)) else (-1, fX12_findPieces_0 τ) := by
  unfold fX12_twice_0 fX12_twice_0b0 fX12_twice_0b12 fX12_twice_0b21 fX12_twice_0b23 fX12_twice_0b30
  simp only [bd_e, bp_e, isPiece_M p _ h, in_M, ite01]
  by_cases c : PN p n
  · rw [if_neg (fun q => q c), if_pos (show PN p n from c)]
    by_cases d : ¬ w < 0 ∧ ¬ 1 < w
    · rw [if_neg (fun q => q d), if_pos (show ¬ w < 0 ∧ ¬ 1 < w from d)]
    · rw [if_pos d, if_neg (show ¬ (¬ w < 0 ∧ ¬ 1 < w) from d)]
  · rw [if_pos c, if_neg (show ¬ PN p n from c)]
theorem twice_eq {V : Nat → Nat} {H : Nat → Bool} {c c1 N r2 r3 r4 r5 : Nat} {σ : ST} (hK : KH σ) (hB : FB V H c c1 N r2 r3 r4 r5 σ) (p w : Int32) {σ1 : ST} {v1 : Int32} (x1 : fX11_twice_0 p w σ = (v1, σ1)) : v1 = (fX12_twice_0 p w σ1).1 := by
  obtain ⟨k1, k2, k3⟩ := cutNow_X hK.1.1
  have hB0 := hB.fr k3 rfl
  have hX0 := hB0.2.1.of_kcu k1 k2
  have n48 := hX0.2.2.2.2
  have kh0 := kn_fX11_cutNow_0 hK
  rw [twice_X p w hX0.1.1] at x1
  by_cases cp : PN p (CUT V H c N).1.1
  · by_cases cw : ¬ w < 0 ∧ ¬ 1 < w
    · rw [if_pos cp, if_pos cw] at x1
      generalize gs : fX11_cutNow_0 σ = s0 at *
      obtain ⟨_, h2, h3, h4, h5⟩ := heapNow_X kh0.1 hB0.2.1
      generalize gh : fX11_heapNow_0 s0 = hs at *
      have hB1 := hB0.fr h5 rfl
      obtain ⟨q, rfl, hq⟩ := cp.nat n48
      rcases Nat.lt_or_ge 9 (CUT V H c N).1.1 with z | z
      · rw [if_pos (h3 z)] at x1
        have es := pin2 x1
        subst es
        obtain ⟨p1, p2⟩ := pieces_M hB1.1.1 hB1.1.2.2.2.2.2
        rw [twice_M (nI q) w p1.1.1, if_pos cp, if_pos cw]
        obtain ⟨_, b2, _, _⟩ := findBest_R (hB1.fr p2 rfl) h4 hB1.1.2.2.2.2.1
        rw [b2 z, if_pos rfl]
        exact (pin1 x1).symm
      · obtain ⟨q1, q2, _⟩ := h2 z
        rw [if_neg (by rw [q1]; decide)] at x1
        have r5le := hB.2.2.1
        have e5 : hs.2.2.2 1 5 = nI r5 := hB1.2.2.2.1
        have M99 : ∀ x, ∀ i, i < 4 → MH V (HS (CUT V H c N).1 (BSc V H c N r2 r4).2.2 x) N i ≤ 99 := fun x i hi => MH_le fun r hr hA => (hB1.1.2.2.2.2.1.2.2.2 r hr (HS_heard hA) i hi).2
        have m99 : ∀ k, k < 4 → MI (cvW V ((CUT V H c N).1.2.1 q).1) ((CUT V H c N).1.2.1 q).2.1 k ≤ 99 := fun k hk => MI_99 hB1.1.2.2.2.2.1 hq hk
        obtain ⟨_, _, _, _, a5⟩ := h4.1.2.1 q hq
        have hTX : TWX q (HPc V H c N r2 r4) (CUT V H c N).1.1 ((BSc V H c N r2 r4).2.2 q) (fun k => MI (cvW V ((CUT V H c N).1.2.1 q).1) ((CUT V H c N).1.2.1 q).2.1 k) (fun x k => MH V (HS (CUT V H c N).1 (BSc V H c N r2 r4).2.2 x) N k) hs.2 := ⟨q2.h10.1, q2.h10.2, h4.1.1, z, hq, (q2.h41 hq).2, fun k hk => ⟨a5 k hk, m99 k hk⟩, fun x hx k hk => ⟨q2.2.2.2.1 x hx k hk, M99 x k hk⟩⟩
        have eT := two_X hTX (q2.h41 hq).1 r5le
        have er := ruleNow_X (k := 5) (by omega) hs.2
        have z5 : (5 : Int32) = nI 5 := rfl
        have sX : (fX11_twice_0b29 (nI q) w hs.2).2 = hs.2 ∧ (fX11_twice_0b29 (nI q) w hs.2).1 = if fX4_twoInOne_0 (nI q) (nI r5) hs.2 = -9 then -9 else if w = 0 then fX4_twoInOne_0 (nI q) (nI r5) hs.2 / 9 else fX4_twoInOne_0 (nI q) (nI r5) hs.2 - fX4_twoInOne_0 (nI q) (nI r5) hs.2 / 9 * 9 := by
          unfold fX11_twice_0b29 fX11_twice_0b59 fX11_twice_0b62 fX11_twice_0b66 fX11_twice_0b73 fX11_twice_0b77
          simp only [bd_e, z5, er, e5]
          by_cases d1 : fX4_twoInOne_0 (nI q) (nI r5) hs.2 = -9
          · rw [if_pos d1, if_pos d1]
            exact ⟨rfl, rfl⟩
          · rw [if_neg d1, if_neg d1]
            by_cases d2 : w = 0
            · rw [if_pos d2, if_pos d2]
              exact ⟨rfl, rfl⟩
            · rw [if_neg d2, if_neg d2]
              exact ⟨rfl, rfl⟩
        rw [x1] at sX
        obtain ⟨es, ev⟩ := sX
        have es' : σ1 = hs.2 := es
        have ev' : v1 = _ := ev
        subst es'
        obtain ⟨p1, p2⟩ := pieces_M hB1.1.1 hB1.1.2.2.2.2.2
        rw [twice_M (nI q) w p1.1.1, if_pos cp, if_pos cw]
        obtain ⟨b1, _, _, _⟩ := findBest_R (hB1.fr p2 rfl) h4 hB1.1.2.2.2.2.1
        obtain ⟨τ1, w1, w2, _, _, w5, w6, w7⟩ := b1 z
        rw [w1, if_neg (show ¬ ((1 : Int32), τ1).1 = 0 from fun w => absurd (show (1 : Int32) = 0 from w) (by decide))]
        show v1 = (fX12_twice_0b33 (nI q) w τ1).1
        have hRG := BEST_RG (LKc V H c N r2 r4) (CUT V H c N).1.1
        have hp := RG.le _ hRG
        have f7 : Fr [(35, 39)] [(75, 86), (88, 88)] hs.2 τ1 := (p2.wide rfl rfl).call w7 rfl rfl
        have hM : HMS V H c N (BSc V H c N r2 r4).2.2 τ1 := ⟨hB1.1.2.2.2.2.2.fr f7 rfl, z, w2, w6.2.2.2, fun q hq => ⟨w5 q hq, Nat.le_of_lt (Nat.lt_of_lt_of_le (hpi_lt _ q hq) (Nat.le_trans hp z))⟩⟩
        obtain ⟨m1, m2⟩ := heapMiddles_M hRG hM
        have hM2 := hM.fr m2 rfl
        have eh := heapsIn2_M (a := (BSc V H c N r2 r4).2.2) (i := (CUT V H c N).1.1) (τ := fX12_findHeapMiddles_0 τ1) z hM2.2.2.2.2
        have b5 : ∀ k, k < 4 → (fX12_findHeapMiddles_0 τ1).2.2 78 (4 * q + k) = nI (MI (cvW V ((CUT V H c N).1.2.1 q).1) ((CUT V H c N).1.2.1 q).2.1 k) := fun k hk => by
          rw [m2.2 78 rfl]
          exact (w6.1.2 q hq).2.2.2 k hk
        have hTM : TWM q (HPc V H c N r2 r4) (CUT V H c N).1.1 ((BSc V H c N r2 r4).2.2 q) (fun k => MI (cvW V ((CUT V H c N).1.2.1 q).1) ((CUT V H c N).1.2.1 q).2.1 k) (fun x k => MH V (HS (CUT V H c N).1 (BSc V H c N r2 r4).2.2 x) N k) (fX12_findHeapMiddles_0 τ1) := ⟨q2.h10.2, z, hq, (q2.h41 hq).2, (hM2.2.2.2.2 q hq).1, fun k hk => ⟨b5 k hk, m99 k hk⟩, fun x hx k hk => ⟨m1 x hx k hk, M99 x k hk⟩⟩
        have A396 : AL (fun k => MI (cvW V ((CUT V H c N).1.2.1 q).1) ((CUT V H c N).1.2.1 q).2.1 k) (fun x k => MH V (HS (CUT V H c N).1 (BSc V H c N r2 r4).2.2 x) N k) ((BSc V H c N r2 r4).2.2 q) ≤ 396 := off1_le m99 (M99 _)
        have e665 : (fX12_findHeapMiddles_0 τ1).2.2 66 (5 : Int32).toNatClampNeg = nI r5 := by
          rw [show (5 : Int32).toNatClampNeg = 5 by decide, m2.2 66 rfl, f7.2 66 rfl]
          exact hB1.2.2.2.2.2.2.2
        generalize gA : AL (fun k => MI (cvW V ((CUT V H c N).1.2.1 q).1) ((CUT V H c N).1.2.1 q).2.1 k) (fun x k => MH V (HS (CUT V H c N).1 (BSc V H c N r2 r4).2.2 x) N k) ((BSc V H c N r2 r4).2.2 q) = A at *
        have u1 := tr42_l (l2 := w) hTM 4096 4 0 (by omega) (by omega)
        rw [gA, show nI (sumTo (fun k => ad ((fun k => MI (cvW V ((CUT V H c N).1.2.1 q).1) ((CUT V H c N).1.2.1 q).2.1 k) k) ((fun x k => MH V (HS (CUT V H c N).1 (BSc V H c N r2 r4).2.2 x) N k) ((BSc V H c N r2 r4).2.2 q) k)) 0) = (0 : Int32) from nI_0, nI_0] at u1
        have u2 := tr124_l (l2 := w) (F32 := nI A - nI r5 + 1) (F := (A : Int) - r5 + 1) hTM (fun x hx => F32_le A396 r5le x hx) 4096 (HPc V H c N r2 r4) 0 none (by omega) (Nat.lt_of_le_of_lt (Nat.le_trans (RG.le _ (BEST_RG _ _)) (show (CUT V H c N).1.1 ≤ 9 by omega)) (by omega)) (fun z e => by cases e)
        have u3 : fX12_twice_0b33 (nI q) w τ1 = fX12_twice_0b276 w (ro4 (rq ((A : Int) - r5 + 1) (TWO (fun k => MI (cvW V ((CUT V H c N).1.2.1 q).1) ((CUT V H c N).1.2.1 q).2.1 k) (fun x k => MH V (HS (CUT V H c N).1 (BSc V H c N r2 r4).2.2 x) N k) ((BSc V H c N r2 r4).2.2 q) (HPc V H c N r2 r4)))) (ro5 (rq ((A : Int) - r5 + 1) (TWO (fun k => MI (cvW V ((CUT V H c N).1.2.1 q).1) ((CUT V H c N).1.2.1 q).2.1 k) (fun x k => MH V (HS (CUT V H c N).1 (BSc V H c N r2 r4).2.2 x) N k) ((BSc V H c N r2 r4).2.2 q) (HPc V H c N r2 r4)))) (fX12_findHeapMiddles_0 τ1) := by
          refine Eq.trans ?_ u2
          unfold fX12_twice_0b33
          simp only [bd_e, u1]
          unfold fX12_twice_0b88
          simp only [bd_e, e665, hM2.2.2.1, eh]
          rw [nI_0]
          rfl
        have hO := TWO_ok (own := (BSc V H c N r2 r4).2.2 q) (p := HPc V H c N r2 r4) (M := fun x k => MH V (HS (CUT V H c N).1 (BSc V H c N r2 r4).2.2 x) N k) m99 q2.h10.2
        have an := two_ans (A := A) (r := r5) A396 r5le hO (a01 cw)
        rw [u3, ev', eT, an]
        unfold fX12_twice_0b276 fX12_twice_0b280 fX12_twice_0b285 fX12_twice_0b287
        by_cases d2 : w = 0
        · rw [if_pos d2, if_pos d2]
        · rw [if_neg d2, if_neg d2]
    · rw [if_pos cp, if_neg cw] at x1
      have es := pin2 x1
      subst es
      obtain ⟨p1, p2⟩ := pieces_M hB0.1.1 hB0.1.2.2.2.2.2
      rw [twice_M p w p1.1.1, if_pos cp, if_neg cw]
      exact (pin1 x1).symm
  · rw [if_neg cp] at x1
    have es := pin2 x1
    subst es
    obtain ⟨p1, p2⟩ := pieces_M hB0.1.1 hB0.1.2.2.2.2.2
    rw [twice_M p w p1.1.1, if_neg cp]
    exact (pin1 x1).symm
