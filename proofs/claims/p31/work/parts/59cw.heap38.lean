/-! the most that is right: two ways of going through all gifts of heaps to truths come to one -/
def gvv (g : Nat → Nat) (w : Nat → Nat → Nat) (k S : Nat) : Nat → Nat
  | 0 => g S
  | j + 1 => if S.testBit j = true then max (gvv g w k S j) (g (S - 2 ^ j) + w j k) else gvv g w k S j
/-- of k givers, K takers, those of S alone -/
def GG (w : Nat → Nat → Nat) (K : Nat) : Nat → Nat → Nat
  | 0, _ => 0
  | k + 1, S => gvv (GG w K k) w k S K
theorem gvv_0 (g : Nat → Nat) (w : Nat → Nat → Nat) (k S : Nat) : ∀ J, g S ≤ gvv g w k S J
  | 0 => Nat.le_refl _
  | J + 1 => by
    have h := gvv_0 g w k S J
    show g S ≤ if S.testBit J = true then max (gvv g w k S J) (g (S - 2 ^ J) + w J k) else gvv g w k S J
    by_cases c : S.testBit J = true
    · rw [if_pos c]
      omega
    · rw [if_neg c]
      exact h
theorem gvv_j (g : Nat → Nat) (w : Nat → Nat → Nat) (k S : Nat) {j : Nat} (hj : S.testBit j = true) : ∀ J, j < J → g (S - 2 ^ j) + w j k ≤ gvv g w k S J
  | 0, h => absurd h (Nat.not_lt_zero _)
  | J + 1, h => by
    show g (S - 2 ^ j) + w j k ≤ if S.testBit J = true then max (gvv g w k S J) (g (S - 2 ^ J) + w J k) else gvv g w k S J
    rcases Nat.eq_or_lt_of_le (Nat.le_of_lt_succ h) with d | d
    · subst d
      rw [if_pos hj]
      omega
    · have ih := gvv_j g w k S hj J d
      by_cases c : S.testBit J = true
      · rw [if_pos c]
        omega
      · rw [if_neg c]
        exact ih
theorem gvv_at (g : Nat → Nat) (w : Nat → Nat → Nat) (k S : Nat) : ∀ J, gvv g w k S J = g S ∨ ∃ j, j < J ∧ S.testBit j = true ∧ gvv g w k S J = g (S - 2 ^ j) + w j k
  | 0 => Or.inl rfl
  | J + 1 => by
    have e : gvv g w k S (J + 1) = if S.testBit J = true then max (gvv g w k S J) (g (S - 2 ^ J) + w J k) else gvv g w k S J := rfl
    have ih := gvv_at g w k S J
    rw [e]
    by_cases c : S.testBit J = true
    · rw [if_pos c]
      rcases Nat.le_total (g (S - 2 ^ J) + w J k) (gvv g w k S J) with d | d
      · rw [Nat.max_eq_left d]
        rcases ih with h | ⟨j, h1, h2, h3⟩
        · exact Or.inl h
        · exact Or.inr ⟨j, by omega, h2, h3⟩
      · rw [Nat.max_eq_right d]
        exact Or.inr ⟨J, Nat.lt_succ_self _, c, rfl⟩
    · rw [if_neg c]
      rcases ih with h | ⟨j, h1, h2, h3⟩
      · exact Or.inl h
      · exact Or.inr ⟨j, by omega, h2, h3⟩
theorem gvv_le {g : Nat → Nat} {w : Nat → Nat → Nat} {k S b : Nat} (hg : ∀ S, g S ≤ b) (hw : ∀ j k, w j k ≤ 48) : ∀ J, gvv g w k S J ≤ b + 48
  | 0 => by
    have := hg S
    show g S ≤ b + 48
    omega
  | J + 1 => by
    have h := gvv_le hg hw (k := k) (S := S) J
    have h1 := hg (S - 2 ^ J)
    have h2 := hw J k
    show (if S.testBit J = true then max (gvv g w k S J) (g (S - 2 ^ J) + w J k) else gvv g w k S J) ≤ b + 48
    by_cases c : S.testBit J = true
    · rw [if_pos c]
      omega
    · rw [if_neg c]
      exact h
theorem GG_le {w : Nat → Nat → Nat} {K : Nat} (hw : ∀ j k, w j k ≤ 48) : ∀ k S, GG w K k S ≤ 48 * k
  | 0, _ => Nat.le_refl _
  | k + 1, S => gvv_le (GG_le hw k) hw K
theorem sub_xor {S j : Nat} (hS : S < 512) (hj : j < 9) (h : S.testBit j = true) : S - 2 ^ j = S ^^^ 2 ^ j := (show ∀ S, S < 512 → ∀ j, j < 9 → S.testBit j = true → S - 2 ^ j = S ^^^ 2 ^ j by decide +kernel) S hS j hj h
theorem sub_bit {S j : Nat} (hS : S < 512) (hj : j < 9) (h : S.testBit j = true) (i : Nat) : (S - 2 ^ j).testBit i = true ↔ S.testBit i = true ∧ i ≠ j := by
  rw [sub_xor hS hj h, Nat.testBit_xor, Nat.testBit_two_pow]
  by_cases c : j = i
  · subst c
    rw [h, decide_eq_true rfl]
    exact ⟨fun w => absurd w (by decide), fun w => absurd rfl w.2⟩
  · rw [decide_eq_false c, Bool.xor_false]
    exact ⟨fun w => ⟨w, fun q => c q.symm⟩, fun w => w.1⟩
abbrev PW (a b : Nat × Nat) : Prop := a.1 ≠ b.1 ∧ a.2 ≠ b.2
def wl (w : Nat → Nat → Nat) : List (Nat × Nat) → Nat
  | [] => 0
  | x :: l => w x.1 x.2 + wl w l
theorem wl_app (w : Nat → Nat → Nat) : ∀ a b, wl w (a ++ b) = wl w a + wl w b
  | [], b => (Nat.zero_add _).symm
  | x :: a, b => by
    show w x.1 x.2 + wl w (a ++ b) = w x.1 x.2 + wl w a + wl w b
    rw [wl_app w a b]
    omega
theorem GG_up {w : Nat → Nat → Nat} {K : Nat} (hK : K ≤ 9) : ∀ k S l, S < 512 → List.Pairwise PW l → (∀ x, x ∈ l → x.1 < K ∧ S.testBit x.1 = true ∧ x.2 < k) → wl w l ≤ GG w K k S
  | 0, S, l, _, _, h => by
    cases l with
    | nil => exact Nat.le_refl _
    | cons x l => exact absurd (h x List.mem_cons_self).2.2 (Nat.not_lt_zero _)
  | k + 1, S, l, hS, hp, h => by
    by_cases c : ∃ x, x ∈ l ∧ x.2 = k
    · obtain ⟨x, hx, ex⟩ := c
      obtain ⟨l1, l2, rfl⟩ := List.append_of_mem hx
      obtain ⟨x1, x2, x3⟩ := h x hx
      have hp' := hp
      rw [List.pairwise_append] at hp'
      obtain ⟨p1, p2, p3⟩ := hp'
      rw [List.pairwise_cons] at p2
      have pr : List.Pairwise PW (l1 ++ l2) := List.pairwise_append.mpr ⟨p1, p2.2, fun a ha b hb => p3 a ha b (List.mem_cons_of_mem _ hb)⟩
      have ne : ∀ y, y ∈ l1 ++ l2 → y.1 ≠ x.1 ∧ y.2 ≠ x.2 := fun y hy => by
        rcases List.mem_append.mp hy with a | a
        · exact p3 y a x List.mem_cons_self
        · have z := p2.1 y a
          exact ⟨fun w => z.1 w.symm, fun w => z.2 w.symm⟩
      have hS' : S - 2 ^ x.1 < 512 := Nat.lt_of_le_of_lt (Nat.sub_le _ _) hS
      have ih := GG_up (w := w) hK k (S - 2 ^ x.1) (l1 ++ l2) hS' pr (fun y hy => by
        obtain ⟨n1, n2⟩ := ne y hy
        have hm : y ∈ l1 ++ x :: l2 := by
          rcases List.mem_append.mp hy with a | a
          · exact List.mem_append.mpr (Or.inl a)
          · exact List.mem_append.mpr (Or.inr (List.mem_cons_of_mem _ a))
        obtain ⟨y1, y2, y3⟩ := h y hm
        exact ⟨y1, (sub_bit hS (by omega) x2 y.1).mpr ⟨y2, n1⟩, by omega⟩)
      have ge := gvv_j (GG w K k) w k S x2 K x1
      have e1 : wl w (l1 ++ x :: l2) = wl w (l1 ++ l2) + w x.1 x.2 := by
        rw [wl_app, wl_app]
        show wl w l1 + (w x.1 x.2 + wl w l2) = _
        omega
      rw [e1, ex]
      show _ ≤ gvv (GG w K k) w k S K
      omega
    · have ih := GG_up (w := w) hK k S l hS hp (fun y hy => by
        obtain ⟨y1, y2, y3⟩ := h y hy
        have : y.2 ≠ k := fun w => c ⟨y, hy, w⟩
        exact ⟨y1, y2, by omega⟩)
      exact Nat.le_trans ih (gvv_0 (GG w K k) w k S K)
theorem GG_has {w : Nat → Nat → Nat} {K : Nat} (hK : K ≤ 9) : ∀ k S, S < 512 → ∃ l, List.Pairwise PW l ∧ (∀ x, x ∈ l → x.1 < K ∧ S.testBit x.1 = true ∧ x.2 < k) ∧ wl w l = GG w K k S
  | 0, S, _ => ⟨[], List.Pairwise.nil, fun x hx => absurd hx (List.not_mem_nil), rfl⟩
  | k + 1, S, hS => by
    rcases gvv_at (GG w K k) w k S K with h | ⟨j, h1, h2, h3⟩
    · obtain ⟨l, l1, l2, l3⟩ := GG_has hK k S hS (w := w) (K := K)
      refine ⟨l, l1, fun x hx => ?_, l3.trans h.symm⟩
      obtain ⟨y1, y2, y3⟩ := l2 x hx
      exact ⟨y1, y2, by omega⟩
    · obtain ⟨l, l1, l2, l3⟩ := GG_has hK k (S - 2 ^ j) (Nat.lt_of_le_of_lt (Nat.sub_le _ _) hS) (w := w) (K := K)
      refine ⟨(j, k) :: l, List.pairwise_cons.mpr ⟨fun x hx => ?_, l1⟩, fun x hx => ?_, ?_⟩
      · obtain ⟨y1, y2, y3⟩ := l2 x hx
        exact ⟨fun q => ((sub_bit hS (by omega) h2 x.1).mp y2).2 q.symm, fun q => by
          have : k = x.2 := q
          omega⟩
      · rcases List.mem_cons.mp hx with q | q
        · subst q
          exact ⟨h1, h2, Nat.lt_succ_self _⟩
        · obtain ⟨y1, y2, y3⟩ := l2 x q
          exact ⟨y1, ((sub_bit hS (by omega) h2 x.1).mp y2).1, by omega⟩
      · show w j k + wl w l = gvv (GG w K k) w k S K
        rw [l3, h3, Nat.add_comm]
theorem bits_511 {i : Nat} (h : i < 9) : (511 : Nat).testBit i = true := (show ∀ i, i < 9 → (511 : Nat).testBit i = true by decide) i h
theorem bits_31 {i : Nat} (h : i < 5) : (31 : Nat).testBit i = true := (show ∀ i, i < 5 → (31 : Nat).testBit i = true by decide) i h
theorem wl_swap (w : Nat → Nat → Nat) : ∀ l : List (Nat × Nat), wl (fun a b => w b a) (l.map fun x => (x.2, x.1)) = wl w l
  | [] => rfl
  | x :: l => by
    show w x.1 x.2 + wl (fun a b => w b a) (l.map fun x => (x.2, x.1)) = w x.1 x.2 + wl w l
    rw [wl_swap w l]
theorem pw_swap {l : List (Nat × Nat)} (h : List.Pairwise PW l) : List.Pairwise PW (l.map fun x => (x.2, x.1)) := List.pairwise_map.mpr (h.imp fun q => ⟨q.2, q.1⟩)
theorem wl_filter {w : Nat → Nat → Nat} {H : Nat} (h0 : ∀ t h, H ≤ h → w t h = 0) : ∀ l : List (Nat × Nat), wl w (l.filter fun x => decide (x.2 < H)) = wl w l
  | [] => rfl
  | x :: l => by
    have ih := wl_filter h0 l
    by_cases c : x.2 < H
    · have d : decide (x.2 < H) = true := decide_eq_true c
      simp only [List.filter, d]
      show w x.1 x.2 + wl w (l.filter fun x => decide (x.2 < H)) = w x.1 x.2 + wl w l
      rw [ih]
    · have d : decide (x.2 < H) = false := decide_eq_false c
      simp only [List.filter, d]
      show wl w (l.filter fun x => decide (x.2 < H)) = w x.1 x.2 + wl w l
      rw [ih, h0 x.1 x.2 (by omega), Nat.zero_add]
/-- w t h: truth t, heap h -/
theorem GG_two {w : Nat → Nat → Nat} {H : Nat} (hH : H ≤ 9) (h0 : ∀ t h, H ≤ h → w t h = 0) : GG w 5 H 31 = GG (fun h t => w t h) 9 5 511 := by
  apply Nat.le_antisymm
  · obtain ⟨l, l1, l2, l3⟩ := GG_has (w := w) (K := 5) (by omega) H 31 (by omega)
    have u := GG_up (w := fun h t => w t h) (K := 9) (Nat.le_refl _) 5 511 (l.map fun x => (x.2, x.1)) (by omega) (pw_swap l1) (fun x hx => by
      obtain ⟨y, hy, rfl⟩ := List.mem_map.mp hx
      obtain ⟨y1, _, y3⟩ := l2 y hy
      exact ⟨show y.2 < 9 by omega, bits_511 (show y.2 < 9 by omega), y1⟩)
    have e : wl (fun h t => w t h) (l.map fun x => (x.2, x.1)) = wl w l := wl_swap w l
    rw [e, l3] at u
    exact u
  · obtain ⟨l, l1, l2, l3⟩ := GG_has (w := fun h t => w t h) (K := 9) (Nat.le_refl _) 5 511 (by omega)
    have u := GG_up (w := w) (K := 5) (by omega) H 31 ((l.map fun x => (x.2, x.1)).filter fun x => decide (x.2 < H)) (by omega) (List.Pairwise.filter _ (pw_swap l1)) (fun x hx => by
      obtain ⟨a, b⟩ := List.mem_filter.mp hx
      obtain ⟨y, hy, rfl⟩ := List.mem_map.mp a
      obtain ⟨_, _, y3⟩ := l2 y hy
      exact ⟨y3, bits_31 y3, of_decide_eq_true b⟩)
    have e : wl w (l.map fun x => (x.2, x.1)) = wl (fun h t => w t h) l := wl_swap (fun h t => w t h) l
    rw [wl_filter h0, e, l3] at u
    exact u
