/-! sorted rows, middles and spreads, on Nat -/
def ad (a b : Nat) : Nat := (a - b) + (b - a)
/-- x put into the n first of L, behind its equals -/
def insV (L : Nat → Nat) (x : Nat) : Nat → Nat → Nat
  | 0, j => if j = 0 then x else L j
  | n + 1, j => if L n ≤ x then (if j = n + 1 then x else L j) else (if j = n + 1 then L n else insV L x n j)
def sumTo (g : Nat → Nat) : Nat → Nat
  | 0 => 0
  | n + 1 => sumTo g n + g n
theorem sumTo_congr {g h : Nat → Nat} : ∀ n, (∀ j, j < n → g j = h j) → sumTo g n = sumTo h n
  | 0, _ => rfl
  | n + 1, e => by
    show sumTo g n + g n = sumTo h n + h n
    rw [sumTo_congr n (fun j hj => e j (by omega)), e n (by omega)]
theorem sumTo_le {g : Nat → Nat} {b : Nat} : ∀ n, (∀ j, j < n → g j ≤ b) → sumTo g n ≤ n * b
  | 0, _ => Nat.zero_le _
  | n + 1, e => by
    have h1 := sumTo_le (g := g) (b := b) n (fun j hj => e j (by omega))
    have h2 := e n (by omega)
    show sumTo g n + g n ≤ (n + 1) * b
    rw [Nat.succ_mul]
    omega
theorem sum_ins {L g : Nat → Nat} {x : Nat} : ∀ n, sumTo (fun j => g (insV L x n j)) (n + 1) = sumTo (fun j => g (L j)) n + g x
  | 0 => by
    show 0 + g (if 0 = 0 then x else L 0) = 0 + g x
    rw [if_pos rfl]
  | n + 1 => by
    show sumTo (fun j => g (insV L x (n + 1) j)) (n + 1) + g (insV L x (n + 1) (n + 1)) = sumTo (fun j => g (L j)) n + g (L n) + g x
    by_cases c : L n ≤ x
    · have e1 : sumTo (fun j => g (insV L x (n + 1) j)) (n + 1) = sumTo (fun j => g (L j)) (n + 1) := sumTo_congr _ fun j hj => by
        show g (if L n ≤ x then (if j = n + 1 then x else L j) else _) = _
        rw [if_pos c, if_neg (by omega)]
      have e2 : insV L x (n + 1) (n + 1) = x := by
        show (if L n ≤ x then (if n + 1 = n + 1 then x else L (n + 1)) else _) = _
        rw [if_pos c, if_pos rfl]
      rw [e1, e2]
      rfl
    · have e1 : sumTo (fun j => g (insV L x (n + 1) j)) (n + 1) = sumTo (fun j => g (insV L x n j)) (n + 1) := sumTo_congr _ fun j hj => by
        show g (if L n ≤ x then _ else (if j = n + 1 then L n else insV L x n j)) = _
        rw [if_neg c, if_neg (by omega)]
      have e2 : insV L x (n + 1) (n + 1) = L n := by
        show (if L n ≤ x then _ else (if n + 1 = n + 1 then L n else insV L x n (n + 1))) = _
        rw [if_neg c, if_pos rfl]
      rw [e1, e2, sum_ins n]
      omega
theorem ins_pos {L : Nat → Nat} {x : Nat} : ∀ n, ∃ p, p ≤ n ∧ (p = 0 ∨ L (p - 1) ≤ x) ∧ (∀ j, p ≤ j → j < n → x < L j) ∧ (∀ j, j < p → insV L x n j = L j) ∧ insV L x n p = x ∧ (∀ j, p < j → j ≤ n → insV L x n j = L (j - 1))
  | 0 => ⟨0, Nat.le_refl _, Or.inl rfl, fun j _ h => absurd h (Nat.not_lt_zero _), fun j h => absurd h (Nat.not_lt_zero _), if_pos rfl, fun j h1 h2 => by omega⟩
  | n + 1 => by
    by_cases c : L n ≤ x
    · have e : ∀ j, insV L x (n + 1) j = if j = n + 1 then x else L j := fun j => if_pos c
      exact ⟨n + 1, Nat.le_refl _, Or.inr c, fun j h1 h2 => by omega, fun j h => by rw [e, if_neg (by omega)], by rw [e, if_pos rfl], fun j h1 h2 => by omega⟩
    · have e : ∀ j, insV L x (n + 1) j = if j = n + 1 then L n else insV L x n j := fun j => if_neg c
      obtain ⟨p, h1, h2, h3, h4, h5, h6⟩ := ins_pos (L := L) (x := x) n
      refine ⟨p, by omega, h2, fun j a b => ?_, fun j a => ?_, ?_, fun j a b => ?_⟩
      · rcases Nat.lt_or_ge j n with q | q
        · exact h3 j a q
        · rw [show j = n by omega]
          omega
      · rw [e, if_neg (by omega), h4 j a]
      · rw [e, if_neg (by omega), h5]
      · rw [e]
        by_cases q : j = n + 1
        · rw [if_pos q, q]
          rfl
        · rw [if_neg q, h6 j a (by omega)]
def SRTD (L : Nat → Nat) (n : Nat) : Prop := ∀ i j, i ≤ j → j < n → L i ≤ L j
theorem ins_sorted {L : Nat → Nat} {x n : Nat} (h : SRTD L n) : SRTD (insV L x n) (n + 1) := by
  intro i j hij hj
  obtain ⟨p, h1, h2, h3, h4, h5, h6⟩ := ins_pos (L := L) (x := x) n
  rcases Nat.lt_trichotomy i p with a | a | a
  · rw [h4 i a]
    rcases Nat.lt_trichotomy j p with b | b | b
    · rw [h4 j b]
      exact h i j hij (by omega)
    · rw [b, h5]
      have q := h i (p - 1) (by omega) (by omega)
      omega
    · rw [h6 j b (by omega)]
      exact h i (j - 1) (by omega) (by omega)
  · rcases Nat.lt_or_ge p j with b | b
    · rw [a, h5, h6 j b (by omega)]
      have q := h3 (j - 1) (by omega) (by omega)
      omega
    · rw [show j = i by omega]
      exact Nat.le_refl _
  · rw [h6 i a (by omega), h6 j (by omega) (by omega)]
    exact h (i - 1) (j - 1) (by omega) (by omega)
/-- the n first of v, sorted as they come -/
def srt (v : Nat → Nat) : Nat → Nat → Nat
  | 0 => fun _ => 0
  | n + 1 => insV (srt v n) (v n) n
theorem srt_sorted (v : Nat → Nat) : ∀ n, SRTD (srt v n) n
  | 0 => fun _ j _ h => absurd h (Nat.not_lt_zero j)
  | n + 1 => ins_sorted (srt_sorted v n)
theorem ins_le {L : Nat → Nat} {x b : Nat} (hx : x ≤ b) : ∀ n, (∀ j, j < n → L j ≤ b) → ∀ j, j < n + 1 → insV L x n j ≤ b := by
  intro n h j hj
  obtain ⟨p, h1, h2, h3, h4, h5, h6⟩ := ins_pos (L := L) (x := x) n
  rcases Nat.lt_trichotomy j p with a | a | a
  · rw [h4 j a]
    exact h j (by omega)
  · rw [a, h5]
    exact hx
  · rw [h6 j a (by omega)]
    exact h (j - 1) (by omega)
theorem srt_le {v : Nat → Nat} {b : Nat} : ∀ n, (∀ j, j < n → v j ≤ b) → ∀ j, j < n → srt v n j ≤ b
  | 0, _, j, h => absurd h (Nat.not_lt_zero j)
  | n + 1, e, j, h => ins_le (e n (by omega)) n (fun i hi => srt_le n (fun k hk => e k (by omega)) i hi) j h
def Dv (L : Nat → Nat) (n c : Nat) : Nat := sumTo (fun j => ad (L j) c) n
/-- the spread of the n first of the sorted L about their middle -/
def DD (L : Nat → Nat) (n : Nat) : Nat := Dv L n (L ((n - 1) / 2))
theorem Dv_low {L : Nat → Nat} {c d : Nat} : ∀ i, (∀ j, j < i → L j ≤ c) → Dv L i (c + d) = Dv L i c + i * d
  | 0, _ => by rw [Nat.zero_mul]; rfl
  | i + 1, h => by
    have h1 := Dv_low (L := L) (c := c) (d := d) i (fun j hj => h j (by omega))
    have h2 := h i (by omega)
    show Dv L i (c + d) + ad (L i) (c + d) = Dv L i c + ad (L i) c + (i + 1) * d
    rw [h1, Nat.succ_mul]
    unfold ad
    omega
theorem Dv_high {L : Nat → Nat} {c d i : Nat} : ∀ m, (∀ j, i ≤ j → j < i + m → c + d ≤ L j) → Dv L (i + m) (c + d) + m * d + Dv L i c = Dv L (i + m) c + Dv L i (c + d)
  | 0, _ => by rw [Nat.zero_mul]; show Dv L i (c + d) + 0 + Dv L i c = Dv L i c + Dv L i (c + d); omega
  | m + 1, h => by
    have h1 := Dv_high (L := L) (c := c) (d := d) (i := i) m (fun j a b => h j a (by omega))
    have h2 := h (i + m) (by omega) (by omega)
    show Dv L (i + m) (c + d) + ad (L (i + m)) (c + d) + (m + 1) * d + Dv L i c = Dv L (i + m) c + ad (L (i + m)) c + Dv L i (c + d)
    rw [Nat.succ_mul]
    unfold ad
    omega
theorem Dv_bal {L : Nat → Nat} {c c' i m : Nat} (hc : c ≤ c') (h1 : ∀ j, j < i → L j ≤ c) (h2 : ∀ j, i ≤ j → j < i + m → c' ≤ L j) : Dv L (i + m) c' + m * (c' - c) = Dv L (i + m) c + i * (c' - c) := by
  obtain ⟨d, rfl⟩ : ∃ d, c' = c + d := ⟨c' - c, by omega⟩
  have a := Dv_low (L := L) (c := c) (d := d) i h1
  have b := Dv_high (L := L) (c := c) (d := d) (i := i) m h2
  rw [show c + d - c = d by omega]
  omega
theorem Dv_ins {L : Nat → Nat} {x n c : Nat} : Dv (insV L x n) (n + 1) c = Dv L n c + ad x c := sum_ins (L := L) (g := fun y => ad y c) n
theorem DD_step {L : Nat → Nat} {x n : Nat} (hs : SRTD L n) (hn : 1 ≤ n) : DD (insV L x n) (n + 1) = DD L n + max (L ((n - 1) / 2) - x) (x - L (n / 2)) := by
  unfold DD
  rw [Dv_ins, show (n + 1 - 1) / 2 = n / 2 by omega]
  obtain ⟨p, h1, h2, h3, h4, h5, h6⟩ := ins_pos (L := L) (x := x) n
  rcases (show (∃ h, n = 2 * h + 1) ∨ (∃ h, n = 2 * h + 2) by
    rcases Nat.mod_two_eq_zero_or_one n with q | q
    · exact Or.inr ⟨n / 2 - 1, by omega⟩
    · exact Or.inl ⟨n / 2, by omega⟩) with ⟨h, e⟩ | ⟨h, e⟩
  · rw [show (n - 1) / 2 = h by omega, show n / 2 = h by omega]
    rcases Nat.lt_or_ge h p with a | a
    · rw [h4 h a]
      have q := hs h (p - 1) (by omega) (by omega)
      have q2 : L (p - 1) ≤ x := h2.resolve_left (by omega)
      unfold ad
      omega
    · have m1 : x ≤ insV L x n h ∧ insV L x n h ≤ L h ∧ ∀ j, j < h → L j ≤ insV L x n h := by
        rcases Nat.eq_or_lt_of_le a with b | b
        · subst b
          rw [h5]
          refine ⟨Nat.le_refl _, Nat.le_of_lt (h3 p (Nat.le_refl _) (by omega)), fun j hj => ?_⟩
          have q := hs j (p - 1) (by omega) (by omega)
          have q2 : L (p - 1) ≤ x := h2.resolve_left (by omega)
          omega
        · rw [h6 h b (by omega)]
          exact ⟨Nat.le_of_lt (h3 (h - 1) (by omega) (by omega)), hs _ _ (by omega) (by omega), fun j hj => hs _ _ (by omega) (by omega)⟩
      have q := Dv_bal (L := L) (i := h) (m := h + 1) m1.2.1 m1.2.2 (fun j a b => hs h j a (by omega))
      rw [show h + (h + 1) = n by omega, Nat.succ_mul] at q
      have q2 := h3 h a (by omega)
      unfold ad
      omega
  · rw [show (n - 1) / 2 = h by omega, show n / 2 = h + 1 by omega]
    have hh := hs h (h + 1) (by omega) (by omega)
    rcases Nat.lt_trichotomy p (h + 1) with a | a | a
    · rw [h6 (h + 1) a (by omega), show h + 1 - 1 = h by omega]
      have q := h3 h (by omega) (by omega)
      unfold ad
      omega
    · rw [← a, h5, a]
      have q2 : L h ≤ x := by
        have := h2.resolve_left (by omega)
        rw [show p - 1 = h by omega] at this
        exact this
      have q3 := h3 (h + 1) (by omega) (by omega)
      have q := Dv_bal (L := L) (i := h + 1) (m := h + 1) q2 (fun j b => hs j h (by omega) (by omega)) (fun j b c => Nat.le_trans (Nat.le_of_lt q3) (hs (h + 1) j b (by omega)))
      rw [show h + 1 + (h + 1) = n by omega] at q
      unfold ad
      omega
    · rw [h4 (h + 1) a]
      have q2 : L (p - 1) ≤ x := h2.resolve_left (by omega)
      have q3 := hs (h + 1) (p - 1) (by omega) (by omega)
      have q := Dv_bal (L := L) (i := h + 1) (m := h + 1) hh (fun j b => hs j h (by omega) (by omega)) (fun j b c => hs (h + 1) j b (by omega))
      rw [show h + 1 + (h + 1) = n by omega] at q
      unfold ad
      omega
theorem DD_one {L : Nat → Nat} {x : Nat} : DD (insV L x 0) 1 = 0 := by
  show 0 + ad (if 0 = 0 then x else L 0) (if 0 = 0 then x else L 0) = 0
  unfold ad
  omega
