/-! the second way: pairs joined, the greatest first; sums, the pick, the numbering -/
def sm (f : Nat → Int32) : Nat → Int32
  | 0 => 0
  | k + 1 => sm f k + f k
theorem sm_congr {f g : Nat → Int32} : ∀ n, (∀ k, k < n → f k = g k) → sm f n = sm g n
  | 0, _ => rfl
  | n + 1, h => by
    show sm f n + f n = sm g n + g n
    rw [sm_congr n (fun k hk => h k (by omega)), h n (by omega)]
theorem sm_0 {f : Nat → Int32} : ∀ n, (∀ k, k < n → f k = 0) → sm f n = 0
  | 0, _ => rfl
  | n + 1, h => by
    show sm f n + f n = 0
    rw [sm_0 n (fun k hk => h k (by omega)), h n (by omega)]
    rfl
theorem add4 (a b c d : Int32) : a + b + (c + d) = a + c + (b + d) := by
  rw [Int32.add_assoc, Int32.add_assoc, ← Int32.add_assoc b c d, ← Int32.add_assoc c b d, Int32.add_comm b c]
theorem sm_add (f g : Nat → Int32) : ∀ n, sm (fun k => f k + g k) n = sm f n + sm g n
  | 0 => rfl
  | n + 1 => by
    show sm (fun k => f k + g k) n + (f n + g n) = sm f n + f n + (sm g n + g n)
    rw [sm_add f g n, add4]
theorem sm_swap (F : Nat → Nat → Int32) (m : Nat) : ∀ n, sm (fun p => sm (fun q => F p q) m) n = sm (fun q => sm (fun p => F p q) n) m
  | 0 => (sm_0 m fun _ _ => rfl).symm
  | n + 1 => by
    show sm (fun p => sm (fun q => F p q) m) n + sm (fun q => F n q) m = sm (fun q => sm (fun p => F p q) n + F n q) m
    rw [sm_swap F m n, sm_add]
/-- the links between heaps x and y, added -/
def SL (L : Nat → Nat → Int32) (n : Nat) (g : Nat → Nat) (x y : Nat) : Int32 := sm (fun p => sm (fun q => if g p = x ∧ g q = y then L p q else 0) n) n
theorem SL_comm {L : Nat → Nat → Int32} {n : Nat} (hs : ∀ x y, x < n → y < n → L x y = L y x) (g : Nat → Nat) (x y : Nat) : SL L n g x y = SL L n g y x := by
  unfold SL
  rw [sm_swap]
  refine sm_congr n fun q hq => sm_congr n fun p hp => ?_
  by_cases c : g p = x ∧ g q = y
  · rw [if_pos c, if_pos ⟨c.2, c.1⟩, hs p q hp hq]
  · rw [if_neg c, if_neg (fun w => c ⟨w.2, w.1⟩)]
/-- heap y goes into heap x -/
def jn (g : Nat → Nat) (x y : Nat) : Nat → Nat := fun p => if g p = y then x else g p
theorem SL_jn {L : Nat → Nat → Int32} {n : Nat} {g : Nat → Nat} {x y b : Nat} (hxy : x ≠ y) (hbx : b ≠ x) (hby : b ≠ y) : SL L n (jn g x y) x b = SL L n g x b + SL L n g y b := by
  unfold SL
  rw [← sm_add]
  refine sm_congr n fun p hp => ?_
  rw [← sm_add]
  refine sm_congr n fun q hq => ?_
  have e2 : jn g x y q = b ↔ g q = b := by
    unfold jn
    by_cases c : g q = y
    · rw [if_pos c]
      omega
    · rw [if_neg c]
  have e1 : jn g x y p = x ↔ g p = x ∨ g p = y := by
    unfold jn
    by_cases c : g p = y
    · rw [if_pos c]
      exact ⟨fun _ => Or.inr c, fun _ => rfl⟩
    · rw [if_neg c]
      exact ⟨Or.inl, fun w => w.resolve_right c⟩
  by_cases c2 : g q = b
  · by_cases c1 : g p = x
    · rw [if_pos ⟨e1.mpr (Or.inl c1), e2.mpr c2⟩, if_pos ⟨c1, c2⟩, if_neg (fun w => hxy (c1.symm.trans w.1)), Int32.add_zero]
    · by_cases c3 : g p = y
      · rw [if_pos ⟨e1.mpr (Or.inr c3), e2.mpr c2⟩, if_neg (fun w => c1 w.1), if_pos ⟨c3, c2⟩, Int32.zero_add]
      · rw [if_neg (fun w => (e1.mp w.1).elim c1 c3), if_neg (fun w => c1 w.1), if_neg (fun w => c3 w.1), Int32.add_zero]
  · rw [if_neg (fun w => c2 (e2.mp w.2)), if_neg (fun w => c2 w.2), if_neg (fun w => c2 w.2), Int32.add_zero]
theorem SL_keep {L : Nat → Nat → Int32} {n : Nat} {g : Nat → Nat} {x y a b : Nat} (ha : a ≠ x ∧ a ≠ y) (hb : b ≠ x ∧ b ≠ y) : SL L n (jn g x y) a b = SL L n g a b := by
  unfold SL
  have e : ∀ z, z ≠ x ∧ z ≠ y → ∀ q, (jn g x y q = z ↔ g q = z) := fun z hz q => by
    unfold jn
    by_cases c : g q = y
    · rw [if_pos c]
      omega
    · rw [if_neg c]
  refine sm_congr n fun p hp => sm_congr n fun q hq => ?_
  by_cases c : g p = a ∧ g q = b
  · rw [if_pos c, if_pos ⟨(e a ha p).mpr c.1, (e b hb q).mpr c.2⟩]
  · rw [if_neg c, if_neg (fun w => c ⟨(e a ha p).mp w.1, (e b hb q).mp w.2⟩)]
def fg {S : Type} (f : Nat → S → S) : Nat → Nat → S → S
  | 0, _, s => s
  | k + 1, v, s => fg f k (v + 1) (f v s)
theorem fg_ind {S : Type} {P : S → Prop} {f : Nat → S → S} : ∀ k v s, (∀ u t, v ≤ u → u < v + k → P t → P (f u t)) → P s → P (fg f k v s)
  | 0, _, _, _, h => h
  | k + 1, v, s, hf, h => fg_ind k (v + 1) (f v s) (fun u t h1 h2 ht => hf u t (by omega) (by omega) ht) (hf v s (Nat.le_refl _) (by omega) h)
/-- found or not, the two, their links -/
abbrev PK : Type := Bool × Nat × Nat × Int32
def pks (S : Nat → Nat → Int32) (g : Nat → Nat) (a b : Nat) (P : PK) : PK := if g a = a ∧ g b = b ∧ P.2.2.2 < S a b then (true, a, b, S a b) else P
def PICK (S : Nat → Nat → Int32) (n : Nat) (g : Nat → Nat) : PK := fg (fun a P => fg (fun b P => pks S g a b P) (n - (a + 1)) (a + 1) P) n 0 (false, 0, 0, 0)
/-- what a pick is: two heaps -/
def PKO (n : Nat) (g : Nat → Nat) (P : PK) : Prop := P.1 = true → P.2.1 < P.2.2.1 ∧ P.2.2.1 < n ∧ g P.2.1 = P.2.1 ∧ g P.2.2.1 = P.2.2.1
theorem PICK_ok (S : Nat → Nat → Int32) (n : Nat) (g : Nat → Nat) : PKO n g (PICK S n g) := by
  refine fg_ind n 0 _ (fun a P _ ha hP => fg_ind (n - (a + 1)) (a + 1) P (fun b Q h1 h2 hQ => ?_) hP) (fun h => absurd h (by decide))
  unfold pks
  by_cases c : g a = a ∧ g b = b ∧ Q.2.2.2 < S a b
  · rw [if_pos c]
    exact fun _ => ⟨by show a < b; omega, by show b < n; omega, c.1, c.2.1⟩
  · rw [if_neg c]
    exact hQ
def jl (L : Nat → Nat → Int32) (n : Nat) : Nat → (Nat → Nat) → Nat → Nat
  | 0, g => g
  | k + 1, g => if (PICK (SL L n g) n g).1 = true then jl L n k (jn g (PICK (SL L n g) n g).2.1 (PICK (SL L n g) n g).2.2.1) else g
/-- a heap goes by its first piece -/
def LST1 (n : Nat) (g : Nat → Nat) : Prop := ∀ p, p < n → g p ≤ p ∧ g (g p) = g p
theorem LST1.join {n : Nat} {g : Nat → Nat} {x y : Nat} (h : LST1 n g) (hxy : x < y) (gx : g x = x) : LST1 n (jn g x y) := fun p hp => by
  obtain ⟨h1, h2⟩ := h p hp
  unfold jn
  by_cases c : g p = y
  · rw [if_pos c, gx, if_neg (by omega)]
    exact ⟨by omega, rfl⟩
  · rw [if_neg c, h2, if_neg c]
    exact ⟨h1, rfl⟩
/-- heaps of the first pieces -/
def rc (g : Nat → Nat) : Nat → Nat
  | 0 => 0
  | k + 1 => rc g k + (if g k = k then 1 else 0)
theorem rc_mono (g : Nat → Nat) {k : Nat} : ∀ d, rc g k ≤ rc g (k + d)
  | 0 => Nat.le_refl _
  | d + 1 => Nat.le_trans (rc_mono g d) (Nat.le_add_right _ _)
theorem rc_le (g : Nat → Nat) : ∀ k, rc g k ≤ k
  | 0 => Nat.le_refl _
  | k + 1 => by
    have h := rc_le g k
    show rc g k + (if g k = k then 1 else 0) ≤ k + 1
    split <;> omega
theorem rc_two {g : Nat → Nat} {a b n : Nat} (hab : a < b) (hb : b < n) (ga : g a = a) (gb : g b = b) : 2 ≤ rc g n := by
  have e1 : rc g (a + 1) = rc g a + (if g a = a then 1 else 0) := rfl
  have e2 : rc g (b + 1) = rc g b + (if g b = b then 1 else 0) := rfl
  rw [if_pos ga] at e1
  rw [if_pos gb] at e2
  have m1 := rc_mono g (k := a + 1) (b - (a + 1))
  have m2 := rc_mono g (k := b + 1) (n - (b + 1))
  rw [show a + 1 + (b - (a + 1)) = b by omega] at m1
  rw [show b + 1 + (n - (b + 1)) = n by omega] at m2
  omega
theorem rc_jn {g : Nat → Nat} {x y : Nat} (hxy : x < y) (gx : g x = x) (gy : g y = y) : ∀ k, rc (jn g x y) k + (if y < k then 1 else 0) = rc g k
  | 0 => by
    rw [if_neg (Nat.not_lt_zero _)]
    rfl
  | k + 1 => by
    have ih := rc_jn hxy gx gy k
    show rc (jn g x y) k + (if jn g x y k = k then 1 else 0) + (if y < k + 1 then 1 else 0) = rc g k + (if g k = k then 1 else 0)
    have ej : jn g x y k = if g k = y then x else g k := rfl
    rw [ej]
    by_cases c : g k = y
    · rw [if_pos c]
      by_cases d : k = y
      · rw [if_neg (show ¬ x = k by omega), if_pos (show y < k + 1 by omega), if_pos (show g k = k by omega)]
        rw [if_neg (show ¬ y < k by omega)] at ih
        omega
      · have nx : ¬ x = k := fun w => by
          rw [← w] at c
          omega
        rw [if_neg nx, if_neg (show ¬ g k = k by omega)]
        by_cases e : y < k
        · rw [if_pos (show y < k + 1 by omega)]
          rw [if_pos e] at ih
          omega
        · rw [if_neg (show ¬ y < k + 1 by omega)]
          rw [if_neg e] at ih
          omega
    · rw [if_neg c]
      have ny : ¬ k = y := fun w => c (by rw [w]; exact gy)
      by_cases e : y < k
      · rw [if_pos (show y < k + 1 by omega)]
        rw [if_pos e] at ih
        omega
      · rw [if_neg (show ¬ y < k + 1 by omega)]
        rw [if_neg e] at ih
        omega
/-- the number of the heap of piece p -/
def JN (g : Nat → Nat) (p : Nat) : Nat := rc g (g p)
theorem JN_hpi {g : Nat → Nat} : ∀ n, LST1 n g → hpi (JN g) n = rc g n
  | 0, _ => rfl
  | n + 1, h => by
    have ih := JN_hpi n (fun p hp => h p (by omega))
    obtain ⟨h1, h2⟩ := h n (by omega)
    show max (hpi (JN g) n) (rc g (g n) + 1) = rc g n + (if g n = n then 1 else 0)
    rw [ih]
    by_cases c : g n = n
    · rw [if_pos c, c]
      omega
    · rw [if_neg c]
      have e : rc g (g n + 1) = rc g (g n) + (if g (g n) = g n then 1 else 0) := rfl
      rw [if_pos h2] at e
      have m := rc_mono g (k := g n + 1) (n - (g n + 1))
      rw [show g n + 1 + (n - (g n + 1)) = n by omega] at m
      omega
/-- all joined -/
def GJ (L : Nat → Nat → Int32) (n : Nat) : Nat → Nat := jl L n n (fun p => p)
theorem jl_lst {L : Nat → Nat → Int32} {n : Nat} : ∀ k g, LST1 n g → LST1 n (jl L n k g)
  | 0, _, h => h
  | k + 1, g, h => by
    show LST1 n (if (PICK (SL L n g) n g).1 = true then jl L n k (jn g (PICK (SL L n g) n g).2.1 (PICK (SL L n g) n g).2.2.1) else g)
    by_cases c : (PICK (SL L n g) n g).1 = true
    · obtain ⟨p1, p2, p3, p4⟩ := PICK_ok (SL L n g) n g c
      rw [if_pos c]
      exact jl_lst k _ (h.join p1 p3)
    · rw [if_neg c]
      exact h
theorem GJ_lst (L : Nat → Nat → Int32) (n : Nat) : LST1 n (GJ L n) := jl_lst n _ fun p _ => ⟨Nat.le_refl _, rfl⟩
