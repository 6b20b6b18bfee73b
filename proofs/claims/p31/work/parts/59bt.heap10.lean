/-! the class's search by depth -/
/-- the pieces below i in heap v -/
def mk (a : Nat → Nat) (v : Nat) : Nat → Nat
  | 0 => 0
  | i + 1 => if a i = v then 2 ^ i + mk a v i else mk a v i
theorem mk_lt (a : Nat → Nat) (v : Nat) : ∀ i, mk a v i < 2 ^ i
  | 0 => Nat.one_pos
  | i + 1 => by
    have h := mk_lt a v i
    show (if a i = v then 2 ^ i + mk a v i else mk a v i) < 2 ^ (i + 1)
    rw [Nat.pow_succ]
    split <;> omega
theorem mk_bit (a : Nat → Nat) (v : Nat) : ∀ i k, k < i → ((mk a v i).testBit k = true ↔ a k = v)
  | 0, k, h => absurd h (Nat.not_lt_zero k)
  | i + 1, k, h => by
    have hl := mk_lt a v i
    have e : mk a v (i + 1) = if a i = v then 2 ^ i + mk a v i else mk a v i := rfl
    rw [e]
    rcases Nat.eq_or_lt_of_le (Nat.le_of_lt_succ h) with c | c
    · subst c
      by_cases d : a k = v
      · rw [if_pos d, Nat.testBit_two_pow_add_eq, Nat.testBit_lt_two_pow hl]
        exact ⟨fun _ => d, fun _ => rfl⟩
      · rw [if_neg d, Nat.testBit_lt_two_pow hl]
        exact ⟨fun q => absurd q (by decide), fun q => absurd q d⟩
    · by_cases d : a i = v
      · rw [if_pos d, Nat.testBit_two_pow_add_gt c]
        exact mk_bit a v i k c
      · rw [if_neg d]
        exact mk_bit a v i k c
theorem mk_congr {a b : Nat → Nat} (v : Nat) : ∀ i, (∀ k, k < i → a k = b k) → mk a v i = mk b v i
  | 0, _ => rfl
  | i + 1, e => by
    show (if a i = v then 2 ^ i + mk a v i else mk a v i) = (if b i = v then 2 ^ i + mk b v i else mk b v i)
    rw [mk_congr v i (fun k hk => e k (by omega)), e i (by omega)]
theorem gs_rs {L : Nat → Nat → Int32} {a : Nat → Nat} {i v : Nat} : ∀ j, j ≤ i → gs L i (mk a v i) j = rs L (stA a i v) i j
  | 0, _ => rfl
  | j + 1, h => by
    have e1 : stA a i v i = v := if_pos rfl
    have e2 : stA a i v j = a j := if_neg (by omega)
    show gs L i (mk a v i) j + (if (mk a v i).testBit j = true then L j i else 0) = rs L (stA a i v) i j + (if stA a i v i = stA a i v j then L j i else 0)
    rw [gs_rs j (by omega), e1, e2]
    have b := mk_bit a v i j (by omega)
    by_cases c : a j = v
    · rw [if_pos (b.mpr c), if_pos c.symm]
    · rw [if_neg (fun q => c (b.mp q)), if_neg (fun q => c q.symm)]
def CBB (B : BB) (n : Nat) (τ : ST) : Prop := (B.1 = true → τ.1 11 = B.2.1 ∧ τ.1 10 = nI (hpi B.2.2 n) ∧ ∀ j, j < n → τ.2.2 41 j = nI (B.2.2 j)) ∧ (¬ B.1 = true → τ.1 11 = -1000000000)
theorem meet48_l {a : Nat → Nat} {n : Nat} (hn : n ≤ 9) : ∀ (fu d j : Nat) (τ : ST), j + d = n → d < fu → (∀ k, k < n → τ.2.2 44 k = nI (a k)) → (∀ k, k < j → τ.2.2 41 k = nI (a k)) → ∃ τ', fX0_meet_0l48 fu (nI n) (nI j) τ = τ' ∧ (∀ k, k < n → τ'.2.2 41 k = nI (a k)) ∧ Fr [] [(41, 41)] τ τ' := by
  intro fu
  induction fu with
  | zero =>
    intro d j τ _ h
    exact absurd h (Nat.not_lt_zero _)
  | succ fu ih =>
    intro d j τ hd hf h44 h0
    cases d with
    | zero =>
      have ej : j = n := by omega
      subst ej
      refine ⟨τ, ?_, h0, Fr.refl τ⟩
      show fX0_meet_0b48 (fX0_meet_0l48 fu) (nI j) (nI j) τ = _
      unfold fX0_meet_0b48 fX0_meet_0b84
      rw [if_pos ((leN (by omega) (by omega)).mpr (Nat.le_refl _))]
    | succ d =>
      have e0 : fX0_meet_0l48 (fu + 1) (nI n) (nI j) τ = fX0_meet_0l48 fu (nI n) (nI (j + 1)) (sA τ 41 (upd (τ.2.2 41) j (nI (a j)))) := by
        show fX0_meet_0b48 (fX0_meet_0l48 fu) (nI n) (nI j) τ = _
        unfold fX0_meet_0b48 fX0_meet_0b54 fX0_meet_0b61
        simp only [bd_e, n_add1, show (nI j).toNatClampNeg = j from nI_clamp (by omega), h44 j (by omega)]
        rw [if_neg (fun q => absurd ((leN (by omega) (by omega)).mp q) (by omega)), if_neg (show ¬ 9 ≤ nI j from fun q => absurd ((leN (a := 9) (by omega) (by omega)).mp q) (by omega))]
      have f1 : Fr [] [(41, 41)] τ (sA τ 41 (upd (τ.2.2 41) j (nI (a j)))) := (Fr.refl τ).putA rfl
      obtain ⟨τ2, z1, z2, z3⟩ := ih d (j + 1) (sA τ 41 (upd (τ.2.2 41) j (nI (a j)))) (by omega) (by omega) (fun k hk => by rw [f1.2 44 rfl]; exact h44 k hk) (fun k hk => by
        rw [sA_eq]
        rcases Nat.eq_or_lt_of_le (Nat.le_of_lt_succ hk) with c | c
        · rw [c, pk_us]
        · rw [pk_un (by omega)]
          exact h0 k c)
      exact ⟨τ2, e0.trans z1, z2, f1.call z3 rfl rfl⟩
theorem meet_X {a : Nat → Nat} {n : Nat} {B : BB} {w : Int32} {m : Int64} {τ : ST} (hn : n ≤ 9) (h12 : τ.1 12 = 0) (h44 : ∀ k, k < n → τ.2.2 44 k = nI (a k)) (hB : CBB B n τ) (hw : ¬ w ≤ -1000000000) : CBB (bbu B w a) n (fX0_meet_0 (nI n) (nI (hpi a n)) w m τ) ∧ Fr [(10, 11)] [(41, 41)] τ (fX0_meet_0 (nI n) (nI (hpi a n)) w m τ) := by
  have e : fX0_meet_0 (nI n) (nI (hpi a n)) w m τ = if w ≤ τ.1 11 then τ else fX0_meet_0l48 4096 (nI n) (nI 0) (sI (sI τ 11 w) 10 (nI (hpi a n))) := by
    unfold fX0_meet_0 fX0_meet_0b0 fX0_meet_0b18 fX0_meet_0b29 fX0_meet_0b84
    simp only [bd_e, h12, nI_0]
    rw [if_pos trivial]
  rw [e]
  unfold bbu
  have take : CBB (true, w, a) n (fX0_meet_0l48 4096 (nI n) (nI 0) (sI (sI τ 11 w) 10 (nI (hpi a n)))) ∧ Fr [(10, 11)] [(41, 41)] τ (fX0_meet_0l48 4096 (nI n) (nI 0) (sI (sI τ 11 w) 10 (nI (hpi a n)))) := by
    have f0 : Fr [(10, 11)] [] τ (sI (sI τ 11 w) 10 (nI (hpi a n))) := ((Fr.refl τ).putI rfl).putI rfl
    obtain ⟨τ', y1, y2, y3⟩ := meet48_l hn 4096 n 0 (sI (sI τ 11 w) 10 (nI (hpi a n))) (by omega) (by omega) h44 (fun k hk => absurd hk (Nat.not_lt_zero _))
    rw [y1]
    exact ⟨⟨fun _ => ⟨by rw [y3.1 11 rfl, sI_ne _ _ rfl, sI_eq], by rw [y3.1 10 rfl, sI_eq], y2⟩, fun q => absurd rfl q⟩, (f0.wide rfl rfl).call y3 rfl rfl⟩
  by_cases c : B.1 = true
  · obtain ⟨b1, b2, b3⟩ := hB.1 c
    rw [b1]
    by_cases d : w ≤ B.2.1
    · rw [if_pos d, if_pos ⟨c, d⟩]
      exact ⟨hB, Fr.refl τ⟩
    · rw [if_neg d, if_neg (fun q => d q.2)]
      exact take
  · rw [hB.2 c, if_neg hw, if_neg (fun q => c q.1)]
    exact take
