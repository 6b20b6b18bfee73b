/-! bits; the class's search for near ones -/
theorem bt_or (x y : Int64) (t : Nat) : bt64 (x ||| y) t = (bt64 x t || bt64 y t) := by
  unfold bt64
  rw [Int64.toBitVec_or, BitVec.getLsbD_or]
theorem bt_and (x y : Int64) (t : Nat) : bt64 (x &&& y) t = (bt64 x t && bt64 y t) := by
  unfold bt64
  rw [Int64.toBitVec_and, BitVec.getLsbD_and]
theorem bt_0 (t : Nat) : bt64 0 t = false := by
  unfold bt64
  show (0#64).getLsbD t = false
  exact BitVec.getLsbD_zero
theorem bt_m1 {t : Nat} (h : t < 64) : bt64 (-1) t = true := by
  unfold bt64
  show (BitVec.allOnes 64).getLsbD t = true
  rw [BitVec.getLsbD_allOnes]
  exact decide_eq_true h
theorem bt_nI {x : Nat} (hx : x < 512) (t : Nat) : bt64 (nI x).toInt64 t = x.testBit t := by
  unfold bt64
  rw [Int32.toBitVec_toInt64, BitVec.getLsbD_signExtend]
  have e : (nI x).toBitVec = BitVec.ofNat 32 x := rfl
  rw [e]
  by_cases c : t < 32
  · rw [if_pos c, decide_eq_true (show t < 64 by omega), Bool.true_and, BitVec.getLsbD_ofNat, decide_eq_true c, Bool.true_and]
  · have hp : x < 2 ^ t := Nat.lt_of_lt_of_le (show x < 2 ^ 9 from hx) (Nat.pow_le_pow_right (by omega) (by omega))
    have hm : (BitVec.ofNat 32 x).msb = false := by
      rw [BitVec.msb_eq_getLsbD_last, BitVec.getLsbD_ofNat, Nat.testBit_lt_two_pow (show x < 2 ^ 31 by omega), Bool.and_false]
    rw [if_neg c, hm, Bool.and_false, Nat.testBit_lt_two_pow hp]
theorem bt_sh (k : Nat) (hk : k < 64) : (((nI k).toInt64 &&& 63).toBitVec.smod 64).toNat = k := (show ∀ k, k < 64 → (((nI k).toInt64 &&& 63).toBitVec.smod 64).toNat = k by decide +kernel) k hk
theorem bt_shl {y : Int64} {k : Nat} (hk : k < 64) (u : Nat) : bt64 (y <<< ((nI k).toInt64 &&& 63)) u = (decide (k ≤ u ∧ u < 64) && bt64 y (u - k)) := by
  unfold bt64
  rw [Int64.toBitVec_shiftLeft, BitVec.shiftLeft_eq', bt_sh k hk, BitVec.getLsbD_shiftLeft]
  congr 1
  by_cases a : k ≤ u
  · by_cases b : u < 64
    · rw [decide_eq_true b, decide_eq_false (show ¬ u < k by omega), decide_eq_true (show k ≤ u ∧ u < 64 from ⟨a, b⟩)]
      rfl
    · rw [decide_eq_false b, decide_eq_false (fun w => b (And.right w))]
      rfl
  · rw [decide_eq_true (show u < k by omega), decide_eq_false (fun w => a (And.left w)), Bool.not_true, Bool.and_false]
theorem bt_1 {t : Nat} (ht : t < 64) (u : Nat) : bt64 ((1 : Int64) <<< ((nI t).toInt64 &&& 63)) u = decide (u = t) := by
  have e1 : (1 : Int64) = (nI 1).toInt64 := by decide
  rw [bt_shl ht, e1, bt_nI (by omega)]
  by_cases c : u = t
  · subst c
    rw [decide_eq_true (show u ≤ u ∧ u < 64 from ⟨Nat.le_refl _, ht⟩), Nat.sub_self, decide_eq_true rfl]
    rfl
  · rw [decide_eq_false c]
    by_cases d : t ≤ u
    · rw [show (1 : Nat) = 2 ^ 0 from rfl, Nat.testBit_two_pow_of_ne (by omega), Bool.and_false]
    · rw [decide_eq_false (fun w => d (And.left w)), Bool.false_and]
theorem bt_eq0 {x : Int64} : x = 0 ↔ ∀ t, t < 64 → bt64 x t = false := by
  constructor
  · intro h t _
    rw [h]
    unfold bt64
    exact BitVec.getLsbD_zero
  · intro h
    apply Int64.toBitVec_inj.mp
    apply BitVec.eq_of_getLsbD_eq
    intro i hi
    have := h i hi
    unfold bt64 at this
    rw [this]
    exact BitVec.getLsbD_zero.symm
theorem bt_and1 {x : Int64} {t : Nat} (ht : t < 64) : (x &&& ((1 : Int64) <<< ((nI t).toInt64 &&& 63))) = 0 ↔ bt64 x t = false := by
  rw [bt_eq0]
  have e : ∀ u, bt64 (x &&& ((1 : Int64) <<< ((nI t).toInt64 &&& 63))) u = (bt64 x u && decide (u = t)) := fun u => by
    have z := bt_1 ht u
    unfold bt64 at z ⊢
    rw [Int64.toBitVec_and, BitVec.getLsbD_and, z]
  constructor
  · intro h
    have z := h t ht
    rw [e, decide_eq_true rfl, Bool.and_true] at z
    exact z
  · intro h u _
    rw [e]
    by_cases c : u = t
    · rw [c, h, Bool.false_and]
    · rw [decide_eq_false c, Bool.and_false]
theorem tri_s {hi : Nat} (h : hi < 9) : tri (hi + 1) = tri hi + hi ∧ tri hi ≤ 36 := (show ∀ hi, hi < 9 → tri (hi + 1) = tri hi + hi ∧ tri hi ≤ 36 by decide) hi h
theorem tri_m {a b : Nat} (hab : a < b) (hb : b ≤ 9) : tri a + a ≤ tri b := (show ∀ b, b < 10 → ∀ a, a < b → tri a + a ≤ tri b by decide) b (by omega) a hab
theorem pop_X {i : Nat} (hi : i < 9) (σ : ST) : fX0_placeOfPairs_0 (nI i) σ = nI (tri i) := by
  unfold fX0_placeOfPairs_0 fX0_placeOfPairs_0b0
  simp only [bd_e]
  exact (show ∀ i, i < 9 → nI i * (nI i - 1) / 2 = nI (tri i) by decide +kernel) i hi
/-- which of the i first are in one heap, as bits -/
def PRS (a : Nat → Nat) (i : Nat) (m : Int64) : Prop := (∀ hi lo, lo < hi → hi < i → bt64 m (tri hi + lo) = decide (a hi = a lo)) ∧ ∀ t, tri i ≤ t → bt64 m t = false
theorem PRS.step {a : Nat → Nat} {i v : Nat} {m : Int64} (h : PRS a i m) (hi9 : i < 9) : PRS (stA a i v) (i + 1) (m ||| (nI (mk a v i)).toInt64 <<< ((nI (tri i)).toInt64 &&& 63)) := by
  have ml := mk_lt a v i
  have p9 := pow9 (show i ≤ 9 by omega)
  obtain ⟨ts, t36⟩ := tri_s hi9
  have pre : ∀ j, j < i → stA a i v j = a j := fun j hj => if_neg (by omega)
  have at_i : stA a i v i = v := if_pos rfl
  have p512 : mk a v i < 512 := by omega
  refine ⟨fun hi lo h1 h2 => ?_, fun t ht => ?_⟩
  · rw [bt_or, bt_shl (by omega)]
    rcases Nat.eq_or_lt_of_le (Nat.le_of_lt_succ h2) with c | c
    · subst c
      rw [h.2 _ (by omega), Bool.false_or, decide_eq_true (show tri hi ≤ tri hi + lo ∧ tri hi + lo < 64 by omega), Bool.true_and, show tri hi + lo - tri hi = lo by omega, bt_nI p512, at_i, pre lo h1]
      have b := mk_bit a v hi lo h1
      by_cases d : a lo = v
      · rw [b.mpr d, decide_eq_true d.symm]
      · rw [decide_eq_false (fun w => d w.symm)]
        cases e : (mk a v hi).testBit lo
        · rfl
        · exact absurd (b.mp e) d
    · have tm := tri_m c (by omega)
      rw [h.1 hi lo h1 c, decide_eq_false (show ¬ (tri i ≤ tri hi + lo ∧ tri hi + lo < 64) by omega), Bool.false_and, Bool.or_false, pre hi c, pre lo (by omega)]
  · rw [bt_or, bt_shl (by omega), h.2 t (by omega), Bool.false_or]
    by_cases d : tri i ≤ t ∧ t < 64
    · rw [decide_eq_true d, Bool.true_and, bt_nI p512, Nat.testBit_lt_two_pow (Nat.lt_of_lt_of_le ml (Nat.pow_le_pow_right (by omega) (by omega)))]
    · rw [decide_eq_false d, Bool.false_and]
theorem few_le (n : Nat) : ∀ (l : List (Nat → Nat)) (m : Nat), l.foldl (fun m a => min m (hpi a n)) m ≤ m
  | [], m => Nat.le_refl m
  | a :: l, m => Nat.le_trans (few_le n l (min m (hpi a n))) (Nat.min_le_left _ _)
/-- near ones, and that the numbers are small -/
def NIV (n : Nat) (l : List (Nat → Nat)) (σ : ST) : Prop := NRS n l σ ∧ few n l ≤ 9 ∧ mst n l ≤ 10
theorem NIV.fr {n : Nat} {l : List (Nat → Nat)} {I J : List (Nat × Nat)} {σ τ : ST} (h : NIV n l σ) (f : Fr I J σ τ) (h1 : [14, 15, 16].all (fun k => !inR I k) = true) (hl : LQ (σ.2.1 0) (σ.2.1 1) τ) : NIV n l τ := ⟨h.1.fr f h1 hl, h.2⟩
theorem meetNear_X {L : Nat → Nat → Int32} {n : Nat} {T : Int32} {l : List (Nat → Nat)} {a : Nat → Nat} {m : Int64} {τ : ST} (hn : n ≤ 9) (hp : hpi a n ≤ 9) (h12 : τ.1 12 = 1) (h13 : τ.1 13 = T) (hm : PRS a n m) (h : NIV n (NRL L n T l) τ) : NIV n (NRL L n T (l ++ [a])) (fX0_meet_0 (nI n) (nI (hpi a n)) (WO L a n) m τ) ∧ Fr [(14, 16)] [] τ (fX0_meet_0 (nI n) (nI (hpi a n)) (WO L a n) m τ) := by
  have e0 : fX0_meet_0 (nI n) (nI (hpi a n)) (WO L a n) m τ = fX0_meetNear_0 (nI (hpi a n)) (WO L a n) m τ := by
    unfold fX0_meet_0 fX0_meet_0b0 fX0_meet_0b7 fX0_meet_0b84
    simp only [bd_e, h12]
    rw [if_neg (show ¬ (1 : Int32) = 0 by decide)]
  have ef : NRL L n T (l ++ [a]) = NRL L n T l ++ (if WO L a n < T then [] else [a]) := by
    unfold NRL
    rw [List.filter_append]
    congr 1
    by_cases c : WO L a n < T
    · have d : decide (¬ WO L a n < T) = false := decide_eq_false (fun w => w c)
      rw [if_pos c]
      simp only [List.filter, d]
    · have d : decide (¬ WO L a n < T) = true := decide_eq_true c
      rw [if_neg c]
      simp only [List.filter, d]
  rw [e0, ef]
  unfold fX0_meetNear_0 fX0_meetNear_0b0 fX0_meetNear_0b62
  simp only [bd_e, h13]
  by_cases c : WO L a n < T
  · rw [if_pos c, if_pos c, List.append_nil]
    exact ⟨h, Fr.refl τ⟩
  · rw [if_neg c, if_neg c]
    generalize NRL L n T l = R at *
    obtain ⟨⟨n1, n2, n3, n4⟩, n5, n6⟩ := h
    have m1 : (if nI (hpi a n) < nI (few n R) then nI (hpi a n) else nI (few n R)) = nI (min (few n R) (hpi a n)) := by
      by_cases q : hpi a n < few n R
      · rw [if_pos ((nI_ltI (by omega) (by omega)).mpr q), show min (few n R) (hpi a n) = hpi a n by omega]
      · rw [if_neg (fun z => q (y_lt (by omega) (by omega) z)), show min (few n R) (hpi a n) = few n R by omega]
    have m2 : (if nI (mst n R) < nI (hpi a n) then nI (hpi a n) else nI (mst n R)) = nI (max (mst n R) (hpi a n)) := by
      by_cases q : mst n R < hpi a n
      · rw [if_pos ((nI_ltI (by omega) (by omega)).mpr q), show max (mst n R) (hpi a n) = hpi a n by omega]
      · rw [if_neg (fun z => q (y_lt (by omega) (by omega) z)), show max (mst n R) (hpi a n) = mst n R by omega]
    have f1 : few n (R ++ [a]) = min (few n R) (hpi a n) := by
      unfold few
      rw [List.foldl_append]
      rfl
    have f2 : mst n (R ++ [a]) = max (mst n R) (hpi a n) := by
      unfold mst
      rw [List.foldl_append]
      rfl
    generalize g1 : sI τ 14 (nI (R.length + 1)) = τ1
    generalize g2 : sI τ1 15 (nI (min (few n R) (hpi a n))) = τ2
    generalize g3 : sI τ2 16 (nI (max (mst n R) (hpi a n))) = τ3
    have e15 : τ1.1 15 = nI (few n R) := by rw [← g1, sI_ne _ _ rfl, n2]
    have e16 : τ2.1 16 = nI (mst n R) := by rw [← g2, sI_ne _ _ rfl, ← g1, sI_ne _ _ rfl, n3]
    have l3 : τ3.2.1 = τ.2.1 := by
      rw [← g3, ← g2, ← g1]
      rfl
    generalize g4 : sL τ3 0 (τ3.2.1 0 &&& m) = τ4
    generalize g5 : sL τ4 1 (τ4.2.1 1 ||| m) = τ5
    have e8 : fX0_meetNear_0b8 (nI (hpi a n)) m τ = τ5 := by
      unfold fX0_meetNear_0b8 fX0_meetNear_0b62
      simp only [bd_e, n1, n_add1, g1, e15, m1, g2, e16, m2, g3, g4, g5]
    have l0 : τ5.2.1 0 = τ.2.1 0 &&& m := by
      rw [← g5, ← g4, ← l3]
      rfl
    have l1 : τ5.2.1 1 = τ.2.1 1 ||| m := by
      rw [← g5, ← g4, ← l3]
      rfl
    have i5 : τ5.1 = τ3.1 := by
      rw [← g5, ← g4]
      rfl
    have a5 : τ5.2.2 = τ.2.2 := by
      rw [← g5, ← g4, ← g3, ← g2, ← g1]
      rfl
    rw [e8]
    refine ⟨⟨⟨?_, ?_, ?_, fun hi lo hlo hhi => ?_⟩, by rw [f1]; omega, by rw [f2]; omega⟩, ?_⟩
    · rw [i5, ← g3, sI_ne _ _ rfl, ← g2, sI_ne _ _ rfl, ← g1, sI_eq, List.length_append]
      rfl
    · rw [i5, ← g3, sI_ne _ _ rfl, ← g2, sI_eq, f1]
    · rw [i5, ← g3, sI_eq, f2]
    · obtain ⟨k1, k2⟩ := n4 hi lo hlo hhi
      rw [l0, l1, bt_and, bt_or, k1, k2, hm.1 hi lo hlo hhi, List.all_append, List.any_append]
      simp only [List.all_cons, List.all_nil, List.any_cons, List.any_nil, Bool.and_true, Bool.or_false]
      exact ⟨trivial, trivial⟩
    · have f3 : Fr [(14, 16)] [] τ τ3 := by
        rw [← g3, ← g2, ← g1]
        exact (((Fr.refl τ).putI rfl).putI rfl).putI rfl
      exact ⟨fun k e => by rw [i5]; exact f3.1 k e, fun k _ => by rw [a5]⟩
