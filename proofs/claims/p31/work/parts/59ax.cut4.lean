/-! the cheapest cut of a stretch: what both sides reckon; the class reckons it -/
/-- the values of the rows from a on, by column and place -/
def cvW (V : Nat → Nat) (a : Nat) : Nat → Nat → Nat := fun k j => V (4 * (a + j) + k)
/-- the best of the lengths 1 .. n + 1; the later of equals -/
def bF (w : Nat → Nat) : Nat → Nat × Nat
  | 0 => (w 1, 1)
  | n + 1 => if (bF w n).1 < w (n + 2) then bF w n else (w (n + 2), n + 2)
theorem bF_mem (w : Nat → Nat) : ∀ n, ∃ l, 1 ≤ l ∧ l ≤ n + 1 ∧ bF w n = (w l, l)
  | 0 => ⟨1, by omega, by omega, rfl⟩
  | n + 1 => by
    show ∃ l, 1 ≤ l ∧ l ≤ n + 1 + 1 ∧ (if (bF w n).1 < w (n + 2) then bF w n else (w (n + 2), n + 2)) = (w l, l)
    by_cases c : (bF w n).1 < w (n + 2)
    · rw [if_pos c]
      obtain ⟨l, h1, h2, h3⟩ := bF_mem w n
      exact ⟨l, h1, by omega, h3⟩
    · rw [if_neg c]
      exact ⟨n + 2, by omega, by omega, rfl⟩
theorem bF_le1 (w : Nat → Nat) : ∀ n, (bF w n).1 ≤ w 1
  | 0 => Nat.le_refl _
  | n + 1 => by
    have h := bF_le1 w n
    show (if (bF w n).1 < w (n + 2) then bF w n else (w (n + 2), n + 2)).1 ≤ w 1
    by_cases c : (bF w n).1 < w (n + 2)
    · rw [if_pos c]
      exact h
    · rw [if_neg c]
      show w (n + 2) ≤ w 1
      omega
/-- the price of a piece from i of length l -/
def wt (V : Nat → Nat) (c i : Nat) (C : Nat → Nat) (l : Nat) : Nat := SP (cvW V i) l + c + C (i + l)
/-- the prices and lengths of the m last rows of the stretch that ends before b -/
def cs (V : Nat → Nat) (c b : Nat) : Nat → (Nat → Nat) × (Nat → Nat)
  | 0 => (fun _ => 0, fun _ => 0)
  | m + 1 => (fun i => if i = b - 1 - m then (bF (wt V c (b - 1 - m) (cs V c b m).1) m).1 else (cs V c b m).1 i, fun i => if i = b - 1 - m then (bF (wt V c (b - 1 - m) (cs V c b m).1) m).2 else (cs V c b m).2 i)
theorem SP_one (w : Nat → Nat → Nat) : SP w 1 = 0 := by
  rw [SP_step]
  rfl
theorem cs_le (V : Nat → Nat) (c b : Nat) : ∀ m i, (cs V c b m).1 i ≤ m * c
  | 0, _ => Nat.zero_le _
  | m + 1, i => by
    have h := cs_le V c b m
    show (if i = b - 1 - m then (bF (wt V c (b - 1 - m) (cs V c b m).1) m).1 else (cs V c b m).1 i) ≤ (m + 1) * c
    rw [Nat.succ_mul]
    by_cases q : i = b - 1 - m
    · rw [if_pos q]
      have h1 := bF_le1 (wt V c (b - 1 - m) (cs V c b m).1) m
      have h2 : wt V c (b - 1 - m) (cs V c b m).1 1 = 0 + c + (cs V c b m).1 (b - 1 - m + 1) := by
        unfold wt
        rw [SP_one]
      have h3 := h (b - 1 - m + 1)
      omega
    · rw [if_neg q]
      have h3 := h i
      omega
theorem Dv_le {L : Nat → Nat} {n c : Nat} (hc : c ≤ 99) (hL : ∀ j, j < n → L j ≤ 99) : Dv L n c ≤ n * 99 := sumTo_le n fun j hj => by
  have h := hL j hj
  unfold ad
  omega
theorem DD_le {v : Nat → Nat} {n : Nat} (h : ∀ j, j < n → v j ≤ 99) : DD (srt v n) n ≤ n * 99 := by
  unfold DD
  by_cases c : n = 0
  · subst c
    exact Nat.zero_le _
  · have hs := srt_le (v := v) (b := 99) n h
    exact Dv_le (hs _ (by omega)) hs
theorem SP_le {w : Nat → Nat → Nat} {n : Nat} (hn : n ≤ 48) (h : ∀ k, k < 4 → ∀ j, j < n → w k j ≤ 99) : SP w n ≤ 19008 := by
  have h1 : ∀ k, k < 4 → DD (srt (w k) n) n ≤ 4752 := fun k hk => by
    have := DD_le (h k hk)
    omega
  have h2 := sumTo_le (g := fun k => DD (srt (w k) n) n) (b := 4752) 4 h1
  unfold SP
  omega
/-- the rows a .. b - 1 of the class hold V -/
def ROWS (ar a b : Nat) (V : Nat → Nat) (σ : ST) : Prop := ∀ r, a ≤ r → r < b → ∀ k, k < 4 → σ.2.2 ar (4 * r + k) = nI (V (4 * r + k)) ∧ V (4 * r + k) ≤ 99
theorem ROWS.fr {ar a b : Nat} {V : Nat → Nat} {I J : List (Nat × Nat)} {σ τ : ST} (h : ROWS ar a b V σ) (f : Fr I J σ τ) (hh : inR J ar = false) : ROWS ar a b V τ := by
  unfold ROWS
  rw [f.2 _ hh]
  exact h
theorem ROWS.sub {ar a b a2 b2 : Nat} {V : Nat → Nat} {σ : ST} (h : ROWS ar a b V σ) (h1 : a ≤ a2) (h2 : b2 ≤ b) : ROWS ar a2 b2 V σ := fun r x y => h r (by omega) (by omega)
theorem ROWS.cvW {ar a b : Nat} {V : Nat → Nat} {σ : ST} (h : ROWS ar a b V σ) {n : Nat} (hn : a + n ≤ b) : ∀ k, k < 4 → ∀ j, j < n → cvW V a k j ≤ 99 := fun k hk j hj => (h (a + j) (by omega) (by omega) k hk).2
theorem bF_succ (w : Nat → Nat) {n : Nat} (h : n ≠ 0) : bF w n = if (bF w (n - 1)).1 < w (n + 1) then bF w (n - 1) else (w (n + 1), n + 1) := by
  obtain ⟨m, rfl⟩ : ∃ m, n = m + 1 := ⟨n - 1, by omega⟩
  rfl
theorem fc38_l {K : Int32 → Int32 → Int32 → Int32 → ST → ST} {V C : Nat → Nat} {c a b i : Nat} (hb : b ≤ 48) (hc : c ≤ 999) (hi : i < b) (hC : ∀ x, C x ≤ 47952) : ∀ (fu m n : Nat) (τ : ST), i + n + m = b → m < fu → GTH (cvW V i) n τ → ROWS 3 i b V τ → (∀ x, i < x → x ≤ b → τ.2.2 18 x = nI (C x)) → τ.2.2 18 i = nI (if n = 0 then 1000000000 else (bF (wt V c i C) (n - 1)).1) → (n ≠ 0 → τ.2.2 19 i = nI (bF (wt V c i C) (n - 1)).2) → ∃ τ', fX2_findCosts_0l38 K fu (nI c) (nI a) (nI b) (nI i) (nI (i + n)) τ = K (nI c) (nI a) (nI b) (nI i - 1) τ' ∧ τ'.2.2 18 i = nI (bF (wt V c i C) (b - i - 1)).1 ∧ τ'.2.2 19 i = nI (bF (wt V c i C) (b - i - 1)).2 ∧ (∀ x, x ≠ i → τ'.2.2 18 x = τ.2.2 18 x ∧ τ'.2.2 19 x = τ.2.2 19 x) ∧ Fr [(3, 4)] [(8, 11), (18, 19)] τ τ'
  | 0, _, _, _, _, h, _, _, _, _, _ => absurd h (Nat.not_lt_zero _)
  | fu + 1, 0, n, τ, hm, _, hG, hR, h18, hi18, hi19 => by
    have e0 : fX2_findCosts_0l38 K (fu + 1) (nI c) (nI a) (nI b) (nI i) (nI (i + n)) τ = fX2_findCosts_0b38 K (fX2_findCosts_0l38 K fu) (nI c) (nI a) (nI b) (nI i) (nI (i + n)) τ := rfl
    have n0 : n ≠ 0 := by omega
    rw [if_neg n0] at hi18
    have en : n - 1 = b - i - 1 := by omega
    rw [en] at hi18 hi19
    refine ⟨τ, ?_, hi18, hi19 n0, fun x _ => ⟨rfl, rfl⟩, Fr.refl τ⟩
    rw [e0]
    unfold fX2_findCosts_0b38 fX2_findCosts_0b111
    rw [if_pos ((leN (by omega) (by omega)).mpr (by omega))]
    simp only [bd_e, y_m1]
  | fu + 1, m + 1, n, τ, hm, hf, hG, hR, h18, hi18, hi19 => by
    have e0 : fX2_findCosts_0l38 K (fu + 1) (nI c) (nI a) (nI b) (nI i) (nI (i + n)) τ = fX2_findCosts_0b38 K (fX2_findCosts_0l38 K fu) (nI c) (nI a) (nI b) (nI i) (nI (i + n)) τ := rfl
    obtain ⟨g1, f1⟩ := take_X (w := cvW V i) (n := n) (r := i + n) (σ := τ) (by omega) (by omega) (hR.cvW (by omega)) hG (fun k hk => (hR (i + n) (by omega) (by omega) k hk).1)
    have hw : ∀ l, l ≤ b - i → wt V c i C l ≤ 67959 := fun l hl => by
      have q1 := SP_le (w := cvW V i) (n := l) (by omega) (hR.cvW (by omega))
      have q2 := hC (i + l)
      unfold wt
      omega
    have ew : nI (SP (cvW V i) (n + 1)) + nI c + nI (C (i + n + 1)) = nI (wt V c i C (n + 1)) := by
      rw [nI_add, nI_add]
      rfl
    rw [e0]
    unfold fX2_findCosts_0b38 fX2_findCosts_0b45
    rw [if_neg (fun q => absurd ((leN (by omega) (by omega)).mp q) (by omega))]
    simp only [bd_e, n_add1, g1.2.1, show (nI (i + n + 1)).toNatClampNeg = i + n + 1 from nI_clamp (by omega), show (nI i).toNatClampNeg = i from nI_clamp (by omega), f1.2 18 rfl, h18 (i + n + 1) (by omega) (by omega), ew, hi18]
    have f1' : Fr [(3, 4)] [(8, 11), (18, 19)] τ (fX3_take_0 (nI (i + n)) τ) := f1.wide rfl rfl
    have w1 := hw (n + 1) (by omega)
    have skip : n ≠ 0 → (bF (wt V c i C) (n - 1)).1 < wt V c i C (n + 1) → ∃ τ', fX2_findCosts_0b105 K (fX2_findCosts_0l38 K fu) (nI c) (nI a) (nI b) (nI i) (nI (i + n)) (fX3_take_0 (nI (i + n)) τ) = K (nI c) (nI a) (nI b) (nI i - 1) τ' ∧ τ'.2.2 18 i = nI (bF (wt V c i C) (b - i - 1)).1 ∧ τ'.2.2 19 i = nI (bF (wt V c i C) (b - i - 1)).2 ∧ (∀ x, x ≠ i → τ'.2.2 18 x = τ.2.2 18 x ∧ τ'.2.2 19 x = τ.2.2 19 x) ∧ Fr [(3, 4)] [(8, 11), (18, 19)] τ τ' := by
      intro n0 lt
      have eb : bF (wt V c i C) n = bF (wt V c i C) (n - 1) := by rw [bF_succ _ n0, if_pos lt]
      unfold fX2_findCosts_0b105
      simp only [bd_e, n_add1]
      obtain ⟨τ2, z1, z2, z3, z4, z5⟩ := fc38_l hb hc hi hC fu m (n + 1) (fX3_take_0 (nI (i + n)) τ) (K := K) (a := a) (V := V) (by omega) (by omega) g1 (hR.fr f1 rfl) (fun x p q => by rw [f1.2 18 rfl]; exact h18 x p q) (by rw [f1.2 18 rfl, hi18, if_neg n0, if_neg (by omega), show n + 1 - 1 = n by omega, eb]) (fun _ => by rw [f1.2 19 rfl, hi19 n0, show n + 1 - 1 = n by omega, eb])
      exact ⟨τ2, z1, z2, z3, fun x hx => ⟨(z4 x hx).1.trans (by rw [f1.2 18 rfl]), (z4 x hx).2.trans (by rw [f1.2 19 rfl])⟩, f1'.call z5 rfl rfl⟩
    have put : bF (wt V c i C) n = (wt V c i C (n + 1), n + 1) → ∃ τ', fX2_findCosts_0b82 K (fX2_findCosts_0l38 K fu) (nI c) (nI a) (nI b) (nI i) (nI (i + n)) (nI (wt V c i C (n + 1))) (fX3_take_0 (nI (i + n)) τ) = K (nI c) (nI a) (nI b) (nI i - 1) τ' ∧ τ'.2.2 18 i = nI (bF (wt V c i C) (b - i - 1)).1 ∧ τ'.2.2 19 i = nI (bF (wt V c i C) (b - i - 1)).2 ∧ (∀ x, x ≠ i → τ'.2.2 18 x = τ.2.2 18 x ∧ τ'.2.2 19 x = τ.2.2 19 x) ∧ Fr [(3, 4)] [(8, 11), (18, 19)] τ τ' := by
      intro eb
      have es : nI (i + n) - nI i + 1 = nI (n + 1) := by rw [pk_sub (by omega), show i + n - i = n by omega, n_add1]
      unfold fX2_findCosts_0b82 fX2_findCosts_0b105
      simp only [bd_e, n_add1, es, show (nI i).toNatClampNeg = i from nI_clamp (by omega)]
      generalize ht : sA (sA (fX3_take_0 (nI (i + n)) τ) 18 (upd ((fX3_take_0 (nI (i + n)) τ).2.2 18) i (nI (wt V c i C (n + 1))))) 19 (upd ((sA (fX3_take_0 (nI (i + n)) τ) 18 (upd ((fX3_take_0 (nI (i + n)) τ).2.2 18) i (nI (wt V c i C (n + 1))))).2.2 19) i (nI (n + 1))) = τ1
      have a18 : τ1.2.2 18 = upd (τ.2.2 18) i (nI (wt V c i C (n + 1))) := by
        rw [← ht, sA_ne _ _ rfl, sA_eq, f1.2 18 rfl]
      have a19 : τ1.2.2 19 = upd (τ.2.2 19) i (nI (n + 1)) := by
        rw [← ht, sA_eq, sA_ne _ _ rfl, f1.2 19 rfl]
      have f2 : Fr [] [(18, 19)] (fX3_take_0 (nI (i + n)) τ) τ1 := by
        rw [← ht]
        exact ((Fr.refl _).putA rfl).putA rfl
      obtain ⟨τ2, z1, z2, z3, z4, z5⟩ := fc38_l hb hc hi hC fu m (n + 1) τ1 (K := K) (a := a) (V := V) (by omega) (by omega) ⟨(f2.1 3 rfl).trans g1.1, (f2.1 4 rfl).trans g1.2.1, fun k hk j hj => by
        have q : inR [(18, 19)] (8 + k) = false := by
          rcases (show k = 0 ∨ k = 1 ∨ k = 2 ∨ k = 3 by omega) with rfl | rfl | rfl | rfl <;> rfl
        rw [f2.2 _ q]
        exact g1.2.2 k hk j hj⟩ ((hR.fr f1 rfl).fr f2 rfl) (fun x p q => by rw [a18, pk_un (by omega)]; exact h18 x p q) (by rw [a18, pk_us, if_neg (by omega), show n + 1 - 1 = n by omega, eb]) (fun _ => by rw [a19, pk_us, show n + 1 - 1 = n by omega, eb])
      exact ⟨τ2, z1, z2, z3, fun x hx => ⟨(z4 x hx).1.trans (by rw [a18, pk_un hx]), (z4 x hx).2.trans (by rw [a19, pk_un hx])⟩, (f1'.call f2 rfl rfl).call z5 rfl rfl⟩
    by_cases n0 : n = 0
    · rw [if_pos n0, if_neg (fun q => absurd (y_lt (a := 1000000000) (by omega) (by omega) q) (by omega))]
      refine put ?_
      subst n0
      rfl
    · rw [if_neg n0]
      obtain ⟨l, l1, l2, l3⟩ := bF_mem (wt V c i C) (n - 1)
      have w2 : (bF (wt V c i C) (n - 1)).1 ≤ 67959 := by
        rw [l3]
        exact hw l (by omega)
      by_cases q : (bF (wt V c i C) (n - 1)).1 < wt V c i C (n + 1)
      · rw [if_pos ((nI_ltI (by omega) (by omega)).mpr q)]
        exact skip n0 q
      · rw [if_neg (fun z => q (y_lt (by omega) (by omega) z))]
        refine put ?_
        rw [bF_succ _ n0, if_neg q]
theorem fc14_l {V : Nat → Nat} {c a b : Nat} (hb : b ≤ 48) (hc : c ≤ 999) : ∀ (fu p : Nat) (τ : ST), a ≤ p → p ≤ b → p - a < fu → ROWS 3 a b V τ → (∀ x, p ≤ x → x ≤ b → τ.2.2 18 x = nI ((cs V c b (b - p)).1 x)) → (∀ x, p ≤ x → x < b → τ.2.2 19 x = nI ((cs V c b (b - p)).2 x)) → ∃ τ', fX2_findCosts_0l14 fu (nI c) (nI a) (nI b) (nI p - 1) τ = τ' ∧ (∀ x, a ≤ x → x ≤ b → τ'.2.2 18 x = nI ((cs V c b (b - a)).1 x)) ∧ (∀ x, a ≤ x → x < b → τ'.2.2 19 x = nI ((cs V c b (b - a)).2 x)) ∧ Fr [(3, 4)] [(8, 11), (18, 19)] τ τ'
  | 0, _, _, _, _, h, _, _, _ => absurd h (Nat.not_lt_zero _)
  | fu + 1, p, τ, h1, h2, hf, hR, h18, h19 => by
    have e0 : fX2_findCosts_0l14 (fu + 1) (nI c) (nI a) (nI b) (nI p - 1) τ = fX2_findCosts_0b14 (fX2_findCosts_0l14 fu) (nI c) (nI a) (nI b) (nI p - 1) τ := rfl
    rw [e0]
    unfold fX2_findCosts_0b14
    rcases Nat.eq_or_lt_of_le h1 with q | q
    · subst q
      rw [if_pos (by
        rw [Int32.lt_iff_toInt_lt, y_sub1 (by omega), nI_toInt (by omega)]
        omega)]
      exact ⟨τ, rfl, h18, h19, Fr.refl τ⟩
    · obtain ⟨i, rfl⟩ : ∃ i, p = i + 1 := ⟨p - 1, by omega⟩
      rw [nI_pred, if_neg (fun z => absurd (y_lt (by omega) (by omega) z) (by omega))]
      unfold fX2_findCosts_0b21
      obtain ⟨g0, f0⟩ := empty_X (cvW V i) τ
      simp only [bd_e, show (nI i).toNatClampNeg = i from nI_clamp (by omega)]
      have ec : ∀ x, (cs V c b (b - i)).1 x = if x = i then (bF (wt V c i (cs V c b (b - (i + 1))).1) (b - i - 1)).1 else (cs V c b (b - (i + 1))).1 x := fun x => by
        obtain ⟨m, hm⟩ : ∃ m, b - i = m + 1 := ⟨b - i - 1, by omega⟩
        rw [hm, show b - (i + 1) = m by omega, show m + 1 - 1 = m by omega]
        show (if x = b - 1 - m then _ else _) = _
        rw [show b - 1 - m = i by omega]
      have ec2 : ∀ x, (cs V c b (b - i)).2 x = if x = i then (bF (wt V c i (cs V c b (b - (i + 1))).1) (b - i - 1)).2 else (cs V c b (b - (i + 1))).2 x := fun x => by
        obtain ⟨m, hm⟩ : ∃ m, b - i = m + 1 := ⟨b - i - 1, by omega⟩
        rw [hm, show b - (i + 1) = m by omega, show m + 1 - 1 = m by omega]
        show (if x = b - 1 - m then _ else _) = _
        rw [show b - 1 - m = i by omega]
      generalize ht : sA (fX3_empty_0 τ) 18 (upd ((fX3_empty_0 τ).2.2 18) i 1000000000) = τ1
      have a18 : τ1.2.2 18 = upd (τ.2.2 18) i 1000000000 := by rw [← ht, sA_eq, f0.2 18 rfl]
      have f2 : Fr [] [(18, 19)] (fX3_empty_0 τ) τ1 := by
        rw [← ht]
        exact (Fr.refl _).putA rfl
      have f3 : Fr [(3, 4)] [(8, 11), (18, 19)] τ τ1 := (f0.wide rfl rfl).call f2 rfl rfl
      have a19 : τ1.2.2 19 = τ.2.2 19 := by rw [← ht, sA_ne _ _ rfl, f0.2 19 rfl]
      obtain ⟨τ2, z1, z2, z3, z4, z5⟩ := fc38_l hb hc (show i < b by omega) (fun x => by
        have t1 := cs_le V c b (b - (i + 1)) x
        have t2 : (b - (i + 1)) * c ≤ 48 * 999 := Nat.mul_le_mul (by omega) hc
        omega) 4096 (b - i) 0 τ1 (K := fX2_findCosts_0l14 fu) (a := a) (V := V) (C := (cs V c b (b - (i + 1))).1) (by omega) (by omega) ⟨(f2.1 3 rfl).trans g0.1, (f2.1 4 rfl).trans g0.2.1, fun k _ j hj => absurd hj (Nat.not_lt_zero _)⟩ ((hR.sub (by omega) (Nat.le_refl _)).fr f3 rfl) (fun x p q => by rw [a18, pk_un (by omega)]; exact h18 x (by omega) q) (by rw [a18, pk_us]; rfl) (fun q => absurd rfl q)
      obtain ⟨τ3, y1, y2, y3, y4⟩ := fc14_l hb hc fu i τ2 (by omega) (by omega) (by omega) ((hR.fr f3 rfl).fr z5 rfl) (fun x p q => by
        rw [ec]
        by_cases d : x = i
        · rw [if_pos d, d, z2]
        · rw [if_neg d, (z4 x d).1, a18, pk_un d]
          exact h18 x (by omega) q) (fun x p q => by
        rw [ec2]
        by_cases d : x = i
        · rw [if_pos d, d, z3]
        · rw [if_neg d, (z4 x d).2, a19]
          exact h19 x (by omega) q)
      refine ⟨τ3, ?_, y2, y3, (f3.call z5 rfl rfl).call y4 rfl rfl⟩
      rw [← y1, ← z1]
      rfl
theorem costs_X {V : Nat → Nat} {c a b : Nat} {σ : ST} (hb : b ≤ 48) (hc : c ≤ 999) (hab : a < b) (hR : ROWS 3 a b V σ) : (∀ x, a ≤ x → x ≤ b → (fX2_findCosts_0 (nI c) (nI a) (nI b) σ).2.2 18 x = nI ((cs V c b (b - a)).1 x)) ∧ (∀ x, a ≤ x → x < b → (fX2_findCosts_0 (nI c) (nI a) (nI b) σ).2.2 19 x = nI ((cs V c b (b - a)).2 x)) ∧ Fr [(3, 4)] [(8, 11), (18, 19)] σ (fX2_findCosts_0 (nI c) (nI a) (nI b) σ) := by
  have f0 : Fr [(3, 4)] [(8, 11), (18, 19)] σ (sA σ 18 (upd (σ.2.2 18) b 0)) := (Fr.refl σ).putA rfl
  have hbb : b - b = 0 := Nat.sub_self b
  obtain ⟨τ, y1, y2, y3, y4⟩ := fc14_l hb hc 4096 b (sA σ 18 (upd (σ.2.2 18) b 0)) (V := V) (a := a) (by omega) (Nat.le_refl _) (by omega) (hR.fr f0 rfl) (fun x p q => by
    rw [sA_eq, show x = b by omega, pk_us, hbb]
    exact nI_0.symm) (fun x p q => by omega)
  have e : fX2_findCosts_0 (nI c) (nI a) (nI b) σ = τ := by
    rw [← y1]
    unfold fX2_findCosts_0 fX2_findCosts_0b0
    simp only [bd_e, show (nI b).toNatClampNeg = b from nI_clamp (by omega)]
  rw [e]
  exact ⟨y2, y3, f0.call y4 rfl rfl⟩
