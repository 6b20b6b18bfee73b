/-! the reference's second way -/
def JSM (L : Nat → Nat → Int32) (n : Nat) (g : Nat → Nat) (τ : ST) : Prop := τ.1 35 = nI n ∧ GNS L n τ ∧ ∀ p, p < n → τ.2.2 87 p = nI (g p)
theorem JSM.fr {L : Nat → Nat → Int32} {n : Nat} {g : Nat → Nat} {I J : List (Nat × Nat)} {σ τ : ST} (h : JSM L n g σ) (f : Fr I J σ τ) (h1 : inR I 35 = false) (h2 : inR J 88 = false) (h3 : inR J 87 = false) : JSM L n g τ := ⟨(f.1 _ h1).trans h.1, h.2.1.fr f h2, by rw [f.2 _ h3]; exact h.2.2⟩
def pr1 (P : PK) : Int32 := if P.1 = true then nI P.2.1 else -9
def pr2 (P : PK) : Int32 := if P.1 = true then nI P.2.2.1 else -9
theorem jm107_l {K25 : Int32 → ST → ST} {K41 : Int32 → Int32 → Int32 → Int32 → ST → ST} {K56 : Int32 → Int32 → Int32 → Int32 → Int32 → ST → ST} {K95 : Int32 → Int32 → Int32 → Int32 → Int32 → Int32 → Int32 → ST → ST} {l2 l3 l4 A : Int32} {L : Nat → Nat → Int32} {n a b p : Nat} {g : Nat → Nat} {τ : ST} (hn : n ≤ 9) (hab : a ≠ b) (ha : a < n) (hb : b < n) (hp : p < n) (hg : ∀ p, p < n → g p < n) (hJ : JSM L n g τ) : ∀ (fu d q : Nat), q + d = n → d < fu → fX12_join_0l107 K25 K41 K56 K95 fu l2 l3 l4 (nI a) (nI b) (A + sm (fun q => if g p = a ∧ g q = b then L p q else 0) q) (nI p) (nI q) τ = K95 l2 l3 l4 (nI a) (nI b) (A + sm (fun q => if g p = a ∧ g q = b then L p q else 0) n) (nI (p + 1)) τ
  | 0, _, _, _, h => absurd h (Nat.not_lt_zero _)
  | fu + 1, 0, q, hd, _ => by
    have eq : q = n := by omega
    subst eq
    show fX12_join_0b107 K25 K41 K56 K95 (fX12_join_0l107 K25 K41 K56 K95 fu) l2 l3 l4 (nI a) (nI b) _ (nI p) (nI q) τ = _
    unfold fX12_join_0b107
    rw [bd_e, hJ.1, if_pos ((leN (by omega) (by omega)).mpr (Nat.le_refl _))]
    unfold fX12_join_0b168
    rw [bd_e, n_add1]
  | fu + 1, d + 1, q, hd, hf => by
    have gp := hg p hp
    have gq := hg q (by omega)
    have np : (nI p).toNatClampNeg = p := nI_clamp (by omega)
    have nq : (nI q).toNatClampNeg = q := nI_clamp (by omega)
    have ih := jm107_l (K25 := K25) (K41 := K41) (K56 := K56) (K95 := K95) (l2 := l2) (l3 := l3) (l4 := l4) (A := A) hn hab ha hb hp hg hJ fu d (q + 1) (by omega) (by omega)
    have es : sm (fun q => if g p = a ∧ g q = b then L p q else 0) (q + 1) = sm (fun q => if g p = a ∧ g q = b then L p q else 0) q + (if g p = a ∧ g q = b then L p q else 0) := rfl
    rw [es] at ih
    have e159 : ∀ t0 t1 : Int32, fX12_join_0b159 K25 K41 K56 K95 (fX12_join_0l107 K25 K41 K56 K95 fu) l2 l3 l4 (nI a) (nI b) (nI p) (nI q) t0 t1 τ = fX12_join_0l107 K25 K41 K56 K95 fu l2 l3 l4 (nI a) (nI b) (t1 + t0) (nI p) (nI (q + 1)) τ := fun t0 t1 => by
      unfold fX12_join_0b159
      rw [bd_e, bd_e, n_add1]
    have e158 : ∀ t0 : Int32, fX12_join_0b158 K25 K41 K56 K95 (fX12_join_0l107 K25 K41 K56 K95 fu) l2 l3 l4 (nI a) (nI b) (nI p) (nI q) t0 τ = fX12_join_0l107 K25 K41 K56 K95 fu l2 l3 l4 (nI a) (nI b) (t0 + 0) (nI p) (nI (q + 1)) τ := fun t0 => by
      unfold fX12_join_0b158
      rw [e159]
    show fX12_join_0b107 K25 K41 K56 K95 (fX12_join_0l107 K25 K41 K56 K95 fu) l2 l3 l4 (nI a) (nI b) (A + sm (fun q => if g p = a ∧ g q = b then L p q else 0) q) (nI p) (nI q) τ = _
    unfold fX12_join_0b107
    rw [bd_e, hJ.1, if_neg (fun z => absurd ((leN (by omega) (by omega)).mp z) (by omega))]
    unfold fX12_join_0b116
    rw [bd_e, np, hJ.2.2 p hp]
    by_cases c1 : g p = a
    · rw [if_pos (by rw [c1])]
      unfold fX12_join_0b130
      rw [bd_e, nq, hJ.2.2 q (by omega)]
      by_cases c2 : g q = b
      · have hpq : p ≠ q := fun w => hab (by rw [← c1, ← c2, w])
        have ix : (nI (9 * p + q)).toNatClampNeg = 9 * p + q := nI_clamp (by omega)
        rw [if_pos (show g p = a ∧ g q = b from ⟨c1, c2⟩), ← Int32.add_assoc] at ih
        rw [if_pos (by rw [c2]), ← ih]
        unfold fX12_join_0b142
        rw [bd_e, bd_e, bd_e, show (9 : Int32) * nI p = nI (9 * p) from pk_mul 9 p, nI_add, ix, hJ.2.1 p q hp (by omega) hpq, e159]
      · rw [if_neg (show ¬ (g p = a ∧ g q = b) from fun w => c2 w.2), Int32.add_zero] at ih
        rw [if_neg (fun w => c2 ((nI_eq (by omega) (by omega)).mp w)), e158, Int32.add_zero, ih]
    · rw [if_neg (show ¬ (g p = a ∧ g q = b) from fun w => c1 w.1), Int32.add_zero] at ih
      rw [if_neg (fun w => c1 ((nI_eq (by omega) (by omega)).mp w)), e158, Int32.add_zero, ih]
theorem jm95_l {K25 : Int32 → ST → ST} {K41 : Int32 → Int32 → Int32 → Int32 → ST → ST} {K56 : Int32 → Int32 → Int32 → Int32 → Int32 → ST → ST} {l2 l3 l4 : Int32} {L : Nat → Nat → Int32} {n a b : Nat} {g : Nat → Nat} {τ : ST} (hn : n ≤ 9) (hab : a ≠ b) (ha : a < n) (hb : b < n) (hg : ∀ p, p < n → g p < n) (hJ : JSM L n g τ) : ∀ (fu d p : Nat), p + d = n → d < fu → fX12_join_0l95 K25 K41 K56 fu l2 l3 l4 (nI a) (nI b) (sm (fun p => sm (fun q => if g p = a ∧ g q = b then L p q else 0) n) p) (nI p) τ = fX12_join_0b174 K25 K41 K56 l2 l3 l4 (nI a) (nI b) (SL L n g a b) τ
  | 0, _, _, _, h => absurd h (Nat.not_lt_zero _)
  | fu + 1, 0, p, hd, _ => by
    have ep : p = n := by omega
    subst ep
    show fX12_join_0b95 K25 K41 K56 (fX12_join_0l95 K25 K41 K56 fu) l2 l3 l4 (nI a) (nI b) _ (nI p) τ = _
    unfold fX12_join_0b95
    rw [bd_e, hJ.1, if_pos ((leN (by omega) (by omega)).mpr (Nat.le_refl _))]
    rfl
  | fu + 1, d + 1, p, hd, hf => by
    have ih := jm95_l (K25 := K25) (K41 := K41) (K56 := K56) (l2 := l2) (l3 := l3) (l4 := l4) hn hab ha hb hg hJ fu d (p + 1) (by omega) (by omega)
    have k := jm107_l (K25 := K25) (K41 := K41) (K56 := K56) (K95 := fX12_join_0l95 K25 K41 K56 fu) (l2 := l2) (l3 := l3) (l4 := l4) (A := sm (fun p => sm (fun q => if g p = a ∧ g q = b then L p q else 0) n) p) hn hab ha hb (show p < n by omega) hg hJ 4096 n 0 (by omega) (by omega)
    rw [show sm (fun q => if g p = a ∧ g q = b then L p q else 0) 0 = 0 from rfl, Int32.add_zero, nI_0] at k
    rw [← ih]
    show fX12_join_0b95 K25 K41 K56 (fX12_join_0l95 K25 K41 K56 fu) l2 l3 l4 (nI a) (nI b) (sm (fun p => sm (fun q => if g p = a ∧ g q = b then L p q else 0) n) p) (nI p) τ = fX12_join_0l95 K25 K41 K56 fu l2 l3 l4 (nI a) (nI b) (sm (fun p => sm (fun q => if g p = a ∧ g q = b then L p q else 0) n) p + sm (fun q => if g p = a ∧ g q = b then L p q else 0) n) (nI (p + 1)) τ
    rw [← k]
    unfold fX12_join_0b95
    rw [bd_e, hJ.1, if_neg (fun z => absurd ((leN (by omega) (by omega)).mp z) (by omega))]
    rfl
theorem jm56_l {K25 : Int32 → ST → ST} {K41 : Int32 → Int32 → Int32 → Int32 → ST → ST} {L : Nat → Nat → Int32} {n a : Nat} {g : Nat → Nat} {τ : ST} (hn : n ≤ 9) (ha : a < n) (hS : LST1 n g) (hJ : JSM L n g τ) : ∀ (fu d b : Nat) (P : PK), b + d = n → d < fu → a < b → fX12_join_0l56 K25 K41 fu (pr1 P) (pr2 P) P.2.2.2 (nI a) (nI b) τ = K41 (pr1 (fg (fun b P => pks (SL L n g) g a b P) d b P)) (pr2 (fg (fun b P => pks (SL L n g) g a b P) d b P)) (fg (fun b P => pks (SL L n g) g a b P) d b P).2.2.2 (nI (a + 1)) τ := by
  intro fu
  induction fu with
  | zero =>
    intro d b P _ h
    exact absurd h (Nat.not_lt_zero _)
  | succ fu ih =>
    intro d b P hd hf hab
    have hg : ∀ p, p < n → g p < n := fun p hp => by have := (hS p hp).1; omega
    cases d with
    | zero =>
      have eb : b = n := by omega
      subst eb
      show fX12_join_0b56 K25 K41 (fX12_join_0l56 K25 K41 fu) (pr1 P) (pr2 P) P.2.2.2 (nI a) (nI b) τ = _
      unfold fX12_join_0b56
      rw [bd_e, hJ.1, if_pos ((leN (by omega) (by omega)).mpr (Nat.le_refl _))]
      unfold fX12_join_0b197
      rw [bd_e, n_add1]
      rfl
    | succ d =>
      have na : (nI a).toNatClampNeg = a := nI_clamp (by omega)
      have nb : (nI b).toNatClampNeg = b := nI_clamp (by omega)
      have ga := hg a ha
      have gb := hg b (by omega)
      have k := ih d (b + 1) (pks (SL L n g) g a b P) (by omega) (by omega) (by omega)
      have e191 : ∀ x y z : Int32, fX12_join_0b191 K25 K41 (fX12_join_0l56 K25 K41 fu) x y z (nI a) (nI b) τ = fX12_join_0l56 K25 K41 fu x y z (nI a) (nI (b + 1)) τ := fun x y z => by
        unfold fX12_join_0b191
        rw [bd_e, n_add1]
      show fX12_join_0b56 K25 K41 (fX12_join_0l56 K25 K41 fu) (pr1 P) (pr2 P) P.2.2.2 (nI a) (nI b) τ = K41 (pr1 (fg (fun b P => pks (SL L n g) g a b P) d (b + 1) (pks (SL L n g) g a b P))) (pr2 (fg (fun b P => pks (SL L n g) g a b P) d (b + 1) (pks (SL L n g) g a b P))) (fg (fun b P => pks (SL L n g) g a b P) d (b + 1) (pks (SL L n g) g a b P)).2.2.2 (nI (a + 1)) τ
      rw [← k]
      unfold fX12_join_0b56
      rw [bd_e, hJ.1, if_neg (fun z => absurd ((leN (by omega) (by omega)).mp z) (by omega))]
      unfold fX12_join_0b65
      rw [bd_e, na, hJ.2.2 a ha]
      by_cases d1 : g a = a
      · rw [if_pos (show nI (g a) = nI a by rw [d1])]
        unfold fX12_join_0b77
        rw [bd_e, nb, hJ.2.2 b (by omega)]
        by_cases d2 : g b = b
        · rw [if_pos (show nI (g b) = nI b by rw [d2])]
          unfold fX12_join_0b89
          have z := jm95_l (K25 := K25) (K41 := K41) (K56 := fX12_join_0l56 K25 K41 fu) (l2 := pr1 P) (l3 := pr2 P) (l4 := P.2.2.2) hn (show a ≠ b by omega) ha (show b < n by omega) hg hJ 4096 n 0 (by omega) (by omega)
          rw [show sm (fun p => sm (fun q => if g p = a ∧ g q = b then L p q else 0) n) 0 = 0 from rfl, nI_0] at z
          rw [z]
          unfold fX12_join_0b174
          by_cases d3 : P.2.2.2 < SL L n g a b
          · have nle : ¬ SL L n g a b ≤ P.2.2.2 := by
              rw [Int32.lt_iff_toInt_lt] at d3
              rw [Int32.le_iff_toInt_le]
              omega
            have ep : pks (SL L n g) g a b P = (true, a, b, SL L n g a b) := if_pos ⟨d1, d2, d3⟩
            rw [if_neg nle, ep]
            unfold fX12_join_0b181
            rw [e191]
            rfl
          · have le : SL L n g a b ≤ P.2.2.2 := by
              rw [Int32.lt_iff_toInt_lt] at d3
              rw [Int32.le_iff_toInt_le]
              omega
            have ep : pks (SL L n g) g a b P = P := if_neg (fun w => d3 w.2.2)
            rw [if_pos le, ep, e191]
        · have ep : pks (SL L n g) g a b P = P := if_neg (fun w => d2 w.2.1)
          rw [if_neg (fun w => d2 ((nI_eq (by omega) (by omega)).mp w)), ep, e191]
      · have ep : pks (SL L n g) g a b P = P := if_neg (fun w => d1 w.1)
        rw [if_neg (fun w => d1 ((nI_eq (by omega) (by omega)).mp w)), ep, e191]
theorem jm41_l {K25 : Int32 → ST → ST} {L : Nat → Nat → Int32} {n : Nat} {g : Nat → Nat} {τ : ST} (hn : n ≤ 9) (hS : LST1 n g) (hJ : JSM L n g τ) : ∀ (fu d a : Nat) (P : PK), a + d = n → d < fu → fX12_join_0l41 K25 fu (pr1 P) (pr2 P) P.2.2.2 (nI a) τ = fX12_join_0b203 K25 (pr1 (fg (fun a P => fg (fun b P => pks (SL L n g) g a b P) (n - (a + 1)) (a + 1) P) d a P)) (pr2 (fg (fun a P => fg (fun b P => pks (SL L n g) g a b P) (n - (a + 1)) (a + 1) P) d a P)) τ := by
  intro fu
  induction fu with
  | zero =>
    intro d a P _ h
    exact absurd h (Nat.not_lt_zero _)
  | succ fu ih =>
    intro d a P hd hf
    cases d with
    | zero =>
      have ea : a = n := by omega
      subst ea
      show fX12_join_0b41 K25 (fX12_join_0l41 K25 fu) (pr1 P) (pr2 P) P.2.2.2 (nI a) τ = _
      unfold fX12_join_0b41
      rw [bd_e, hJ.1, if_pos ((leN (by omega) (by omega)).mpr (Nat.le_refl _))]
      rfl
    | succ d =>
      have k := jm56_l (K25 := K25) (K41 := fX12_join_0l41 K25 fu) hn (show a < n by omega) hS hJ 4096 (n - (a + 1)) (a + 1) P (by omega) (by omega) (by omega)
      have k2 := ih d (a + 1) (fg (fun b P => pks (SL L n g) g a b P) (n - (a + 1)) (a + 1) P) (by omega) (by omega)
      rw [k2] at k
      show fX12_join_0b41 K25 (fX12_join_0l41 K25 fu) (pr1 P) (pr2 P) P.2.2.2 (nI a) τ = _
      unfold fX12_join_0b41
      rw [bd_e, hJ.1, if_neg (fun z => absurd ((leN (by omega) (by omega)).mp z) (by omega))]
      unfold fX12_join_0b50
      rw [bd_e, n_add1]
      exact k
theorem jm218_l {K25 : Int32 → ST → ST} {n x y : Nat} {g : Nat → Nat} (hn : n ≤ 9) (hy : y < n) (hg : ∀ p, p < n → g p < n) : ∀ (fu d p : Nat) (τ : ST), p + d = n → d < fu → τ.1 35 = nI n → (∀ j, j < n → τ.2.2 87 j = nI (if j < p then jn g x y j else g j)) → ∃ τ', fX12_join_0l218 K25 fu 1 (nI x) (nI y) (nI p) τ = K25 1 τ' ∧ (∀ j, j < n → τ'.2.2 87 j = nI (jn g x y j)) ∧ Fr [] [(87, 87)] τ τ'
  | 0, _, _, _, _, h, _, _ => absurd h (Nat.not_lt_zero _)
  | fu + 1, 0, p, τ, hd, _, h35, h0 => by
    have ep : p = n := by omega
    subst ep
    refine ⟨τ, ?_, fun j hj => by rw [h0 j hj, if_pos hj], Fr.refl τ⟩
    show fX12_join_0b218 K25 (fX12_join_0l218 K25 fu) 1 (nI x) (nI y) (nI p) τ = _
    unfold fX12_join_0b218
    rw [bd_e, h35, if_pos ((leN (by omega) (by omega)).mpr (Nat.le_refl _))]
    rfl
  | fu + 1, d + 1, p, τ, hd, hf, h35, h0 => by
    have np : (nI p).toNatClampNeg = p := nI_clamp (by omega)
    have gp := hg p (by omega)
    have e87 : τ.2.2 87 p = nI (g p) := by rw [h0 p (by omega), if_neg (Nat.lt_irrefl _)]
    have ej : jn g x y p = if g p = y then x else g p := rfl
    have f1 : Fr [] [(87, 87)] τ (sA τ 87 (upd (τ.2.2 87) p (nI (jn g x y p)))) := (Fr.refl τ).putA rfl
    obtain ⟨τ2, z1, z2, z3⟩ := jm218_l (K25 := K25) hn hy hg fu d (p + 1) (sA τ 87 (upd (τ.2.2 87) p (nI (jn g x y p)))) (by omega) (by omega) h35 (fun j hj => by
      rw [sA_eq]
      by_cases c : j = p
      · rw [c, pk_us, if_pos (by omega)]
      · rw [pk_un c, h0 j hj]
        by_cases e : j < p
        · rw [if_pos e, if_pos (by omega)]
        · rw [if_neg e, if_neg (by omega)])
    refine ⟨τ2, ?_, z2, f1.call z3 rfl rfl⟩
    have e259 : ∀ t0 : Int32, fX12_join_0b259 K25 (fX12_join_0l218 K25 fu) 1 (nI x) (nI y) (nI p) t0 (nI p) τ = fX12_join_0l218 K25 fu 1 (nI x) (nI y) (nI (p + 1)) (sA τ 87 (upd (τ.2.2 87) p t0)) := fun t0 => by
      unfold fX12_join_0b259
      rw [bd_e, bd_e, np, n_add1]
    rw [← z1, ej]
    show fX12_join_0b218 K25 (fX12_join_0l218 K25 fu) 1 (nI x) (nI y) (nI p) τ = _
    unfold fX12_join_0b218
    rw [bd_e, h35, if_neg (fun z => absurd ((leN (by omega) (by omega)).mp z) (by omega))]
    unfold fX12_join_0b227
    rw [if_neg (show ¬ (1 : Int32) = 0 by decide)]
    unfold fX12_join_0b231
    rw [bd_e, np, e87]
    by_cases c : g p = y
    · rw [if_pos (by rw [c]), if_pos c]
      unfold fX12_join_0b248
      rw [e259]
    · rw [if_neg (fun w => c ((nI_eq (by omega) (by omega)).mp w)), if_neg c]
      unfold fX12_join_0b252
      rw [bd_e, np, e87, e259]
theorem jm25_l {L : Nat → Nat → Int32} {n : Nat} (hn : n ≤ 9) : ∀ (k fu : Nat) (g : Nat → Nat) (τ : ST), rc g n ≤ k + 1 → k + 2 < fu → LST1 n g → JSM L n g τ → ∃ τ', fX12_join_0l25 fu 1 τ = fX12_join_0b269 τ' ∧ JSM L n (jl L n k g) τ' ∧ Fr [] [(87, 87)] τ τ' := by
  intro k
  induction k with
  | zero =>
    intro fu g τ hr hf hS hJ
    obtain ⟨fu, rfl⟩ : ∃ f, fu = f + 1 + 1 := ⟨fu - 2, by omega⟩
    have c : ¬ (PICK (SL L n g) n g).1 = true := fun c => by
      obtain ⟨p1, p2, p3, p4⟩ := PICK_ok (SL L n g) n g c
      have := rc_two p1 p2 p3 p4
      omega
    refine ⟨τ, ?_, hJ, Fr.refl τ⟩
    have z := jm41_l (K25 := fX12_join_0l25 (fu + 1)) hn hS hJ 4096 n 0 (false, 0, 0, 0) (by omega) (by omega)
    have e1 : pr1 (PICK (SL L n g) n g) = -9 := if_neg c
    rw [nI_0] at z
    have z' : fX12_join_0l41 (fX12_join_0l25 (fu + 1)) 4096 (-9) (-9) 0 0 τ = fX12_join_0b203 (fX12_join_0l25 (fu + 1)) (pr1 (PICK (SL L n g) n g)) (pr2 (PICK (SL L n g) n g)) τ := z
    show fX12_join_0b25 (fX12_join_0l25 (fu + 1)) 1 τ = _
    unfold fX12_join_0b25
    rw [if_neg (show ¬ (1 : Int32) = 0 by decide)]
    unfold fX12_join_0b29
    rw [z', e1]
    unfold fX12_join_0b203
    rw [if_pos rfl]
    unfold fX12_join_0b213 fX12_join_0b214
    have e218 : ∀ a b : Int32, fX12_join_0l218 (fX12_join_0l25 (fu + 1)) 4096 0 a b 0 τ = fX12_join_0l25 (fu + 1) 0 τ := fun a b => by
      show fX12_join_0b218 (fX12_join_0l25 (fu + 1)) (fX12_join_0l218 (fX12_join_0l25 (fu + 1)) 4095) 0 a b 0 τ = _
      unfold fX12_join_0b218
      rw [bd_e]
      by_cases q : τ.1 35 ≤ 0
      · rw [if_pos q]
        rfl
      · rw [if_neg q]
        unfold fX12_join_0b227
        rw [if_pos rfl]
        rfl
    rw [e218]
    show fX12_join_0b25 (fX12_join_0l25 fu) 0 τ = _
    unfold fX12_join_0b25
    rw [if_pos rfl]
  | succ k ih =>
    intro fu g τ hr hf hS hJ
    obtain ⟨fu, rfl⟩ : ∃ f, fu = f + 1 := ⟨fu - 1, by omega⟩
    have el : jl L n (k + 1) g = if (PICK (SL L n g) n g).1 = true then jl L n k (jn g (PICK (SL L n g) n g).2.1 (PICK (SL L n g) n g).2.2.1) else g := rfl
    have z := jm41_l (K25 := fX12_join_0l25 fu) hn hS hJ 4096 n 0 (false, 0, 0, 0) (by omega) (by omega)
    rw [nI_0] at z
    have z' : fX12_join_0l41 (fX12_join_0l25 fu) 4096 (-9) (-9) 0 0 τ = fX12_join_0b203 (fX12_join_0l25 fu) (pr1 (PICK (SL L n g) n g)) (pr2 (PICK (SL L n g) n g)) τ := z
    have e25 : fX12_join_0l25 (fu + 1) 1 τ = fX12_join_0b203 (fX12_join_0l25 fu) (pr1 (PICK (SL L n g) n g)) (pr2 (PICK (SL L n g) n g)) τ := by
      show fX12_join_0b25 (fX12_join_0l25 fu) 1 τ = _
      unfold fX12_join_0b25
      rw [if_neg (show ¬ (1 : Int32) = 0 by decide)]
      unfold fX12_join_0b29
      exact z'
    by_cases c : (PICK (SL L n g) n g).1 = true
    · obtain ⟨p1, p2, p3, p4⟩ := PICK_ok (SL L n g) n g c
      have e1 : pr1 (PICK (SL L n g) n g) = nI (PICK (SL L n g) n g).2.1 := if_pos c
      have e2 : pr2 (PICK (SL L n g) n g) = nI (PICK (SL L n g) n g).2.2.1 := if_pos c
      have rj := rc_jn p1 p3 p4 n
      rw [if_pos p2] at rj
      rw [el, if_pos c]
      generalize hx : (PICK (SL L n g) n g).2.1 = x at *
      generalize hy : (PICK (SL L n g) n g).2.2.1 = y at *
      obtain ⟨τ1, y1, y2, y3⟩ := jm218_l (K25 := fX12_join_0l25 fu) (x := x) (y := y) (g := g) hn p2 (fun p hp => by have := (hS p hp).1; omega) 4096 n 0 τ (by omega) (by omega) hJ.1 (fun j hj => by rw [if_neg (Nat.not_lt_zero _)]; exact hJ.2.2 j hj)
      obtain ⟨τ2, w1, w2, w3⟩ := ih fu (jn g x y) τ1 (by omega) (by omega) (hS.join p1 p3) ⟨(y3.1 35 rfl).trans hJ.1, hJ.2.1.fr y3 rfl, y2⟩
      refine ⟨τ2, ?_, w2, y3.call w3 rfl rfl⟩
      rw [← w1, ← y1, e25, e1, e2, nI_0]
      unfold fX12_join_0b203
      rw [if_neg (neg9_nI (by omega))]
      rfl
    · have e1 : pr1 (PICK (SL L n g) n g) = -9 := if_neg c
      rw [el, if_neg c]
      obtain ⟨fu, rfl⟩ : ∃ f, fu = f + 1 := ⟨fu - 1, by omega⟩
      refine ⟨τ, ?_, hJ, Fr.refl τ⟩
      rw [e25, e1]
      unfold fX12_join_0b203
      rw [if_pos rfl]
      unfold fX12_join_0b213 fX12_join_0b214
      have e218 : ∀ a b : Int32, fX12_join_0l218 (fX12_join_0l25 (fu + 1)) 4096 0 a b 0 τ = fX12_join_0l25 (fu + 1) 0 τ := fun a b => by
        show fX12_join_0b218 (fX12_join_0l25 (fu + 1)) (fX12_join_0l218 (fX12_join_0l25 (fu + 1)) 4095) 0 a b 0 τ = _
        unfold fX12_join_0b218
        rw [bd_e]
        by_cases q : τ.1 35 ≤ 0
        · rw [if_pos q]
          rfl
        · rw [if_neg q]
          unfold fX12_join_0b227
          rw [if_pos rfl]
          rfl
      rw [e218]
      show fX12_join_0b25 (fX12_join_0l25 fu) 0 τ = _
      unfold fX12_join_0b25
      rw [if_pos rfl]
theorem jm2_l {n : Nat} (hn : n ≤ 9) : ∀ (fu d p : Nat) (τ : ST), p + d = n → d < fu → τ.1 35 = nI n → (∀ j, j < p → τ.2.2 87 j = nI j) → ∃ τ', fX12_join_0l2 fu (nI p) τ = fX12_join_0b23 τ' ∧ (∀ j, j < n → τ'.2.2 87 j = nI j) ∧ Fr [] [(87, 87)] τ τ'
  | 0, _, _, _, _, h, _, _ => absurd h (Nat.not_lt_zero _)
  | fu + 1, 0, p, τ, hd, _, h35, h0 => by
    have ep : p = n := by omega
    subst ep
    refine ⟨τ, ?_, h0, Fr.refl τ⟩
    show fX12_join_0b2 (fX12_join_0l2 fu) (nI p) τ = _
    unfold fX12_join_0b2
    rw [bd_e, h35, if_pos ((leN (by omega) (by omega)).mpr (Nat.le_refl _))]
  | fu + 1, d + 1, p, τ, hd, hf, h35, h0 => by
    have f1 : Fr [] [(87, 87)] τ (sA τ 87 (upd (τ.2.2 87) p (nI p))) := (Fr.refl τ).putA rfl
    obtain ⟨τ2, z1, z2, z3⟩ := jm2_l hn fu d (p + 1) (sA τ 87 (upd (τ.2.2 87) p (nI p))) (by omega) (by omega) h35 (fun j hj => by
      rw [sA_eq]
      rcases Nat.eq_or_lt_of_le (Nat.le_of_lt_succ hj) with c | c
      · rw [c, pk_us]
      · rw [pk_un (by omega)]
        exact h0 j c)
    refine ⟨τ2, ?_, z2, f1.call z3 rfl rfl⟩
    rw [← z1]
    show fX12_join_0b2 (fX12_join_0l2 fu) (nI p) τ = _
    unfold fX12_join_0b2
    rw [bd_e, h35, if_neg (fun z => absurd ((leN (by omega) (by omega)).mp z) (by omega))]
    unfold fX12_join_0b10
    rw [bd_e, bd_e, show (nI p).toNatClampNeg = p from nI_clamp (by omega), n_add1]
theorem jm273_l {n : Nat} {g : Nat → Nat} (hn : n ≤ 9) (hS : LST1 n g) : ∀ (fu d p : Nat) (τ : ST), p + d = n → d < fu → τ.1 35 = nI n → (∀ j, j < n → τ.2.2 87 j = nI (g j)) → (∀ j, j < p → τ.2.2 85 j = nI (JN g j)) → ∃ τ', fX12_join_0l273 fu (nI (rc g p)) (nI p) τ = fX12_join_0b336 τ' ∧ (∀ j, j < n → τ'.2.2 85 j = nI (JN g j)) ∧ Fr [] [(85, 85)] τ τ'
  | 0, _, _, _, _, h, _, _, _ => absurd h (Nat.not_lt_zero _)
  | fu + 1, 0, p, τ, hd, _, h35, h87, h0 => by
    have ep : p = n := by omega
    subst ep
    refine ⟨τ, ?_, h0, Fr.refl τ⟩
    show fX12_join_0b273 (fX12_join_0l273 fu) (nI (rc g p)) (nI p) τ = _
    unfold fX12_join_0b273
    rw [bd_e, h35, if_pos ((leN (by omega) (by omega)).mpr (Nat.le_refl _))]
  | fu + 1, d + 1, p, τ, hd, hf, h35, h87, h0 => by
    have np : (nI p).toNatClampNeg = p := nI_clamp (by omega)
    obtain ⟨s1, s2⟩ := hS p (by omega)
    have er : rc g (p + 1) = rc g p + (if g p = p then 1 else 0) := rfl
    have ej : JN g p = rc g (g p) := rfl
    have f1 : Fr [] [(85, 85)] τ (sA τ 85 (upd (τ.2.2 85) p (nI (JN g p)))) := (Fr.refl τ).putA rfl
    obtain ⟨τ2, z1, z2, z3⟩ := jm273_l hn hS fu d (p + 1) (sA τ 85 (upd (τ.2.2 85) p (nI (JN g p)))) (by omega) (by omega) h35 (fun j hj => by rw [sA_ne _ _ rfl]; exact h87 j hj) (fun j hj => by
      rw [sA_eq]
      rcases Nat.eq_or_lt_of_le (Nat.le_of_lt_succ hj) with c | c
      · rw [c, pk_us]
      · rw [pk_un (by omega)]
        exact h0 j c)
    refine ⟨τ2, ?_, z2, f1.call z3 rfl rfl⟩
    have e311 : ∀ t0 : Int32, fX12_join_0b311 (fX12_join_0l273 fu) (nI (rc g p)) (nI p) t0 (nI p) τ = fX12_join_0l273 fu (nI (rc g p) + (if g p = p then 1 else 0)) (nI (p + 1)) (sA τ 85 (upd (τ.2.2 85) p t0)) := fun t0 => by
      unfold fX12_join_0b311
      rw [bd_e, bd_e, np, sA_ne _ _ rfl, h87 p (by omega)]
      by_cases c : g p = p
      · rw [if_pos (by rw [c]), if_pos c]
        unfold fX12_join_0b323 fX12_join_0b328
        rw [bd_e, bd_e, n_add1, n_add1]
      · rw [if_neg (fun w => c ((nI_eq (by omega) (by omega)).mp w)), if_neg c]
        unfold fX12_join_0b327 fX12_join_0b328
        rw [bd_e, bd_e, n_add1]
    rw [← z1, er]
    show fX12_join_0b273 (fX12_join_0l273 fu) (nI (rc g p)) (nI p) τ = _
    unfold fX12_join_0b273
    rw [bd_e, h35, if_neg (fun z => absurd ((leN (by omega) (by omega)).mp z) (by omega))]
    unfold fX12_join_0b281
    rw [bd_e, np, h87 p (by omega)]
    by_cases c : g p = p
    · rw [if_pos (by rw [c])]
      unfold fX12_join_0b296
      rw [e311, if_pos c, if_pos c, n_add1, ej, c]
    · rw [if_neg (fun w => c ((nI_eq (by omega) (by omega)).mp w))]
      unfold fX12_join_0b300
      rw [bd_e, bd_e, np, h87 p (by omega), show (nI (g p)).toNatClampNeg = g p from nI_clamp (by omega), h0 (g p) (by omega), e311, if_neg c, if_neg c, Int32.add_zero, Nat.add_zero]
      have e : JN g (g p) = JN g p := by
        unfold JN
        rw [s2]
      rw [e]
      rfl
theorem jm338_l {n : Nat} {a : Nat → Nat} (hn : n ≤ 9) : ∀ (fu d p : Nat) (τ : ST), p + d = n → d < fu → τ.1 35 = nI n → (∀ j, j < n → τ.2.2 85 j = nI (a j)) → (∀ j, j < p → τ.2.2 87 j = nI (a j)) → ∃ τ', fX12_join_0l338 fu (nI p) τ = τ' ∧ (∀ j, j < n → τ'.2.2 87 j = nI (a j)) ∧ Fr [] [(87, 87)] τ τ'
  | 0, _, _, _, _, h, _, _, _ => absurd h (Nat.not_lt_zero _)
  | fu + 1, 0, p, τ, hd, _, h35, h85, h0 => by
    have ep : p = n := by omega
    subst ep
    refine ⟨τ, ?_, h0, Fr.refl τ⟩
    show fX12_join_0b338 (fX12_join_0l338 fu) (nI p) τ = _
    unfold fX12_join_0b338 fX12_join_0b364
    rw [bd_e, h35, if_pos ((leN (by omega) (by omega)).mpr (Nat.le_refl _))]
  | fu + 1, d + 1, p, τ, hd, hf, h35, h85, h0 => by
    have f1 : Fr [] [(87, 87)] τ (sA τ 87 (upd (τ.2.2 87) p (nI (a p)))) := (Fr.refl τ).putA rfl
    obtain ⟨τ2, z1, z2, z3⟩ := jm338_l hn fu d (p + 1) (sA τ 87 (upd (τ.2.2 87) p (nI (a p)))) (by omega) (by omega) h35 (fun j hj => by rw [sA_ne _ _ rfl]; exact h85 j hj) (fun j hj => by
      rw [sA_eq]
      rcases Nat.eq_or_lt_of_le (Nat.le_of_lt_succ hj) with c | c
      · rw [c, pk_us]
      · rw [pk_un (by omega)]
        exact h0 j c)
    refine ⟨τ2, ?_, z2, f1.call z3 rfl rfl⟩
    rw [← z1]
    show fX12_join_0b338 (fX12_join_0l338 fu) (nI p) τ = _
    unfold fX12_join_0b338
    rw [bd_e, h35, if_neg (fun z => absurd ((leN (by omega) (by omega)).mp z) (by omega))]
    unfold fX12_join_0b346
    rw [bd_e, bd_e, bd_e, show (nI p).toNatClampNeg = p from nI_clamp (by omega), h85 p (by omega), n_add1]
theorem join_M {L : Nat → Nat → Int32} {n : Nat} {τ : ST} (hn : n ≤ 9) (h35 : τ.1 35 = nI n) (hG : GNS L n τ) : (∀ j, j < n → (fX12_join_0 τ).2.2 87 j = nI (JN (GJ L n) j)) ∧ Fr [] [(85, 85), (87, 87)] τ (fX12_join_0 τ) := by
  obtain ⟨τ1, y1, y2, y3⟩ := jm2_l hn 4096 n 0 τ (by omega) (by omega) h35 (fun j hj => absurd hj (Nat.not_lt_zero _))
  obtain ⟨τ2, z1, z2, z3⟩ := jm25_l (L := L) hn n 4096 (fun p => p) τ1 (by have := rc_le (fun p => p) n; omega) (by omega) (fun p _ => ⟨Nat.le_refl _, rfl⟩) ⟨(y3.1 35 rfl).trans h35, hG.fr y3 rfl, y2⟩
  have hS := GJ_lst L n
  have z2' : JSM L n (GJ L n) τ2 := z2
  obtain ⟨τ3, u1, u2, u3⟩ := jm273_l hn hS 4096 n 0 τ2 (by omega) (by omega) z2'.1 z2'.2.2 (fun j hj => absurd hj (Nat.not_lt_zero _))
  obtain ⟨τ4, v1, v2, v3⟩ := jm338_l (a := JN (GJ L n)) hn 4096 n 0 τ3 (by omega) (by omega) ((u3.1 35 rfl).trans z2'.1) u2 (fun j hj => absurd hj (Nat.not_lt_zero _))
  have e1 : fX12_join_0 τ = fX12_join_0b23 τ1 := by
    rw [← y1, nI_0]
    rfl
  have e2 : fX12_join_0b23 τ1 = fX12_join_0b269 τ2 := z1
  have e3 : fX12_join_0b269 τ2 = fX12_join_0b336 τ3 := by
    rw [← u1, show rc (GJ L n) 0 = 0 from rfl, nI_0]
    rfl
  have e4 : fX12_join_0b336 τ3 = τ4 := by
    rw [← v1, nI_0]
    rfl
  rw [e1, e2, e3, e4]
  exact ⟨v2, ((((y3.wide rfl rfl).call z3 rfl rfl).call u3 rfl rfl).call v3 rfl rfl)⟩
