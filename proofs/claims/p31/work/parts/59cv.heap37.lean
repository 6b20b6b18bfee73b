/-! odds: of all ways to choose as many pieces -/
/-- what the pieces of a set come to -/
def bs (D : Nat → Nat) (x : Nat) : Nat → Nat
  | 0 => 0
  | k + 1 => bs D x k + (if x.testBit k = true then D k else 0)
theorem bs_congr {D : Nat → Nat} {x y : Nat} : ∀ j, (∀ k, k < j → x.testBit k = y.testBit k) → bs D x j = bs D y j
  | 0, _ => rfl
  | j + 1, h => by
    show bs D x j + (if x.testBit j = true then D j else 0) = bs D y j + (if y.testBit j = true then D j else 0)
    rw [bs_congr j (fun k hk => h k (by omega)), h j (by omega)]
theorem bs_lo {D : Nat → Nat} {x j : Nat} (h : x < 2 ^ j) : bs D x (j + 1) = bs D x j := by
  show bs D x j + (if x.testBit j = true then D j else 0) = bs D x j
  rw [Nat.testBit_lt_two_pow h, if_neg (by decide), Nat.add_zero]
theorem bs_hi {D : Nat → Nat} {x j : Nat} (h : x < 2 ^ j) : bs D (2 ^ j + x) (j + 1) = bs D x j + D j := by
  show bs D (2 ^ j + x) j + (if (2 ^ j + x).testBit j = true then D j else 0) = bs D x j + D j
  rw [Nat.testBit_two_pow_add_eq, Nat.testBit_lt_two_pow h, if_pos (show (!false) = true from rfl), bs_congr j (fun k hk => Nat.testBit_two_pow_add_gt hk x)]
theorem bs_le {D : Nat → Nat} {x : Nat} : ∀ j, (∀ k, k < j → D k ≤ 396) → bs D x j ≤ 396 * j
  | 0, _ => Nat.le_refl _
  | j + 1, h => by
    have k := bs_le j (x := x) (fun k hk => h k (by omega))
    have d := h j (by omega)
    show bs D x j + (if x.testBit j = true then D j else 0) ≤ 396 * (j + 1)
    split <;> omega
/-- how many pieces a set has -/
def pc (x : Nat) : Nat := bs (fun _ => 1) x 9
theorem bit1 {x k : Nat} (hx : x < 512) (hk : k < 9) : (nI x >>> (nI k &&& 31)) &&& 1 = nI (if x.testBit k = true then 1 else 0) := (show ∀ x, x < 512 → ∀ k, k < 9 → (nI x >>> (nI k &&& 31)) &&& 1 = nI (if x.testBit k = true then 1 else 0) by decide +kernel) x hx k hk
def bc1 (x : Int32) : Int32 := x - ((x.toUInt32 >>> ((1 : Int32).toUInt32 &&& Int32.toUInt32 31)).toInt32 &&& 1431655765)
def bc2 (x : Int32) : Int32 := (x &&& 858993459) + ((x.toUInt32 >>> ((2 : Int32).toUInt32 &&& Int32.toUInt32 31)).toInt32 &&& 858993459)
def bc3 (x : Int32) : Int32 := (x + (x.toUInt32 >>> ((4 : Int32).toUInt32 &&& Int32.toUInt32 31)).toInt32) &&& 252645135
def bc4 (x : Int32) : Int32 := x + (x.toUInt32 >>> ((8 : Int32).toUInt32 &&& Int32.toUInt32 31)).toInt32
def bc5 (x : Int32) : Int32 := (x + (x.toUInt32 >>> ((16 : Int32).toUInt32 &&& Int32.toUInt32 31)).toInt32) &&& 63
theorem bc_all : ∀ x, x < 512 → bc5 (bc4 (bc3 (bc2 (bc1 (nI x))))) = nI (pc x) := by decide +kernel
theorem bitCount_X {x : Nat} (hx : x < 512) (σ : ST) : fJ6_bitCount_0f7a4_0 (nI x) σ = nI (pc x) := by
  unfold fJ6_bitCount_0f7a4_0 fJ6_bitCount_0f7a4_0b0
  simp only [bd_e]
  exact bc_all x hx
theorem bits_l {x : Nat} (hx : x < 512) {τ : ST} : ∀ (fu d k : Nat), k + d = 9 → d < fu → fX12_bitsIn_0l4 fu (nI x) (nI (bs (fun _ => 1) x k)) (nI k) τ = nI (pc x)
  | 0, _, _, _, h => absurd h (Nat.not_lt_zero _)
  | fu + 1, 0, k, hk, _ => by
    have k9 : k = 9 := by omega
    subst k9
    show fX12_bitsIn_0b4 (fX12_bitsIn_0l4 fu) (nI x) _ (nI 9) τ = _
    unfold fX12_bitsIn_0b4 fX12_bitsIn_0b24 pc
    rw [if_pos (show 9 ≤ nI 9 by decide)]
  | fu + 1, d + 1, k, hk, hf => by
    rw [← bits_l hx fu d (k + 1) (by omega) (by omega)]
    show fX12_bitsIn_0b4 (fX12_bitsIn_0l4 fu) (nI x) (nI (bs (fun _ => 1) x k)) (nI k) τ = fX12_bitsIn_0l4 fu (nI x) (nI (bs (fun _ => 1) x k + (if x.testBit k = true then 1 else 0))) (nI (k + 1)) τ
    unfold fX12_bitsIn_0b4 fX12_bitsIn_0b10
    rw [if_neg (show ¬ 9 ≤ nI k from fun z => absurd ((leN (a := 9) (by omega) (by omega)).mp z) (by omega))]
    simp only [bd_e, bit1 hx (show k < 9 by omega), nI_add, n_add1]
theorem bits_M {x : Nat} (hx : x < 512) (τ : ST) : fX12_bitsIn_0 (nI x) τ = nI (pc x) := by
  have z := bits_l hx (τ := τ) 4096 9 0 (by omega) (by omega)
  rw [show bs (fun _ => 1) x 0 = 0 from rfl, nI_0] at z
  unfold fX12_bitsIn_0 fX12_bitsIn_0b0
  exact z
/-- the class's sums of all sets of the pieces -/
theorem fo45_l {K : Int32 → Int32 → Int32 → ST → ST} {A B : Int32} {D : Nat → Nat} {p : Nat} (hp : p < 9) : ∀ (fu d m : Nat) (τ : ST), m + d = 2 ^ p → d < fu → (∀ x, x < 2 ^ p → τ.2.2 51 x = nI (bs D x p)) → (∀ x, x < m → τ.2.2 51 (2 ^ p + x) = nI (bs D x p + D p)) → ∃ τ', fX5_fillOffs_0l45 K fu A B (nI p) (nI (D p)) (nI (2 ^ p)) (nI m) τ = K A B (nI (p + 1)) τ' ∧ (∀ x, x < 2 ^ (p + 1) → τ'.2.2 51 x = nI (bs D x (p + 1))) ∧ Fr [] [(51, 51)] τ τ' := by
  have pj := pow9 (show p ≤ 9 by omega)
  have pj2 : 2 ^ p * 2 ≤ 512 := by
    rw [← Nat.pow_succ]
    exact pow9 (by omega)
  intro fu
  induction fu with
  | zero =>
    intro d m τ _ h
    exact absurd h (Nat.not_lt_zero _)
  | succ fu ih =>
    intro d m τ hd hf h0 h1
    cases d with
    | zero =>
      have em : m = 2 ^ p := by omega
      subst em
      refine ⟨τ, ?_, fun x hx => ?_, Fr.refl τ⟩
      · show fX5_fillOffs_0b45 K (fX5_fillOffs_0l45 K fu) A B (nI p) (nI (D p)) (nI (2 ^ p)) (nI (2 ^ p)) τ = _
        unfold fX5_fillOffs_0b45 fX5_fillOffs_0b78
        simp only [bd_e, n_add1]
        rw [if_pos ((leN (by omega) (by omega)).mpr (Nat.le_refl _))]
      · rw [Nat.pow_succ] at hx
        rcases Nat.lt_or_ge x (2 ^ p) with c | c
        · rw [bs_lo c]
          exact h0 x c
        · obtain ⟨y, rfl⟩ : ∃ y, x = 2 ^ p + y := ⟨x - 2 ^ p, by omega⟩
          rw [bs_hi (show y < 2 ^ p by omega)]
          exact h1 y (by omega)
    | succ d =>
      have o1 : nI (2 ^ p) ||| nI m = nI (2 ^ p + m) := by rw [y_or, or_pow (show m < 2 ^ p by omega)]
      have f1 : Fr [] [(51, 51)] τ (sA τ 51 (upd (τ.2.2 51) (2 ^ p + m) (nI (bs D m p + D p)))) := (Fr.refl τ).putA rfl
      have e0 : fX5_fillOffs_0l45 K (fu + 1) A B (nI p) (nI (D p)) (nI (2 ^ p)) (nI m) τ = fX5_fillOffs_0l45 K fu A B (nI p) (nI (D p)) (nI (2 ^ p)) (nI (m + 1)) (sA τ 51 (upd (τ.2.2 51) (2 ^ p + m) (nI (bs D m p + D p)))) := by
        show fX5_fillOffs_0b45 K (fX5_fillOffs_0l45 K fu) A B (nI p) (nI (D p)) (nI (2 ^ p)) (nI m) τ = _
        unfold fX5_fillOffs_0b45 fX5_fillOffs_0b52
        simp only [bd_e, n_add1, o1, show (nI (2 ^ p + m)).toNatClampNeg = 2 ^ p + m from nI_clamp (by omega), show (nI m).toNatClampNeg = m from nI_clamp (by omega), h0 m (by omega), nI_add]
        rw [if_neg (fun q => absurd ((leN (by omega) (by omega)).mp q) (by omega))]
      obtain ⟨τ2, z1, z2, z3⟩ := ih d (m + 1) (sA τ 51 (upd (τ.2.2 51) (2 ^ p + m) (nI (bs D m p + D p)))) (by omega) (by omega) (fun x hx => by
        rw [sA_eq, pk_un (by omega)]
        exact h0 x hx) (fun x hx => by
        rw [sA_eq]
        rcases Nat.eq_or_lt_of_le (Nat.le_of_lt_succ hx) with c | c
        · rw [c, pk_us]
        · rw [pk_un (by omega)]
          exact h1 x c)
      exact ⟨τ2, e0.trans z1, z2, f1.call z3 rfl rfl⟩
theorem fo10_l {D : Nat → Nat} {n v : Nat} (hn : n ≤ 9) (hv : v < 6) : ∀ (fu d p : Nat) (τ : ST), p + d = n → d < fu → (∀ ρ, Fr [] [(51, 51)] τ ρ → ∀ p, p < n → fX11_off_3 (nI (p * 4)) (nI (v * 4)) ρ = nI (D p)) → (∀ x, x < 2 ^ p → τ.2.2 51 x = nI (bs D x p)) → ∃ τ', fX5_fillOffs_0l10 fu (nI n) (nI v) (nI p) τ = τ' ∧ (∀ x, x < 2 ^ n → τ'.2.2 51 x = nI (bs D x n)) ∧ Fr [] [(51, 51)] τ τ' := by
  intro fu
  induction fu with
  | zero =>
    intro d p τ _ h
    exact absurd h (Nat.not_lt_zero _)
  | succ fu ih =>
    intro d p τ hd hf hD h0
    cases d with
    | zero =>
      have ep : p = n := by omega
      subst ep
      refine ⟨τ, ?_, h0, Fr.refl τ⟩
      show fX5_fillOffs_0b10 (fX5_fillOffs_0l10 fu) (nI p) (nI v) (nI p) τ = _
      unfold fX5_fillOffs_0b10 fX5_fillOffs_0b84
      rw [if_pos ((leN (by omega) (by omega)).mpr (Nat.le_refl _))]
    | succ d =>
      obtain ⟨τ1, y1, y2, y3⟩ := fo45_l (K := fX5_fillOffs_0l10 fu) (A := nI n) (B := nI v) (D := D) (p := p) (by omega) 4096 (2 ^ p) 0 τ (by omega) (by have := pow9 (show p ≤ 9 by omega); omega) h0 (fun x hx => absurd hx (Nat.not_lt_zero _))
      obtain ⟨τ2, z1, z2, z3⟩ := ih d (p + 1) τ1 (by omega) (by omega) (fun ρ f p hp => hD ρ (y3.call f rfl rfl) p hp) y2
      refine ⟨τ2, ?_, z2, y3.call z3 rfl rfl⟩
      rw [← z1, ← y1, nI_0]
      show fX5_fillOffs_0b10 (fX5_fillOffs_0l10 fu) (nI n) (nI v) (nI p) τ = _
      unfold fX5_fillOffs_0b10 fX5_fillOffs_0b16
      simp only [bd_e, n_mul4, hD τ (Fr.refl τ) p (by omega), y_shl1 (show p < 31 by omega)]
      rw [if_neg (fun q => absurd ((leN (by omega) (by omega)).mp q) (by omega))]
theorem fillOffs_X {D : Nat → Nat} {n v : Nat} {σ : ST} (hn : n ≤ 9) (hv : v < 6) (hD : ∀ ρ, Fr [] [(51, 51)] σ ρ → ∀ p, p < n → fX11_off_3 (nI (p * 4)) (nI (v * 4)) ρ = nI (D p)) : (∀ x, x < 2 ^ n → (fX5_fillOffs_0 (nI n) (nI v) σ).2.2 51 x = nI (bs D x n)) ∧ Fr [] [(51, 51)] σ (fX5_fillOffs_0 (nI n) (nI v) σ) := by
  have z0 : (0 : Int32).toNatClampNeg = 0 := by decide
  have f0 : Fr [] [(51, 51)] σ (sA σ 51 (upd (σ.2.2 51) 0 0)) := (Fr.refl σ).putA rfl
  obtain ⟨τ, y1, y2, y3⟩ := fo10_l (D := D) hn hv 4096 n 0 (sA σ 51 (upd (σ.2.2 51) 0 0)) (by omega) (by omega) (fun ρ f p hp => hD ρ (f0.call f rfl rfl) p hp) (fun x hx => by
    have x0 : x = 0 := by
      have : 2 ^ 0 = 1 := rfl
      omega
    subst x0
    rw [sA_eq, pk_us]
    exact nI_0.symm)
  have e : fX5_fillOffs_0 (nI n) (nI v) σ = τ := by
    rw [← y1, nI_0]
    unfold fX5_fillOffs_0 fX5_fillOffs_0b0
    simp only [bd_e, z0]
  rw [e]
  exact ⟨y2, f0.call y3 rfl rfl⟩
theorem members_X {b : Nat → Nat} {n h : Nat} {s : ST} (hn : n ≤ 9) (hh : h < 9) (hb : ∀ q, q < n → s.2.2 41 q = nI (b q) ∧ b q < 9) : fX4_membersOf_0 (nI h) (nI n) s = nI (mk b h n) := by
  have loop : ∀ (fu d k : Nat), k + d = n → d < fu → fX4_membersOf_0l5 fu (nI h) (nI n) (nI (mk b h k)) (nI k) s = nI (mk b h n) := by
    intro fu
    induction fu with
    | zero =>
      intro d k _ h
      exact absurd h (Nat.not_lt_zero _)
    | succ fu ih =>
      intro d k hd hf
      cases d with
      | zero =>
        have ek : k = n := by omega
        subst ek
        show fX4_membersOf_0b5 (fX4_membersOf_0l5 fu) (nI h) (nI k) (nI (mk b h k)) (nI k) s = _
        unfold fX4_membersOf_0b5 fX4_membersOf_0b46
        rw [if_pos ((leN (by omega) (by omega)).mpr (Nat.le_refl _))]
      | succ d =>
        obtain ⟨b1, b2⟩ := hb k (by omega)
        have ml := mk_lt b h k
        rw [← ih d (k + 1) (by omega) (by omega)]
        show fX4_membersOf_0b5 (fX4_membersOf_0l5 fu) (nI h) (nI n) (nI (mk b h k)) (nI k) s = fX4_membersOf_0l5 fu (nI h) (nI n) (nI (if b k = h then 2 ^ k + mk b h k else mk b h k)) (nI (k + 1)) s
        unfold fX4_membersOf_0b5 fX4_membersOf_0b11 fX4_membersOf_0b18 fX4_membersOf_0b30 fX4_membersOf_0b37 fX4_membersOf_0b38
        simp only [bd_e, show (nI k).toNatClampNeg = k from nI_clamp (by omega), b1, nI_eq (a := b k) (b := h) (by omega) (by omega), y_shl1 (show k < 31 by omega), n_add1]
        rw [if_neg (fun q => absurd ((leN (by omega) (by omega)).mp q) (by omega)), if_neg (show ¬ 9 ≤ nI k from fun z => absurd ((leN (a := 9) (by omega) (by omega)).mp z) (by omega))]
        by_cases c : b k = h
        · rw [if_pos c, if_pos c, y_or, Nat.or_comm, or_pow ml]
        · rw [if_neg c, if_neg c, Int32.or_zero]
  have z := loop 4096 n 0 (by omega) (by omega)
  rw [show mk b h 0 = 0 from rfl, nI_0] at z
  unfold fX4_membersOf_0 fX4_membersOf_0b0
  exact z
/-- sets below k with as many pieces: all, and those that come to as much at most -/
def oc (D : Nat → Nat) (n s : Nat) (all : Bool) : Nat → Nat
  | 0 => 0
  | k + 1 => oc D n s all k + (if pc k = pc s ∧ (all = true ∨ bs D k n ≤ bs D s n) then 1 else 0)
theorem oc_le {D : Nat → Nat} {n s : Nat} {all : Bool} : ∀ k, oc D n s all k ≤ k
  | 0 => Nat.le_refl _
  | k + 1 => by
    have h := oc_le (D := D) (n := n) (s := s) (all := all) k
    show oc D n s all k + (if pc k = pc s ∧ (all = true ∨ bs D k n ≤ bs D s n) then 1 else 0) ≤ k + 1
    split <;> omega
theorem pc_le (x : Nat) : pc x ≤ 3564 := bs_le 9 fun _ _ => by omega
theorem do45_l {D : Nat → Nat} {n s : Nat} {l4 : Int32} {τ : ST} (hn : n ≤ 9) (hs : s < 2 ^ n) (hD : ∀ k, k < n → D k ≤ 396) (h51 : ∀ x, x < 2 ^ n → τ.2.2 51 x = nI (bs D x n)) : ∀ (fu d k : Nat), k + d = 2 ^ n → d < fu → fX5_dealsOf_0l45 fu (nI s) l4 (nI n) (nI (pc s)) (nI (oc D n s (decide (¬ l4 = 0)) k)) (nI k) τ = (nI (oc D n s (decide (¬ l4 = 0)) (2 ^ n)), τ) := by
  have p9 := pow9 hn
  intro fu
  induction fu with
  | zero =>
    intro d k _ h
    exact absurd h (Nat.not_lt_zero _)
  | succ fu ih =>
    intro d k hd hf
    cases d with
    | zero =>
      have ek : k = 2 ^ n := by omega
      rw [← ek]
      show fX5_dealsOf_0b45 (fX5_dealsOf_0l45 fu) (nI s) l4 (nI n) (nI (pc s)) _ (nI k) τ = _
      unfold fX5_dealsOf_0b45 fX5_dealsOf_0b94
      simp only [bd_e, y_shl1 (show n < 31 by omega)]
      rw [if_pos ((leN (by omega) (by omega)).mpr (by omega))]
    | succ d =>
      have pk := pc_le k
      have ps := pc_le s
      have bk := bs_le (D := D) (x := k) n hD
      have bS := bs_le (D := D) (x := s) n hD
      rw [← ih d (k + 1) (by omega) (by omega)]
      show fX5_dealsOf_0b45 (fX5_dealsOf_0l45 fu) (nI s) l4 (nI n) (nI (pc s)) (nI (oc D n s (decide (¬ l4 = 0)) k)) (nI k) τ = fX5_dealsOf_0l45 fu (nI s) l4 (nI n) (nI (pc s)) (nI (oc D n s (decide (¬ l4 = 0)) k + (if pc k = pc s ∧ (decide (¬ l4 = 0) = true ∨ bs D k n ≤ bs D s n) then 1 else 0))) (nI (k + 1)) τ
      unfold fX5_dealsOf_0b45 fX5_dealsOf_0b54 fX5_dealsOf_0b64 fX5_dealsOf_0b69 fX5_dealsOf_0b85 fX5_dealsOf_0b88
      simp only [bd_e, y_shl1 (show n < 31 by omega), bitCount_X (show k < 512 by omega), nI_eq (a := pc k) (b := pc s) (by omega) (by omega), show (nI k).toNatClampNeg = k from nI_clamp (by omega), show (nI s).toNatClampNeg = s from nI_clamp (by omega), h51 k (by omega), h51 s hs, n_add1]
      rw [if_neg (fun q => absurd ((leN (by omega) (by omega)).mp q) (by omega))]
      by_cases c1 : pc k = pc s
      · rw [if_pos c1]
        by_cases c2 : l4 = 0
        · rw [if_pos c2]
          by_cases c3 : bs D k n ≤ bs D s n
          · rw [if_neg (fun q => absurd (y_lt (by omega) (by omega) q) (by omega)), if_pos ⟨c1, Or.inr c3⟩]
          · rw [if_pos ((nI_ltI (by omega) (by omega)).mpr (by omega)), if_neg (fun w => w.2.elim (fun q => (of_decide_eq_true q) c2) c3), Nat.add_zero (oc D n s (decide (¬ l4 = 0)) k)]
        · rw [if_neg c2, if_pos ⟨c1, Or.inl (decide_eq_true c2)⟩]
      · rw [if_neg c1, if_neg (fun w => c1 w.1), Nat.add_zero (oc D n s (decide (¬ l4 = 0)) k)]
theorem dealsOf_X {D : Nat → Nat} {n s v : Nat} {l4 : Int32} {σ : ST} (hn : n ≤ 9) (hv : v < 6) (h5 : σ.1 5 = nI n) (hs : s < 2 ^ n) (hD : ∀ k, k < n → D k ≤ 396) (hO : ∀ ρ, Fr [] [(51, 51)] σ ρ → ∀ p, p < n → fX11_off_3 (nI (p * 4)) (nI (v * 4)) ρ = nI (D p)) : (fX5_dealsOf_0 (nI s) (nI v) l4 σ).1 = nI (oc D n s (decide (¬ l4 = 0)) (2 ^ n)) ∧ Fr [] [(51, 51)] σ (fX5_dealsOf_0 (nI s) (nI v) l4 σ).2 := by
  have p9 := pow9 hn
  obtain ⟨f1, f2⟩ := fillOffs_X (D := D) hn hv hO
  have z := do45_l (l4 := l4) hn hs hD f1 4096 (2 ^ n) 0 (by omega) (by omega)
  have e9 : (if (9 : Int32) < nI n then 9 else nI n) = nI n := if_neg (show ¬ (9 : Int32) < nI n from fun z => absurd (y_lt (a := 9) (by omega) (by omega) z) (by omega))
  have e : fX5_dealsOf_0 (nI s) (nI v) l4 σ = (nI (oc D n s (decide (¬ l4 = 0)) (2 ^ n)), fX5_fillOffs_0 (nI n) (nI v) σ) := by
    rw [← z, show oc D n s (decide (¬ l4 = 0)) 0 = 0 from rfl, nI_0]
    unfold fX5_dealsOf_0 fX5_dealsOf_0b0 fX5_dealsOf_0b23 fX5_dealsOf_0b33
    simp only [bd_e, h5, e9, y_shl1 (show n < 31 by omega), bitCount_X (show s < 512 by omega)]
    rw [if_neg (nI_pos (by omega)), if_pos ((nI_ltI (by omega) (by omega)).mpr hs)]
  rw [e]
  exact ⟨rfl, f2⟩
/-- the reference's sum of a set -/
theorem of17_l {K : Int32 → Int32 → Int32 → Int32 → ST → Int32} {x v p n A : Nat} {f g : Nat → Nat} {τ : ST} (hx : x < 512) (hv : v < 6) (hp : p < 9) (hf : ∀ k, k < 4 → τ.2.2 78 (4 * p + k) = nI (f k) ∧ f k ≤ 99) (hg : ∀ k, k < 4 → τ.2.2 91 (4 * v + k) = nI (g k) ∧ g k ≤ 99) : ∀ (fu d k : Nat), k + d = 4 → d < fu → fX12_offsOf_0l17 K fu (nI x) (nI v) (nI (A + (if x.testBit p = true then sumTo (fun k => ad (f k) (g k)) k else 0))) (nI p) (nI k) τ = K (nI x) (nI v) (nI (A + (if x.testBit p = true then sumTo (fun k => ad (f k) (g k)) 4 else 0))) (nI (p + 1)) τ
  | 0, _, _, _, h => absurd h (Nat.not_lt_zero _)
  | fu + 1, 0, k, hk, _ => by
    have k4 : k = 4 := by omega
    subst k4
    show fX12_offsOf_0b17 K (fX12_offsOf_0l17 K fu) (nI x) (nI v) _ (nI p) (nI 4) τ = _
    unfold fX12_offsOf_0b17 fX12_offsOf_0b69
    rw [if_pos (show 4 ≤ nI 4 by decide)]
    simp only [bd_e, n_add1]
  | fu + 1, d + 1, k, hk, hfu => by
    obtain ⟨f1, f2⟩ := hf k (by omega)
    obtain ⟨g1, g2⟩ := hg k (by omega)
    show fX12_offsOf_0b17 K (fX12_offsOf_0l17 K fu) (nI x) (nI v) _ (nI p) (nI k) τ = _
    unfold fX12_offsOf_0b17 fX12_offsOf_0b23
    rw [if_neg (show ¬ 4 ≤ nI k from fun z => absurd ((leN (a := 4) (by omega) (by omega)).mp z) (by omega))]
    simp only [bd_e, bit1 hx hp]
    by_cases c : x.testBit p = true
    · have ih := of17_l (K := K) (n := n) (A := A) hx hv hp hf hg fu d (k + 1) (by omega) (by omega)
      rw [if_pos c, if_pos c] at ih
      rw [if_pos c, if_pos c, if_pos c, if_pos (show nI 1 = 1 from rfl), ← ih]
      unfold fX12_offsOf_0b33
      simp only [bd_e, n_4mul, nI_add, n_add1, show (nI (4 * p + k)).toNatClampNeg = 4 * p + k from nI_clamp (by omega), show (nI (4 * v + k)).toNatClampNeg = 4 * v + k from nI_clamp (by omega), f1, g1, size_M (a := f k) (b := g k) (by omega) (by omega), Nat.add_assoc]
      rfl
    · rw [if_neg c, if_neg c, if_neg c, if_neg (show ¬ nI 0 = 1 by decide)]
      unfold fX12_offsOf_0b69
      simp only [bd_e, n_add1]
theorem offs_M {x v n : Nat} {m : Nat → Nat → Nat} {g : Nat → Nat} {τ : ST} (hx : x < 512) (hv : v < 6) (hn : n ≤ 9) (h35 : τ.1 35 = nI n) (hf : ∀ p, p < n → ∀ k, k < 4 → τ.2.2 78 (4 * p + k) = nI (m p k) ∧ m p k ≤ 99) (hg : ∀ k, k < 4 → τ.2.2 91 (4 * v + k) = nI (g k) ∧ g k ≤ 99) : fX12_offsOf_0 (nI x) (nI v) τ = nI (bs (fun p => sumTo (fun k => ad (m p k) (g k)) 4) x n) := by
  have loop : ∀ (fu d p : Nat), p + d = n → d < fu → fX12_offsOf_0l5 fu (nI x) (nI v) (nI (bs (fun p => sumTo (fun k => ad (m p k) (g k)) 4) x p)) (nI p) τ = nI (bs (fun p => sumTo (fun k => ad (m p k) (g k)) 4) x n) := by
    intro fu
    induction fu with
    | zero =>
      intro d p _ h
      exact absurd h (Nat.not_lt_zero _)
    | succ fu ih =>
      intro d p hd hf2
      cases d with
      | zero =>
        have ep : p = n := by omega
        subst ep
        show fX12_offsOf_0b5 (fX12_offsOf_0l5 fu) (nI x) (nI v) _ (nI p) τ = _
        unfold fX12_offsOf_0b5 fX12_offsOf_0b75
        simp only [bd_e, h35]
        rw [if_pos ((leN (by omega) (by omega)).mpr (Nat.le_refl _))]
      | succ d =>
        have z := of17_l (K := fX12_offsOf_0l5 fu) (n := n) (A := bs (fun p => sumTo (fun k => ad (m p k) (g k)) 4) x p) hx hv (show p < 9 by omega) (hf p (by omega)) hg 4096 4 0 (by omega) (by omega)
        have e0 : bs (fun p => sumTo (fun k => ad (m p k) (g k)) 4) x p + (if x.testBit p = true then sumTo (fun k => ad (m p k) (g k)) 0 else 0) = bs (fun p => sumTo (fun k => ad (m p k) (g k)) 4) x p := by
          by_cases c : x.testBit p = true
          · rw [if_pos c]
            rfl
          · rw [if_neg c]
            rfl
        rw [e0, nI_0] at z
        rw [← ih d (p + 1) (by omega) (by omega)]
        show _ = fX12_offsOf_0l5 fu (nI x) (nI v) (nI (bs (fun p => sumTo (fun k => ad (m p k) (g k)) 4) x p + (if x.testBit p = true then sumTo (fun k => ad (m p k) (g k)) 4 else 0))) (nI (p + 1)) τ
        rw [← z]
        show fX12_offsOf_0b5 (fX12_offsOf_0l5 fu) (nI x) (nI v) _ (nI p) τ = _
        unfold fX12_offsOf_0b5 fX12_offsOf_0b14
        simp only [bd_e, h35]
        rw [if_neg (fun q => absurd ((leN (by omega) (by omega)).mp q) (by omega))]
  have z := loop 4096 n 0 (by omega) (by omega)
  rw [show bs (fun p => sumTo (fun k => ad (m p k) (g k)) 4) x 0 = 0 from rfl, nI_0] at z
  unfold fX12_offsOf_0 fX12_offsOf_0b0
  exact z
theorem od96_l {D : Nat → Nat} {n s v : Nat} {w : Int32} {τ : ST} (hn : n ≤ 9) (hs : s < 2 ^ n) (h35 : τ.1 35 = nI n) (hD : ∀ k, k < n → D k ≤ 396) (hO : ∀ x, x < 512 → fX12_offsOf_0 (nI x) (nI v) τ = nI (bs D x n)) : ∀ (fu d k : Nat), k + d = 2 ^ n → d < fu → fX12_odds_0l96 fu (nI v) w (nI s) (nI (oc D n s true k)) (nI (oc D n s false k)) (nI k) τ = fX12_odds_0b156 w (nI (oc D n s true (2 ^ n))) (nI (oc D n s false (2 ^ n))) τ := by
  have p9 := pow9 hn
  intro fu
  induction fu with
  | zero =>
    intro d k _ h
    exact absurd h (Nat.not_lt_zero _)
  | succ fu ih =>
    intro d k hd hf
    cases d with
    | zero =>
      have ek : k = 2 ^ n := by omega
      rw [← ek]
      show fX12_odds_0b96 (fX12_odds_0l96 fu) (nI v) w (nI s) _ _ (nI k) τ = _
      unfold fX12_odds_0b96
      simp only [bd_e, h35, y_shl1 (show n < 31 by omega)]
      rw [if_pos ((leN (by omega) (by omega)).mpr (by omega))]
    | succ d =>
      have pk := pc_le k
      have ps := pc_le s
      have bk := bs_le (D := D) (x := k) n hD
      have bS := bs_le (D := D) (x := s) n hD
      rw [← ih d (k + 1) (by omega) (by omega)]
      show fX12_odds_0b96 (fX12_odds_0l96 fu) (nI v) w (nI s) (nI (oc D n s true k)) (nI (oc D n s false k)) (nI k) τ = fX12_odds_0l96 fu (nI v) w (nI s) (nI (oc D n s true k + (if pc k = pc s ∧ (true = true ∨ bs D k n ≤ bs D s n) then 1 else 0))) (nI (oc D n s false k + (if pc k = pc s ∧ (false = true ∨ bs D k n ≤ bs D s n) then 1 else 0))) (nI (k + 1)) τ
      unfold fX12_odds_0b96 fX12_odds_0b107 fX12_odds_0b120 fX12_odds_0b146 fX12_odds_0b142 fX12_odds_0b147 fX12_odds_0b150
      simp only [bd_e, h35, y_shl1 (show n < 31 by omega), bits_M (show k < 512 by omega), bits_M (show s < 512 by omega), nI_eq (a := pc k) (b := pc s) (by omega) (by omega), hO k (by omega), hO s (by omega), n_add1]
      rw [if_neg (fun q => absurd ((leN (by omega) (by omega)).mp q) (by omega))]
      by_cases c1 : pc k = pc s
      · rw [if_pos c1, if_pos (show pc k = pc s ∧ (True ∨ bs D k n ≤ bs D s n) from ⟨c1, Or.inl trivial⟩)]
        by_cases c3 : bs D k n ≤ bs D s n
        · rw [if_neg (fun q => absurd (y_lt (by omega) (by omega) q) (by omega)), if_pos (show pc k = pc s ∧ (false = true ∨ bs D k n ≤ bs D s n) from ⟨c1, Or.inr c3⟩)]
        · rw [if_pos ((nI_ltI (by omega) (by omega)).mpr (by omega)), if_neg (show ¬ (pc k = pc s ∧ (false = true ∨ bs D k n ≤ bs D s n)) from fun w => w.2.elim (fun q => absurd q (by decide)) c3), Nat.add_zero (oc D n s false k), Int32.add_zero]
      · rw [if_neg c1, if_neg (show ¬ (pc k = pc s ∧ (True ∨ bs D k n ≤ bs D s n)) from fun w => c1 w.1), if_neg (show ¬ (pc k = pc s ∧ (false = true ∨ bs D k n ≤ bs D s n)) from fun w => c1 w.1), Nat.add_zero (oc D n s true k), Nat.add_zero (oc D n s false k)]
theorem od48_l {b : Nat → Nat} {n h v : Nat} {w : Int32} {τ : ST} (hn : n ≤ 9) (hh : h < 9) (h35 : τ.1 35 = nI n) (hb : ∀ q, q < n → τ.2.2 86 q = nI (b q) ∧ b q < 9) : ∀ (fu d k : Nat), k + d = n → d < fu → fX12_odds_0l48 fu (nI h) (nI v) w (nI (mk b h k)) (nI k) τ = fX12_odds_0b87 (nI v) w (nI (mk b h n)) τ := by
  intro fu
  induction fu with
  | zero =>
    intro d k _ h
    exact absurd h (Nat.not_lt_zero _)
  | succ fu ih =>
    intro d k hd hf
    cases d with
    | zero =>
      have ek : k = n := by omega
      subst ek
      show fX12_odds_0b48 (fX12_odds_0l48 fu) (nI h) (nI v) w (nI (mk b h k)) (nI k) τ = _
      unfold fX12_odds_0b48
      simp only [bd_e, h35]
      rw [if_pos ((leN (by omega) (by omega)).mpr (Nat.le_refl _))]
    | succ d =>
      obtain ⟨b1, b2⟩ := hb k (by omega)
      have ml := mk_lt b h k
      rw [← ih d (k + 1) (by omega) (by omega)]
      show fX12_odds_0b48 (fX12_odds_0l48 fu) (nI h) (nI v) w (nI (mk b h k)) (nI k) τ = fX12_odds_0l48 fu (nI h) (nI v) w (nI (if b k = h then 2 ^ k + mk b h k else mk b h k)) (nI (k + 1)) τ
      unfold fX12_odds_0b48 fX12_odds_0b57 fX12_odds_0b70 fX12_odds_0b77 fX12_odds_0b78
      simp only [bd_e, h35, show (nI k).toNatClampNeg = k from nI_clamp (by omega), b1, nI_eq (a := b k) (b := h) (by omega) (by omega), y_shl1 (show k < 31 by omega), n_add1]
      rw [if_neg (fun q => absurd ((leN (by omega) (by omega)).mp q) (by omega))]
      by_cases c : b k = h
      · rw [if_pos c, if_pos c, y_or, Nat.or_comm, or_pow ml]
      · rw [if_neg c, if_neg c, Int32.or_zero]
theorem odds_X {K : Nat} (h v w : Int32) {σ : ST} (h19 : σ.1 19 = nI K) (hK : K ≤ 6) : fX11_odds_0 h v w σ = if HNo h ∧ PN v K ∧ ¬ w < 0 ∧ ¬ 1 < w then (if 0 ≤ (fX11_refusedHeap_0 h σ).1 then fX11_odds_0b44 h v w (fX11_refusedHeap_0 h σ).2 else fX11_refusedHeap_0 h σ) else (-1, σ) := by
  unfold fX11_odds_0 fX11_odds_0b0 fX11_odds_0b7 fX11_odds_0b18 fX11_odds_0b27 fX11_odds_0b29 fX11_odds_0b41
  simp only [bd_e, bp_e, isHeapNumber_X, has_X v h19 hK, within_X, ite01, pmk]
  by_cases c : HNo h
  · rw [if_neg (fun q => q c)]
    by_cases e : PN v K
    · rw [if_neg (fun q => q e)]
      by_cases d : ¬ w < 0 ∧ ¬ 1 < w
      · rw [if_neg (fun q => q d), if_pos (show HNo h ∧ PN v K ∧ ¬ w < 0 ∧ ¬ 1 < w from ⟨c, e, d⟩)]
      · rw [if_pos d, if_neg (show ¬ (HNo h ∧ PN v K ∧ ¬ w < 0 ∧ ¬ 1 < w) from fun q => d q.2.2)]
    · rw [if_pos e, if_neg (show ¬ (HNo h ∧ PN v K ∧ ¬ w < 0 ∧ ¬ 1 < w) from fun q => e q.2.1)]
  · rw [if_pos c, if_neg (show ¬ (HNo h ∧ PN v K ∧ ¬ w < 0 ∧ ¬ 1 < w) from fun q => c q.1)]
theorem odds_M {K : Nat} (h v w : Int32) {τ : ST} (h40 : τ.1 40 = nI K) : fX12_odds_0 h v w τ = if PN v K ∧ ¬ w < 0 ∧ ¬ 1 < w then (if (fX12_wrong_0 h τ).1 = 0 then fX12_odds_0b42 h v w (fX12_wrong_0 h τ).2 else fX12_wrong_0 h τ) else (-1, τ) := by
  unfold fX12_odds_0 fX12_odds_0b0 fX12_odds_0b14 fX12_odds_0b23 fX12_odds_0b31 fX12_odds_0b32 fX12_odds_0b39
  simp only [bd_e, bp_e, h40, in_M, ite01, pmk]
  by_cases e : PN v K
  · rw [if_neg (fun q => q e)]
    by_cases d : ¬ w < 0 ∧ ¬ 1 < w
    · rw [if_neg (fun q => q d), if_pos (show PN v K ∧ ¬ w < 0 ∧ ¬ 1 < w from ⟨e, d⟩)]
    · rw [if_pos d, if_neg (show ¬ (PN v K ∧ ¬ w < 0 ∧ ¬ 1 < w) from fun q => d q.2), if_neg (show ¬ (-1 : Int32) = 0 by decide)]
  · rw [if_pos e, if_neg (show ¬ (PN v K ∧ ¬ w < 0 ∧ ¬ 1 < w) from fun q => e q.1), if_neg (show ¬ (-1 : Int32) = 0 by decide)]
theorem odds_eq {V : Nat → Nat} {H : Nat → Bool} {c c1 N r2 r3 r4 r5 : Nat} {σ : ST} (hK : KH σ) (hB : FB V H c c1 N r2 r3 r4 r5 σ) (hJ : JK σ) (h v w : Int32) {σ1 : ST} {v1 : Int32} (x1 : fX11_odds_0 h v w σ = (v1, σ1)) (f1 : Fr [(3, 12), (14, 18), (22, 23)] [(8, 19), (21, 29), (31, 47), (51, 51)] σ σ1) : v1 = (fX12_odds_0 h v w σ1).1 := by
  obtain ⟨K, j1, j2, j3, j4⟩ := hJ
  rw [odds_X h v w j2 j1] at x1
  rw [odds_M h v w (K := K) (by rw [f1.1 40 rfl]; exact j3)]
  by_cases hw : PN v K ∧ ¬ w < 0 ∧ ¬ 1 < w
  · rw [if_pos hw]
    by_cases hh : HNo h
    · rw [if_pos (show HNo h ∧ PN v K ∧ ¬ w < 0 ∧ ¬ 1 < w from ⟨hh, hw⟩)] at x1
      obtain ⟨a, a1, a2, a3, a4, a5, a6⟩ := refused_both hK hB h
      have hB1 := hB.fr f1 rfl
      rw [a2] at x1
      obtain ⟨τ2, b1, b2, b3, b4⟩ := wrong_both hB1 a4 a5.1.2.2.2.2.1 hh a1
      rcases a1.cases with rfl | ⟨_, w2, w3⟩
      · rw [if_pos (show (0 : Int32) ≤ ((0 : Int32), (fX11_heapNow_0 σ).2).1 from (show (0 : Int32) ≤ 0 by decide))] at x1
        obtain ⟨x, rfl, hx, hx2, hx3⟩ := a1.lt hh
        have q := a3 hx2
        have x1' : fX11_odds_0b44 (nI x) v w (fX11_heapNow_0 σ).2 = (v1, σ1) := x1
        generalize gs : (fX11_heapNow_0 σ).2 = s at *
        obtain ⟨u, rfl, hu⟩ := hw.1.nat (by omega)
        have m99 : ∀ p, p < (CUT V H c N).1.1 → ∀ k, k < 4 → MI (cvW V ((CUT V H c N).1.2.1 p).1) ((CUT V H c N).1.2.1 p).2.1 k ≤ 99 := fun p hp k hk => MI_99 a5.1.2.2.2.2.1 hp hk
        obtain ⟨_, j5⟩ := j4 u hu
        have hg : ∃ g : Nat → Nat, ∀ k, k < 4 → (s.2.2 50 (u * 4 + k) = nI (g k) ∧ σ.2.2 91 (4 * u + k) = nI (g k)) ∧ g k ≤ 99 := by
          refine ⟨fun k => (σ.2.2 50 (u * 4 + k)).toNatClampNeg, fun k hk => ?_⟩
          obtain ⟨m, m1, m2, m3⟩ := j5 k hk
          have em : (σ.2.2 50 (u * 4 + k)).toNatClampNeg = m := by rw [m2]; exact nI_clamp (by omega)
          show (s.2.2 50 (u * 4 + k) = nI (σ.2.2 50 (u * 4 + k)).toNatClampNeg ∧ σ.2.2 91 (4 * u + k) = nI (σ.2.2 50 (u * 4 + k)).toNatClampNeg) ∧ (σ.2.2 50 (u * 4 + k)).toNatClampNeg ≤ 99
          rw [em, a6.2 50 rfl]
          exact ⟨⟨m2, m3⟩, m1⟩
        obtain ⟨g, hg⟩ := hg
        have D396 : ∀ p, p < (CUT V H c N).1.1 → (fun p => sumTo (fun k => ad (MI (cvW V ((CUT V H c N).1.2.1 p).1) ((CUT V H c N).1.2.1 p).2.1 k) (g k)) 4) p ≤ 396 := fun p hp => off1_le (m99 p hp) (fun k hk => (hg k hk).2)
        have hb : ∀ q', q' < (CUT V H c N).1.1 → s.2.2 41 q' = nI ((BSc V H c N r2 r4).2.2 q') ∧ (BSc V H c N r2 r4).2.2 q' < 9 := fun q' hq' => ⟨(q.h41 hq').1, Nat.lt_of_lt_of_le (q.h41 hq').2 q.h10.2⟩
        have eM := members_X (h := x) hx2 (show x < 9 by omega) hb
        have ml := mk_lt (BSc V H c N r2 r4).2.2 x (CUT V H c N).1.1
        have dX := fun l4 => dealsOf_X (D := fun p => sumTo (fun k => ad (MI (cvW V ((CUT V H c N).1.2.1 p).1) ((CUT V H c N).1.2.1 p).2.1 k) (g k)) 4) (l4 := l4) (v := u) (s := mk (BSc V H c N r2 r4).2.2 x (CUT V H c N).1.1) hx2 (show u < 6 by omega) a4.1.1 ml D396 (fun ρ f p hp => off3_e (by omega) (by omega) (fun k hk => ⟨by rw [f.2 15 rfl]; exact (a4.1.2.1 p hp).2.2.2.2 k hk, m99 p hp k hk⟩) (fun k hk => ⟨by rw [f.2 50 rfl]; exact (hg k hk).1.1, (hg k hk).2⟩))
        have sX : (fX11_odds_0b44 (nI x) (nI u) w s).1 = if w = 1 then nI (oc (fun p => sumTo (fun k => ad (MI (cvW V ((CUT V H c N).1.2.1 p).1) ((CUT V H c N).1.2.1 p).2.1 k) (g k)) 4) (CUT V H c N).1.1 (mk (BSc V H c N r2 r4).2.2 x (CUT V H c N).1.1) true (2 ^ (CUT V H c N).1.1)) else nI (oc (fun p => sumTo (fun k => ad (MI (cvW V ((CUT V H c N).1.2.1 p).1) ((CUT V H c N).1.2.1 p).2.1 k) (g k)) 4) (CUT V H c N).1.1 (mk (BSc V H c N r2 r4).2.2 x (CUT V H c N).1.1) false (2 ^ (CUT V H c N).1.1)) := by
          unfold fX11_odds_0b44 fX11_odds_0b76 fX11_odds_0b80 fX11_odds_0b81
          simp only [bd_e, bp_e, a4.1.1, eM, pmk]
          by_cases c2 : w = 1
          · rw [if_pos c2, if_pos c2]
            exact (dX 1).1
          · rw [if_neg c2, if_neg c2]
            exact (dX 0).1
        rw [x1'] at sX
        have ev : v1 = _ := sX
        rw [b1, if_pos rfl]
        show v1 = (fX12_odds_0b42 (nI x) (nI u) w τ2).1
        have e35 : τ2.1 35 = nI (CUT V H c N).1.1 := b3.1.1
        have u1 := od48_l (v := u) (w := w) (h := x) (b := (BSc V H c N r2 r4).2.2) (τ := τ2) hx2 (show x < 9 by omega) e35 (fun q' hq' => ⟨(b2 hx2).2 q' hq', (hb q' hq').2⟩) 4096 (CUT V H c N).1.1 0 (by omega) (by omega)
        have hO : ∀ y, y < 512 → fX12_offsOf_0 (nI y) (nI u) τ2 = nI (bs (fun p => sumTo (fun k => ad (MI (cvW V ((CUT V H c N).1.2.1 p).1) ((CUT V H c N).1.2.1 p).2.1 k) (g k)) 4) y (CUT V H c N).1.1) := fun y hy => offs_M (m := fun p k => MI (cvW V ((CUT V H c N).1.2.1 p).1) ((CUT V H c N).1.2.1 p).2.1 k) (g := g) hy (show u < 6 by omega) hx2 e35 (fun p hp k hk => ⟨(b3.1.2 p hp).2.2.2 k hk, m99 p hp k hk⟩) (fun k hk => ⟨by rw [b4.2 91 rfl, f1.2 91 rfl]; exact (hg k hk).1.2, (hg k hk).2⟩)
        have u2 := od96_l (w := w) hx2 ml e35 D396 hO 4096 (2 ^ (CUT V H c N).1.1) 0 (by omega) (by have := pow9 hx2; omega)
        have u3 : fX12_odds_0b42 (nI x) (nI u) w τ2 = fX12_odds_0b156 w (nI (oc (fun p => sumTo (fun k => ad (MI (cvW V ((CUT V H c N).1.2.1 p).1) ((CUT V H c N).1.2.1 p).2.1 k) (g k)) 4) (CUT V H c N).1.1 (mk (BSc V H c N r2 r4).2.2 x (CUT V H c N).1.1) true (2 ^ (CUT V H c N).1.1))) (nI (oc (fun p => sumTo (fun k => ad (MI (cvW V ((CUT V H c N).1.2.1 p).1) ((CUT V H c N).1.2.1 p).2.1 k) (g k)) 4) (CUT V H c N).1.1 (mk (BSc V H c N r2 r4).2.2 x (CUT V H c N).1.1) false (2 ^ (CUT V H c N).1.1))) τ2 := by
          rw [show mk (BSc V H c N r2 r4).2.2 x 0 = 0 from rfl, nI_0] at u1
          rw [← u2]
          unfold fX12_odds_0b42
          rw [u1]
          unfold fX12_odds_0b87
          rw [nI_0]
          rfl
        rw [u3, ev]
        unfold fX12_odds_0b156 fX12_odds_0b160 fX12_odds_0b165 fX12_odds_0b167
        rcases a01 hw.2 with rfl | rfl
        · rw [if_neg (show ¬ (0 : Int32) = 1 by decide), if_pos rfl]
        · rw [if_pos rfl, if_neg (show ¬ (1 : Int32) = 0 by decide)]
      · rw [if_neg w2] at x1
        rw [b1, if_neg w3]
        exact (pin1 x1).symm
    · rw [if_neg (fun q => hh q.1)] at x1
      rw [wrong_bad hh, if_neg (show ¬ (-1 : Int32) = 0 by decide)]
      exact (pin1 x1).symm
  · rw [if_neg (fun q => hw q.2)] at x1
    rw [if_neg hw]
    exact (pin1 x1).symm
