/-! the state; numbers; bounds (INV), what is left alone (Fr); made by wip/gen (mkstate, mkany) -/
abbrev ST : Type := (Nat → Int32) × (Nat → Int64) × (Nat → Nat → Int32)
def sI (σ : ST) (k : Nat) (v : Int32) : ST := (fun j => cond (Nat.beq j k) v (σ.1 j), σ.2.1, σ.2.2)
def sL (σ : ST) (k : Nat) (v : Int64) : ST := (σ.1, fun j => cond (Nat.beq j k) v (σ.2.1 j), σ.2.2)
def sA (σ : ST) (k : Nat) (f : Nat → Int32) : ST := (σ.1, σ.2.1, fun j => cond (Nat.beq j k) f (σ.2.2 j))
def lenS : List Nat := [5, 4, 4, 4, 4, 5]
def bytS : List (List Int32) := [[112, 114, 105, 99, 101], [104, 117, 115, 104], [108, 105, 107, 101], [110, 101, 97, 114], [116, 117, 114, 110], [116, 119, 105, 99, 101]]
def atFirst : Nat → Value := fun j => match j with | 0 => .int 20 | 1 => .int 10 | 2 => .int 40 | 3 => .int 0 | 4 => .int 0 | _ => .int 10
def atMost : Nat → Value := fun j => match j with | 0 => .int 999 | 1 => .int 399 | 2 => .int 399 | 3 => .int 9999 | 4 => .int 999 | _ => .int 399
theorem x_and (i : Nat) (y : Int32) (hi : i < 2 ^ 31) : ∃ j : Nat, j ≤ i ∧ nI i &&& y = nI j := by
  refine ⟨(nI i &&& y).toBitVec.toNat, ?_, ?_⟩
  · show ((nI i).toBitVec &&& y.toBitVec).toNat ≤ i
    rw [BitVec.toNat_and, pk_tn (by omega)]
    exact Nat.and_le_left
  · refine Int32.toBitVec_inj.mp (BitVec.eq_of_toNat_eq ?_)
    rw [pk_tn]
    have h1 : (nI i &&& y).toBitVec.toNat ≤ i := by
      show ((nI i).toBitVec &&& y.toBitVec).toNat ≤ i
      rw [BitVec.toNat_and, pk_tn (by omega)]
      exact Nat.and_le_left
    omega
theorem sA_self (σ : ST) (a : Nat) : sA σ a (σ.2.2 a) = σ := by
  unfold sA
  refine Prod.ext rfl (Prod.ext rfl (funext fun j => ?_))
  show cond (Nat.beq j a) (σ.2.2 a) (σ.2.2 j) = σ.2.2 j
  cases h : Nat.beq j a
  · rfl
  · rw [Nat.eq_of_beq_eq_true h]
    rfl
theorem sA_sA (σ : ST) (i : Nat) (v w : Nat → Int32) : sA (sA σ i v) i w = sA σ i w := by
  unfold sA
  refine Prod.ext rfl (Prod.ext rfl (funext fun j => ?_))
  show cond (Nat.beq j i) w (cond (Nat.beq j i) v (σ.2.2 j)) = cond (Nat.beq j i) w (σ.2.2 j)
  cases Nat.beq j i <;> rfl
theorem sA_get (σ : ST) (i : Nat) (f : Nat → Int32) : (sA σ i f).2.2 i = f := by
  show cond (Nat.beq i i) f (σ.2.2 i) = f
  rw [Nat.beq_refl]
  rfl
def nowF : Nat → Int32 := upd (upd (upd (upd (upd (upd (fun _ => 0) 0 20) 1 10) 2 40) 3 0) 4 0) 5 10
def ruleF : Nat → Int32 := upd (upd (upd (upd (upd (upd (fun _ => 0) 0 20) 1 10) 2 40) 3 0) 4 0) 5 10
/-! from any state: bounds of ints and arrays (INV), what is left alone (Fr), rows that keep both; made by wip/gen/mkany.py -/
def Bd (x : Int32) (N : Nat) : Prop := ∃ n, n ≤ N ∧ x = nI n
theorem Bd.mk {n N : Nat} (h : n ≤ N) : Bd (nI n) N := ⟨n, h, rfl⟩
def bI (k : Nat) : Option Nat := cond (Nat.beq k 0) (some 200) (cond (Nat.beq k 1) (some 200) (cond (Nat.beq k 2) (some 48) (cond (Nat.beq k 3) (some 48) (cond (Nat.beq k 5) (some 48) (cond (Nat.beq k 9) (some 9) (cond (Nat.beq k 10) (some 9) (cond (Nat.beq k 19) (some 6) (cond (Nat.beq k 20) (some 12) (cond (Nat.beq k 25) (some 200) (cond (Nat.beq k 26) (some 200) (cond (Nat.beq k 27) (some 200) (cond (Nat.beq k 31) (some 48) (cond (Nat.beq k 32) (some 12) (cond (Nat.beq k 35) (some 48) (cond (Nat.beq k 40) (some 6) (none))))))))))))))))
def bA (k : Nat) : Option Nat := cond (Nat.beq k 19) (some 48) (cond (Nat.beq k 41) (some 8) (cond (Nat.beq k 44) (some 8) (cond (Nat.beq k 71) (some 5) (cond (Nat.beq k 85) (some 8) (cond (Nat.beq k 86) (some 8) (cond (Nat.beq k 87) (some 8) (none)))))))
def INV (σ : ST) : Prop := (∀ k N, bI k = some N → Bd (σ.1 k) N) ∧ (∀ a N, bA a = some N → ∀ j, Bd (σ.2.2 a j) N)
theorem INV.gI {σ : ST} (h : INV σ) (k N : Nat) (e : bI k = some N) : ∃ n, n ≤ N ∧ σ.1 k = nI n := h.1 k N e
theorem ba_none {P : Nat → Prop} {o : Option Nat} (h : o = none) : ∀ N, o = some N → P N := fun N e => by rw [h] at e; cases e
theorem ba_some {P : Nat → Prop} {o : Option Nat} {M : Nat} (h : o = some M) (b : P M) : ∀ N, o = some N → P N := fun N e => by rw [h] at e; cases e; exact b
theorem INV.putI {σ : ST} (h : INV σ) {k : Nat} {v : Int32} (hb : ∀ N, bI k = some N → Bd v N) : INV (sI σ k v) := by
  refine ⟨fun j N e => ?_, h.2⟩
  show Bd (cond (Nat.beq j k) v (σ.1 j)) N
  cases c : Nat.beq j k
  · exact h.1 j N e
  · have e2 := Nat.eq_of_beq_eq_true c
    subst e2
    exact hb N e
theorem INV.putL {σ : ST} (h : INV σ) {k : Nat} {v : Int64} : INV (sL σ k v) := h
theorem INV.putA {σ : ST} (h : INV σ) {a j : Nat} {x : Int32} (hb : ∀ N, bA a = some N → Bd x N) : INV (sA σ a (upd (σ.2.2 a) j x)) := by
  refine ⟨h.1, fun b N e i => ?_⟩
  show Bd ((cond (Nat.beq b a) (upd (σ.2.2 a) j x) (σ.2.2 b)) i) N
  cases c : Nat.beq b a
  · exact h.2 b N e i
  · have e2 := Nat.eq_of_beq_eq_true c
    subst e2
    show Bd (upd (σ.2.2 b) j x i) N
    unfold upd
    split
    · exact hb N e
    · exact h.2 b N e i
theorem INV.fill {σ : ST} (h : INV σ) {a : Nat} (ha : bA a = none) (f : Nat → Int32) : INV (sA σ a f) := by
  refine ⟨h.1, fun b N e i => ?_⟩
  show Bd ((cond (Nat.beq b a) f (σ.2.2 b)) i) N
  cases c : Nat.beq b a
  · exact h.2 b N e i
  · have e2 := Nat.eq_of_beq_eq_true c
    subst e2
    rw [ha] at e
    cases e
def inR (L : List (Nat × Nat)) (k : Nat) : Bool := L.any (fun q => Nat.ble q.1 k && Nat.ble k q.2)
def subR (L M : List (Nat × Nat)) : Bool := L.all (fun q => M.any (fun r => Nat.ble r.1 q.1 && Nat.ble q.2 r.2))
theorem inR_sub {L M : List (Nat × Nat)} (h : subR L M = true) {k : Nat} (hk : inR L k = true) : inR M k = true := by
  unfold inR at hk ⊢
  rw [List.any_eq_true] at hk ⊢
  obtain ⟨q, hq, e⟩ := hk
  unfold subR at h
  rw [List.all_eq_true] at h
  have h1 := h q hq
  rw [List.any_eq_true] at h1
  obtain ⟨r, hr, e1⟩ := h1
  refine ⟨r, hr, ?_⟩
  rw [Bool.and_eq_true] at e e1 ⊢
  exact ⟨Nat.ble_eq_true_of_le (Nat.le_trans (Nat.le_of_ble_eq_true e1.1) (Nat.le_of_ble_eq_true e.1)), Nat.ble_eq_true_of_le (Nat.le_trans (Nat.le_of_ble_eq_true e.2) (Nat.le_of_ble_eq_true e1.2))⟩
theorem inR_out {L M : List (Nat × Nat)} (h : subR L M = true) {k : Nat} (hk : inR M k = false) : inR L k = false := by
  cases c : inR L k
  · rfl
  · rw [inR_sub h c] at hk
    cases hk
/-- from σ to τ: no int but those of I, no array but those of J has changed -/
def Fr (I J : List (Nat × Nat)) (σ τ : ST) : Prop := (∀ k, inR I k = false → τ.1 k = σ.1 k) ∧ (∀ a, inR J a = false → τ.2.2 a = σ.2.2 a)
theorem Fr.refl {I J : List (Nat × Nat)} (σ : ST) : Fr I J σ σ := ⟨fun _ _ => rfl, fun _ _ => rfl⟩
theorem Fr.putI {I J : List (Nat × Nat)} {σ τ : ST} (h : Fr I J σ τ) {k : Nat} {v : Int32} (hs : inR I k = true) : Fr I J σ (sI τ k v) := by
  refine ⟨fun j e => ?_, h.2⟩
  show cond (Nat.beq j k) v (τ.1 j) = σ.1 j
  cases c : Nat.beq j k
  · exact h.1 j e
  · have e2 := Nat.eq_of_beq_eq_true c
    subst e2
    rw [hs] at e
    cases e
theorem Fr.putA {I J : List (Nat × Nat)} {σ τ : ST} (h : Fr I J σ τ) {k : Nat} {f : Nat → Int32} (hs : inR J k = true) : Fr I J σ (sA τ k f) := by
  refine ⟨h.1, fun j e => ?_⟩
  show cond (Nat.beq j k) f (τ.2.2 j) = σ.2.2 j
  cases c : Nat.beq j k
  · exact h.2 j e
  · have e2 := Nat.eq_of_beq_eq_true c
    subst e2
    rw [hs] at e
    cases e
theorem Fr.call {I J I2 J2 : List (Nat × Nat)} {σ τ ρ : ST} (h : Fr I J σ τ) (f : Fr I2 J2 τ ρ) (hI : subR I2 I = true) (hJ : subR J2 J = true) : Fr I J σ ρ := ⟨fun k e => (f.1 k (inR_out hI e)).trans (h.1 k e), fun a e => (f.2 a (inR_out hJ e)).trans (h.2 a e)⟩
theorem Fr.wide {I J I2 J2 : List (Nat × Nat)} {τ ρ : ST} (f : Fr I2 J2 τ ρ) (hI : subR I2 I = true) (hJ : subR J2 J = true) : Fr I J τ ρ := (Fr.refl τ).call f hI hJ
def Opt (c : Int32) (N : Nat) (x : Int32) : Prop := x = c ∨ ∃ n, n < N ∧ x = nI n
/-! numbers -/
theorem y_m1 (n : Nat) : nI n + (-1) = nI n - 1 := (Int32.sub_eq_add_neg (nI n) 1).symm
theorem y_m1p (n : Nat) : nI n - 1 + 1 = nI n := Int32.sub_add_cancel (nI n) 1
theorem y_shl1 {p : Nat} (h : p < 31) : (1 : Int32) <<< (nI p &&& 31) = nI (2 ^ p) := (show ∀ p, p < 31 → (1 : Int32) <<< (nI p &&& 31) = nI (2 ^ p) by decide +kernel) p h
theorem y_or (a b : Nat) : nI a ||| nI b = nI (a ||| b) := by
  refine Int32.toBitVec_inj.mp (BitVec.eq_of_toNat_eq ?_)
  show ((nI a).toBitVec ||| (nI b).toBitVec).toNat = (nI (a ||| b)).toBitVec.toNat
  rw [BitVec.toNat_or]
  show a % 2 ^ 32 ||| b % 2 ^ 32 = (a ||| b) % 2 ^ 32
  exact Nat.or_mod_two_pow.symm
theorem y_sub1 {n : Nat} (hn : n < 2 ^ 31) : (nI n - 1).toInt = (n : Int) - 1 := by
  rw [Int32.toInt_sub, nI_toInt hn]
  show ((n : Int) - 1).bmod (2 ^ 32) = _
  exact Int.bmod_eq_of_le (by omega) (by omega)

theorem y_lt {a b : Nat} (ha : a < 2 ^ 31) (hb : b < 2 ^ 31) (h : nI a < nI b) : a < b := (nI_ltI ha hb).mp h
theorem y_nlt {a b : Nat} (ha : a < 2 ^ 31) (hb : b < 2 ^ 31) (h : ¬ nI a < nI b) : b ≤ a := Nat.not_lt.mp fun q => h ((nI_ltI ha hb).mpr q)
theorem y_le {a b : Nat} (ha : a < 2 ^ 31) (hb : b < 2 ^ 31) (h : nI a ≤ nI b) : a ≤ b := (nI_leI ha hb).mp h
theorem y_nle {a b : Nat} (ha : a < 2 ^ 31) (hb : b < 2 ^ 31) (h : ¬ nI a ≤ nI b) : b < a := Nat.not_le.mp fun q => h ((nI_leI ha hb).mpr q)
theorem y_eq {a b : Nat} (ha : a < 2 ^ 31) (hb : b < 2 ^ 31) (h : nI a = nI b) : a = b := (nI_eq ha hb).mp h
theorem y_ne {a b : Nat} (ha : a < 2 ^ 31) (hb : b < 2 ^ 31) (h : ¬ nI a = nI b) : ¬ a = b := fun q => h ((nI_eq ha hb).mpr q)
theorem y_ltL {a b : Nat} (ha : a < 2 ^ 31) (hb : b < 2 ^ 31) (h : nI a - 1 < nI b) : a < b + 1 := by
  rw [Int32.lt_iff_toInt_lt] at h
  have e1 := y_sub1 ha
  have e2 := nI_toInt hb
  omega
theorem y_nltL {a b : Nat} (ha : a < 2 ^ 31) (hb : b < 2 ^ 31) (h : ¬ nI a - 1 < nI b) : b + 1 ≤ a := by
  rw [Int32.lt_iff_toInt_lt] at h
  have e1 := y_sub1 ha
  have e2 := nI_toInt hb
  omega
theorem y_leL {a b : Nat} (ha : a < 2 ^ 31) (hb : b < 2 ^ 31) (h : nI a - 1 ≤ nI b) : a ≤ b + 1 := by
  rw [Int32.le_iff_toInt_le] at h
  have e1 := y_sub1 ha
  have e2 := nI_toInt hb
  omega
theorem y_nleL {a b : Nat} (ha : a < 2 ^ 31) (hb : b < 2 ^ 31) (h : ¬ nI a - 1 ≤ nI b) : b + 1 < a := by
  rw [Int32.le_iff_toInt_le] at h
  have e1 := y_sub1 ha
  have e2 := nI_toInt hb
  omega
theorem y_ltR {a b : Nat} (ha : a < 2 ^ 31) (hb : b < 2 ^ 31) (h : nI a < nI b - 1) : a + 1 < b := by
  rw [Int32.lt_iff_toInt_lt] at h
  have e1 := nI_toInt ha
  have e2 := y_sub1 hb
  omega
theorem y_nltR {a b : Nat} (ha : a < 2 ^ 31) (hb : b < 2 ^ 31) (h : ¬ nI a < nI b - 1) : b ≤ a + 1 := by
  rw [Int32.lt_iff_toInt_lt] at h
  have e1 := nI_toInt ha
  have e2 := y_sub1 hb
  omega
theorem y_leR {a b : Nat} (ha : a < 2 ^ 31) (hb : b < 2 ^ 31) (h : nI a ≤ nI b - 1) : a + 1 ≤ b := by
  rw [Int32.le_iff_toInt_le] at h
  have e1 := nI_toInt ha
  have e2 := y_sub1 hb
  omega
theorem y_nleR {a b : Nat} (ha : a < 2 ^ 31) (hb : b < 2 ^ 31) (h : ¬ nI a ≤ nI b - 1) : b < a + 1 := by
  rw [Int32.le_iff_toInt_le] at h
  have e1 := nI_toInt ha
  have e2 := y_sub1 hb
  omega
theorem y_dec1 {n : Nat} (h : 1 ≤ n) : nI n + (-1) = nI (n - 1) := by
  obtain ⟨k, rfl⟩ : ∃ k, n = k + 1 := ⟨n - 1, by omega⟩
  exact pk_m1 k
theorem y_pow {p : Nat} (h : p ≤ 9) : 2 ^ p ≤ 512 ∧ 1 ≤ 2 ^ p ∧ (9 ≤ p ∨ 2 ^ p < 512) := (show ∀ p, p ≤ 9 → 2 ^ p ≤ 512 ∧ 1 ≤ 2 ^ p ∧ (9 ≤ p ∨ 2 ^ p < 512) by decide) p h
theorem y_or9 {a b : Nat} (ha : a < 512) (hb : b < 512) : (a ||| b) < 512 := Nat.or_lt_two_pow (n := 9) ha hb
theorem y_max {a b : Nat} (ha : a < 2 ^ 31) (hb : b < 2 ^ 31) : ∃ n, ((n = a ∨ n = b) ∧ a ≤ n ∧ b ≤ n) ∧ (if nI a < nI b then nI b else nI a) = nI n := by
  by_cases h : nI a < nI b
  · exact ⟨b, ⟨Or.inr rfl, Nat.le_of_lt (y_lt ha hb h), Nat.le_refl _⟩, if_pos h⟩
  · exact ⟨a, ⟨Or.inl rfl, Nat.le_refl _, y_nlt ha hb h⟩, if_neg h⟩
theorem y_min {a b : Nat} (ha : a < 2 ^ 31) (hb : b < 2 ^ 31) : ∃ n, ((n = a ∨ n = b) ∧ n ≤ a ∧ n ≤ b) ∧ (if nI b < nI a then nI b else nI a) = nI n := by
  by_cases h : nI b < nI a
  · exact ⟨b, ⟨Or.inr rfl, Nat.le_of_lt (y_lt hb ha h), Nat.le_refl _⟩, if_pos h⟩
  · exact ⟨a, ⟨Or.inl rfl, Nat.le_refl _, y_nlt hb ha h⟩, if_neg h⟩
theorem y_lo1 {x c : Int32} (h : ¬ x < c) (hc : ¬ c < 0) : 0 ≤ x.toInt := by
  rw [Int32.lt_iff_toInt_lt] at h hc
  have z : (0 : Int32).toInt = 0 := rfl
  omega
theorem y_lo2 {x c : Int32} (h : c ≤ x) (hc : ¬ c < 0) : 0 ≤ x.toInt := by
  rw [Int32.le_iff_toInt_le] at h
  rw [Int32.lt_iff_toInt_lt] at hc
  have z : (0 : Int32).toInt = 0 := rfl
  omega
theorem y_lo3 {x c : Int32} (h : c < x) (hc : ¬ c < 0) : 0 ≤ x.toInt := by
  rw [Int32.lt_iff_toInt_lt] at h hc
  have z : (0 : Int32).toInt = 0 := rfl
  omega
theorem y_lo4 {x : Int32} {n : Nat} (h : ¬ x < nI n) (hn : n < 2 ^ 31) : 0 ≤ x.toInt := y_lo1 h (nI_pos hn)
theorem y_lo5 {x : Int32} {n : Nat} (h : nI n ≤ x) (hn : n < 2 ^ 31) : 0 ≤ x.toInt := y_lo2 h (nI_pos hn)
theorem y_lo6 {x : Int32} {n : Nat} (h : nI n < x) (hn : n < 2 ^ 31) : 0 ≤ x.toInt := y_lo3 h (nI_pos hn)
theorem y_lo7 {x y : Int32} (lo : 0 ≤ x.toInt) (h : ¬ y < x) : 0 ≤ y.toInt := by
  rw [Int32.lt_iff_toInt_lt] at h
  omega
theorem y_lo8 {x y : Int32} (lo : 0 ≤ x.toInt) (h : x ≤ y) : 0 ≤ y.toInt := by
  rw [Int32.le_iff_toInt_le] at h
  omega
theorem y_lo9 {x y : Int32} (lo : 0 ≤ x.toInt) (h : x < y) : 0 ≤ y.toInt := by
  rw [Int32.lt_iff_toInt_lt] at h
  omega
theorem y_nlt_le {x y : Int32} (h : ¬ y < x) : x ≤ y := by
  rw [Int32.lt_iff_toInt_lt] at h
  rw [Int32.le_iff_toInt_le]
  omega
theorem y_lt_nle {x y : Int32} (h : x < y) : ¬ y ≤ x := by
  rw [Int32.lt_iff_toInt_lt] at h
  rw [Int32.le_iff_toInt_le]
  omega
theorem y_nle_lt {x y : Int32} (h : ¬ y ≤ x) : x < y := by
  rw [Int32.le_iff_toInt_le] at h
  rw [Int32.lt_iff_toInt_lt]
  omega
theorem y_nat {x : Int32} (lo : 0 ≤ x.toInt) : ∃ n, n < 2 ^ 31 ∧ x = nI n ∧ x.toInt = n := by
  have h : ¬ x < 0 := by
    rw [Int32.lt_iff_toInt_lt]
    have z : (0 : Int32).toInt = 0 := rfl
    omega
  obtain ⟨n, hn, e⟩ := nI_of h
  exact ⟨n, hn, e, by rw [e, nI_toInt hn]⟩
theorem y_rlt {x : Int32} {N : Nat} (lo : 0 ≤ x.toInt) (h : x < nI N) (hN : N < 2 ^ 31) : ∃ n, n < N ∧ x = nI n := by
  obtain ⟨n, hn, e, e2⟩ := y_nat lo
  rw [Int32.lt_iff_toInt_lt] at h
  have e3 := nI_toInt hN
  exact ⟨n, by omega, e⟩
theorem y_rnle {x : Int32} {N : Nat} (lo : 0 ≤ x.toInt) (h : ¬ nI N ≤ x) (hN : N < 2 ^ 31) : ∃ n, n < N ∧ x = nI n := by
  obtain ⟨n, hn, e, e2⟩ := y_nat lo
  rw [Int32.le_iff_toInt_le] at h
  have e3 := nI_toInt hN
  exact ⟨n, by omega, e⟩
theorem y_rle {x : Int32} {N : Nat} (lo : 0 ≤ x.toInt) (h : x ≤ nI N) (hN : N < 2 ^ 31) : ∃ n, n ≤ N ∧ x = nI n := by
  obtain ⟨n, hn, e, e2⟩ := y_nat lo
  rw [Int32.le_iff_toInt_le] at h
  have e3 := nI_toInt hN
  exact ⟨n, by omega, e⟩
theorem y_rnlt {x : Int32} {N : Nat} (lo : 0 ≤ x.toInt) (h : ¬ nI N < x) (hN : N < 2 ^ 31) : ∃ n, n ≤ N ∧ x = nI n := by
  obtain ⟨n, hn, e, e2⟩ := y_nat lo
  rw [Int32.lt_iff_toInt_lt] at h
  have e3 := nI_toInt hN
  exact ⟨n, by omega, e⟩
theorem y_rltM {x : Int32} {N : Nat} (lo : 0 ≤ x.toInt) (h : x < nI N - 1) (hN : N < 2 ^ 31) : ∃ n, n + 1 < N ∧ x = nI n := by
  obtain ⟨n, hn, e, e2⟩ := y_nat lo
  rw [Int32.lt_iff_toInt_lt] at h
  have e3 := y_sub1 hN
  exact ⟨n, by omega, e⟩
theorem y_rnleM {x : Int32} {N : Nat} (lo : 0 ≤ x.toInt) (h : ¬ nI N - 1 ≤ x) (hN : N < 2 ^ 31) : ∃ n, n + 1 < N ∧ x = nI n := by
  obtain ⟨n, hn, e, e2⟩ := y_nat lo
  rw [Int32.le_iff_toInt_le] at h
  have e3 := y_sub1 hN
  exact ⟨n, by omega, e⟩
theorem y_rleM {x : Int32} {N : Nat} (lo : 0 ≤ x.toInt) (h : x ≤ nI N - 1) (hN : N < 2 ^ 31) : ∃ n, n < N ∧ x = nI n := by
  obtain ⟨n, hn, e, e2⟩ := y_nat lo
  rw [Int32.le_iff_toInt_le] at h
  have e3 := y_sub1 hN
  exact ⟨n, by omega, e⟩
theorem y_rnltM {x : Int32} {N : Nat} (lo : 0 ≤ x.toInt) (h : ¬ nI N - 1 < x) (hN : N < 2 ^ 31) : ∃ n, n < N ∧ x = nI n := by
  obtain ⟨n, hn, e, e2⟩ := y_nat lo
  rw [Int32.lt_iff_toInt_lt] at h
  have e3 := y_sub1 hN
  exact ⟨n, by omega, e⟩
theorem y_neq (a : Nat) {c : Int32} (ha : a < 2 ^ 31) (hc : c < 0) : ¬ nI a = c := fun h => nI_pos ha (by rw [h]; exact hc)
theorem y_nltn (a : Nat) {c : Int32} (ha : a < 2 ^ 31) (hc : c < 0) : ¬ nI a < c := by
  rw [Int32.lt_iff_toInt_lt] at hc ⊢
  have e := nI_toInt ha
  have z : (0 : Int32).toInt = 0 := rfl
  omega
theorem y_nlen (a : Nat) {c : Int32} (ha : a < 2 ^ 31) (hc : c < 0) : ¬ nI a ≤ c := by
  rw [Int32.lt_iff_toInt_lt] at hc
  rw [Int32.le_iff_toInt_le]
  have e := nI_toInt ha
  have z : (0 : Int32).toInt = 0 := rfl
  omega
theorem y_gen (a : Nat) {c : Int32} (ha : a < 2 ^ 31) (hc : c < 0) : c ≤ nI a := by
  rw [Int32.lt_iff_toInt_lt] at hc
  rw [Int32.le_iff_toInt_le]
  have e := nI_toInt ha
  have z : (0 : Int32).toInt = 0 := rfl
  omega
theorem y_gtn (a : Nat) {c : Int32} (ha : a < 2 ^ 31) (hc : c < 0) : c < nI a := by
  rw [Int32.lt_iff_toInt_lt] at hc ⊢
  have e := nI_toInt ha
  have z : (0 : Int32).toInt = 0 := rfl
  omega
theorem y_tab0 (j : Nat) : ∃ v, atFirst j = .int v := by
  unfold atFirst
  split <;> exact ⟨_, rfl⟩
theorem y_tab1 (j : Nat) : ∃ v, atMost j = .int v := by
  unfold atMost
  split <;> exact ⟨_, rfl⟩
theorem y_dec {x y z : Int32} {fu : Nat} (hm : (y.toInt - x.toInt).toNat < fu + 1) (c : ¬ y ≤ x) (hz : z = x + 1) : (y.toInt - z.toInt).toNat < fu := by
  subst hz
  rw [Int32.le_iff_toInt_le] at c
  have h1 : (x + 1).toInt = x.toInt + 1 := by
    rw [Int32.toInt_add]
    show (x.toInt + 1).bmod (2 ^ 32) = _
    have l1 := Int32.toInt_lt y
    have l2 := Int32.le_toInt x
    exact Int.bmod_eq_of_le (by omega) (by omega)
  omega
