/-! a step of a pure function: a value, then the rest; made by wip/gen3/dec.py -/
def bd {α β : Type} (x : α) (F : α → β) : β := F x
theorem bd_to {α β : Type} {x y : α} {F : α → β} {R : β} (h : bd x F = R) (e : x = y) : F y = R := by
  subst e
  exact h
def bp {α β γ : Type} (x : α × β) (F : α → β → γ) : γ := F x.1 x.2
theorem bp_to {α β γ : Type} {x : α × β} {a : α} {b : β} {F : α → β → γ} {R : γ} (h : bp x F = R) (e : x = (a, b)) : F a b = R := by
  subst e
  exact h
theorem it_t {α : Type} {c : Prop} {i : Decidable c} {a b R : α} (h : @ite α c i a b = R) (hc : c) : a = R := (if_pos hc).symm.trans h
theorem it_f {α : Type} {c : Prop} {i : Decidable c} {a b R : α} (h : @ite α c i a b = R) (hc : ¬ c) : b = R := (if_neg hc).symm.trans h
theorem ld_to {β : Type} {f : Nat → Int32} {i : Int32} {n : Nat} {F : Int32 → β} {R : β} (h : bd (f i.toNatClampNeg) F = R) (e : i.toNatClampNeg = n) : F (f n) = R := by
  subst e
  exact h
theorem st_to {β : Type} {σ τ : ST} {a n : Nat} {i x : Int32} {F : ST → β} {R : β} (h : bd (sA σ a (upd (σ.2.2 a) i.toNatClampNeg x)) F = R) (e : i.toNatClampNeg = n) (q : τ = sA σ a (upd (σ.2.2 a) n x)) : F τ = R := by
  subst e
  subst q
  exact h
theorem y_fuel (x y : Int32) : (x.toInt - y.toInt).toNat < 8589934592 := by
  have h1 := Int32.toInt_lt x
  have h2 := Int32.le_toInt y
  omega
theorem fx_bd (f : Nat → Int32) : ∀ P, fx f P ≤ P
  | 0 => Nat.le_refl _
  | P + 1 => by
    have h := fx_bd f P
    show fx f P + _ ≤ P + 1
    split <;> omega
def chS (i k : Nat) : Int32 := (bytS.getD i []).getD k 0
theorem chS_e {i k : Nat} (hi : i < 6) (hk : k < lenS.getD i 0) : chS i k = (((bytS.getD i []).getD k 0 &&& 255).toUInt32 % 65536).toInt32 := (show ∀ i, i < 6 → ∀ k, k < lenS.getD i 0 → chS i k = (((bytS.getD i []).getD k 0 &&& 255).toUInt32 % 65536).toInt32 by decide +kernel) i hi k hk
def tab0 (j : Nat) : Int32 := match atFirst j with
  | .int v => v
  | _ => 0
theorem tab0_e {j : Nat} {v : Int32} (e : atFirst j = .int v) : tab0 j = v := by
  unfold tab0
  rw [e]
def tab1 (j : Nat) : Int32 := match atMost j with
  | .int v => v
  | _ => 0
theorem tab1_e {j : Nat} {v : Int32} (e : atMost j = .int v) : tab1 j = v := by
  unfold tab1
  rw [e]
noncomputable def fX11_within_0b15 (t0 : Int32) (σ : ST) : Int32 :=
  t0
noncomputable def fX11_within_0b14 (σ : ST) : Int32 :=
  fX11_within_0b15 0 σ
noncomputable def fX11_within_0b10 (σ : ST) : Int32 :=
  fX11_within_0b15 1 σ
noncomputable def fX11_within_0b5 (l0 : Int32) (l2 : Int32) (σ : ST) : Int32 :=
  if l2 < l0 then
    fX11_within_0b14 σ
  else
    fX11_within_0b10 σ
noncomputable def fX11_within_0b0 (l0 : Int32) (l1 : Int32) (l2 : Int32) (σ : ST) : Int32 :=
  if l0 < l1 then
    fX11_within_0b14 σ
  else
    fX11_within_0b5 l0 l2 σ
noncomputable def fX11_within_0 (p0 : Int32) (p1 : Int32) (p2 : Int32) (σ : ST) : Int32 := fX11_within_0b0 p0 p1 p2 σ
noncomputable def fX8_append_0b16 (σ : ST) : (Int32 × ST) :=
  (0, σ)
noncomputable def fX8_append_0b65 (σ : ST) : (Int32 × ST) :=
  (1, σ)
noncomputable def fX8_append_0b28 (K23 : Int64 → Int32 → ST → (Int32 × ST)) (l1 : Int64) (l4 : Int32) (σ : ST) : (Int32 × ST) :=
  bd (σ.1 0) fun v33 =>
  bd ((8 : Int32) * l4) fun v41 =>
  bd ((l1.toUInt64 >>> (v41.toInt64.toUInt64 &&& Int64.toUInt64 63)).toInt64) fun v42 =>
  bd (v42.toInt32) fun v43 =>
  bd (v43 &&& 255) fun v47 =>
  bd (sA σ 0 (upd (σ.2.2 0) v33.toNatClampNeg v47)) fun s48 =>
  bd (s48.1 0) fun v51 =>
  bd (v51 + 1) fun v55 =>
  bd (sI s48 0 v55) fun s56 =>
  bd (l4 + (-1)) fun v59 =>
  K23 l1 v59 s56
noncomputable def fX8_append_0b23 (K23 : Int64 → Int32 → ST → (Int32 × ST)) (l1 : Int64) (l4 : Int32) (σ : ST) : (Int32 × ST) :=
  if l4 < 0 then
    fX8_append_0b65 σ
  else
    fX8_append_0b28 K23 l1 l4 σ
noncomputable def fX8_append_0l23 : Nat → Int64 → Int32 → ST → (Int32 × ST)
  | 0, _, _, σ => (0, σ)
  | fu + 1, l1, l4, σ => fX8_append_0b23 (fX8_append_0l23 fu) l1 l4 σ
noncomputable def fX8_append_0b18 (l1 : Int64) (l3 : Int32) (σ : ST) : (Int32 × ST) :=
  bd (l3 - 1) fun v20 =>
  fX8_append_0l23 4096 l1 v20 σ
noncomputable def fX8_append_0b4 (l1 : Int64) (l3 : Int32) (σ : ST) : (Int32 × ST) :=
  bd (σ.1 0) fun v9 =>
  bd ((200 : Int32) - v9) fun v12 =>
  if l3 ≤ v12 then
    fX8_append_0b18 l1 l3 σ
  else
    fX8_append_0b16 σ
noncomputable def fX8_append_0b0 (l1 : Int64) (l3 : Int32) (σ : ST) : (Int32 × ST) :=
  if l3 < 0 then
    fX8_append_0b16 σ
  else
    fX8_append_0b4 l1 l3 σ
noncomputable def fX8_append_0 (p1 : Int64) (p2 : Int32) (σ : ST) : (Int32 × ST) := fX8_append_0b0 p1 p2 σ
noncomputable def fX11_type_0b36 (t0 : Int32) (σ : ST) : (Int32 × ST) :=
  (t0, σ)
noncomputable def fX11_type_0b34 (σ : ST) : (Int32 × ST) :=
  fX11_type_0b36 (-3) σ
noncomputable def fX11_type_0b24 (σ : ST) : (Int32 × ST) :=
  bd (σ.1 0) fun v28 =>
  fX11_type_0b36 v28 σ
noncomputable def fX11_type_0b12 (l1 : Int64) (l3 : Int32) (σ : ST) : (Int32 × ST) :=
  bp (fX8_append_0 l1 l3 σ) fun v18 s18 =>
  if v18 = 0 then
    fX11_type_0b34 s18
  else
    fX11_type_0b24 s18
noncomputable def fX11_type_0b10 (σ : ST) : (Int32 × ST) :=
  ((-1), σ)
noncomputable def fX11_type_0b0 (l1 : Int64) (l3 : Int32) (σ : ST) : (Int32 × ST) :=
  bd (fX11_within_0 l3 1 8 σ) fun v4 =>
  if v4 = 0 then
    fX11_type_0b10 σ
  else
    fX11_type_0b12 l1 l3 σ
noncomputable def fX11_type_0 (p1 : Int64) (p2 : Int32) (σ : ST) : (Int32 × ST) := fX11_type_0b0 p1 p2 σ
noncomputable def fX11_clear_0b0 (σ : ST) : (Int32 × ST) :=
  bd (σ.1 0) fun v4 =>
  bd (sI σ 0 0) fun s13 =>
  (v4, s13)
noncomputable def fX11_clear_0  (σ : ST) : (Int32 × ST) := fX11_clear_0b0  σ
noncomputable def fX8_endsBehindBlanks_0b54 (t0 : Int32) (σ : ST) : (Int32 × ST) :=
  (t0, σ)
noncomputable def fX8_endsBehindBlanks_0b53 (σ : ST) : (Int32 × ST) :=
  fX8_endsBehindBlanks_0b54 0 σ
noncomputable def fX8_endsBehindBlanks_0b49 (σ : ST) : (Int32 × ST) :=
  fX8_endsBehindBlanks_0b54 1 σ
noncomputable def fX8_endsBehindBlanks_0b38 (σ : ST) : (Int32 × ST) :=
  bd (σ.1 1) fun v39 =>
  bd (σ.1 0) fun v43 =>
  if v39 < v43 then
    fX8_endsBehindBlanks_0b53 σ
  else
    fX8_endsBehindBlanks_0b49 σ
noncomputable def fX8_endsBehindBlanks_0b25 (K0 : ST → (Int32 × ST)) (σ : ST) : (Int32 × ST) :=
  bd (σ.1 1) fun v27 =>
  bd (v27 + 1) fun v31 =>
  bd (sI σ 1 v31) fun s32 =>
  K0 s32
noncomputable def fX8_endsBehindBlanks_0b11 (K0 : ST → (Int32 × ST)) (σ : ST) : (Int32 × ST) :=
  bd (σ.1 1) fun v16 =>
  bd (σ.2.2 0 v16.toNatClampNeg) fun v19 =>
  if v19 = 32 then
    fX8_endsBehindBlanks_0b25 K0 σ
  else
    fX8_endsBehindBlanks_0b38 σ
noncomputable def fX8_endsBehindBlanks_0b0 (K0 : ST → (Int32 × ST)) (σ : ST) : (Int32 × ST) :=
  bd (σ.1 1) fun v1 =>
  bd (σ.1 0) fun v5 =>
  if v5 ≤ v1 then
    fX8_endsBehindBlanks_0b38 σ
  else
    fX8_endsBehindBlanks_0b11 K0 σ
noncomputable def fX8_endsBehindBlanks_0l0 : Nat → ST → (Int32 × ST)
  | 0, σ => (0, σ)
  | fu + 1, σ => fX8_endsBehindBlanks_0b0 (fX8_endsBehindBlanks_0l0 fu) σ
noncomputable def fX8_endsBehindBlanks_0  (σ : ST) : (Int32 × ST) := fX8_endsBehindBlanks_0l0 4096  σ
noncomputable def fX8_wordOf_0b36 (σ : ST) : Nat :=
  0
noncomputable def fX8_wordOf_0b39 (σ : ST) : Nat :=
  1
noncomputable def fX8_wordOf_0b42 (σ : ST) : Nat :=
  2
noncomputable def fX8_wordOf_0b45 (σ : ST) : Nat :=
  3
noncomputable def fX8_wordOf_0b48 (σ : ST) : Nat :=
  4
noncomputable def fX8_wordOf_0b51 (σ : ST) : Nat :=
  5
noncomputable def fX8_wordOf_0b0 (l0 : Int32) (σ : ST) : Nat :=
  if l0 = 0 then fX8_wordOf_0b36 σ else
  if l0 = 1 then fX8_wordOf_0b39 σ else
  if l0 = 2 then fX8_wordOf_0b42 σ else
  if l0 = 3 then fX8_wordOf_0b45 σ else
  if l0 = 4 then fX8_wordOf_0b48 σ else
  fX8_wordOf_0b51 σ
noncomputable def fX8_wordOf_0 (p0 : Int32) (σ : ST) : Nat := fX8_wordOf_0b0 p0 σ
noncomputable def fX8_isWord_0b50 (σ : ST) : Int32 :=
  1
noncomputable def fX8_isWord_0b44 (K15 : Nat → Int32 → Int32 → ST → Int32) (l1 : Nat) (l2 : Int32) (l4 : Int32) (σ : ST) : Int32 :=
  bd (l4 + 1) fun v44 =>
  K15 l1 l2 v44 σ
noncomputable def fX8_isWord_0b42 (K15 : Nat → Int32 → Int32 → ST → Int32) (σ : ST) : Int32 :=
  0
noncomputable def fX8_isWord_0b24 (K15 : Nat → Int32 → Int32 → ST → Int32) (l1 : Nat) (l2 : Int32) (l4 : Int32) (σ : ST) : Int32 :=
  bd (l2 + l4) fun v31 =>
  bd (σ.2.2 0 v31.toNatClampNeg) fun v32 =>
  bd (chS l1 (l4).toNatClampNeg) fun v36 =>
  if v32 = v36 then
    fX8_isWord_0b44 K15 l1 l2 l4 σ
  else
    fX8_isWord_0b42 K15 σ
noncomputable def fX8_isWord_0b15 (K15 : Nat → Int32 → Int32 → ST → Int32) (l1 : Nat) (l2 : Int32) (l4 : Int32) (σ : ST) : Int32 :=
  bd (nI (lenS.getD l1 0)) fun v18 =>
  if v18 ≤ l4 then
    fX8_isWord_0b50 σ
  else
    fX8_isWord_0b24 K15 l1 l2 l4 σ
noncomputable def fX8_isWord_0l15 : Nat → Nat → Int32 → Int32 → ST → Int32
  | 0, _, _, _, σ => 0
  | fu + 1, l1, l2, l4, σ => fX8_isWord_0b15 (fX8_isWord_0l15 fu) l1 l2 l4 σ
noncomputable def fX8_isWord_0b12 (l1 : Nat) (l2 : Int32) (σ : ST) : Int32 :=
  fX8_isWord_0l15 4096 l1 l2 0 σ
noncomputable def fX8_isWord_0b10 (σ : ST) : Int32 :=
  0
noncomputable def fX8_isWord_0b0 (l1 : Nat) (l2 : Int32) (l3 : Int32) (σ : ST) : Int32 :=
  bd (l3 - l2) fun v2 =>
  bd (nI (lenS.getD l1 0)) fun v4 =>
  if v2 = v4 then
    fX8_isWord_0b12 l1 l2 σ
  else
    fX8_isWord_0b10 σ
noncomputable def fX8_isWord_0 (p1 : Nat) (p2 : Int32) (p3 : Int32) (σ : ST) : Int32 := fX8_isWord_0b0 p1 p2 p3 σ
noncomputable def fX8_isLetter_0b29 (t0 : Int32) (σ : ST) : Int32 :=
  t0
noncomputable def fX8_isLetter_0b28 (σ : ST) : Int32 :=
  fX8_isLetter_0b29 0 σ
noncomputable def fX8_isLetter_0b24 (σ : ST) : Int32 :=
  fX8_isLetter_0b29 1 σ
noncomputable def fX8_isLetter_0b18 (l0 : Int32) (σ : ST) : Int32 :=
  if 90 < l0 then
    fX8_isLetter_0b28 σ
  else
    fX8_isLetter_0b24 σ
noncomputable def fX8_isLetter_0b12 (l0 : Int32) (σ : ST) : Int32 :=
  if l0 < 65 then
    fX8_isLetter_0b28 σ
  else
    fX8_isLetter_0b18 l0 σ
noncomputable def fX8_isLetter_0b6 (l0 : Int32) (σ : ST) : Int32 :=
  if l0 ≤ 122 then
    fX8_isLetter_0b24 σ
  else
    fX8_isLetter_0b12 l0 σ
noncomputable def fX8_isLetter_0b0 (l0 : Int32) (σ : ST) : Int32 :=
  if l0 < 97 then
    fX8_isLetter_0b12 l0 σ
  else
    fX8_isLetter_0b6 l0 σ
noncomputable def fX8_isLetter_0 (p0 : Int32) (σ : ST) : Int32 := fX8_isLetter_0b0 p0 σ
noncomputable def fX8_readWord_0b76 (σ : ST) : (Int32 × ST) :=
  ((-1), σ)
noncomputable def fX8_readWord_0b70 (K46 : Int32 → Int32 → ST → (Int32 × ST)) (l1 : Int32) (l2 : Int32) (σ : ST) : (Int32 × ST) :=
  bd (l2 + 1) fun v70 =>
  K46 l1 v70 σ
noncomputable def fX8_readWord_0b68 (K46 : Int32 → Int32 → ST → (Int32 × ST)) (l2 : Int32) (σ : ST) : (Int32 × ST) :=
  (l2, σ)
noncomputable def fX8_readWord_0b52 (K46 : Int32 → Int32 → ST → (Int32 × ST)) (l1 : Int32) (l2 : Int32) (σ : ST) : (Int32 × ST) :=
  bd (fX8_wordOf_0 l2 σ) fun v54 =>
  bd (σ.1 1) fun v59 =>
  bd (fX8_isWord_0 v54 l1 v59 σ) fun v62 =>
  if v62 = 0 then
    fX8_readWord_0b70 K46 l1 l2 σ
  else
    fX8_readWord_0b68 K46 l2 σ
noncomputable def fX8_readWord_0b46 (K46 : Int32 → Int32 → ST → (Int32 × ST)) (l1 : Int32) (l2 : Int32) (σ : ST) : (Int32 × ST) :=
  if 6 ≤ l2 then
    fX8_readWord_0b76 σ
  else
    fX8_readWord_0b52 K46 l1 l2 σ
noncomputable def fX8_readWord_0l46 : Nat → Int32 → Int32 → ST → (Int32 × ST)
  | 0, _, _, σ => (0, σ)
  | fu + 1, l1, l2, σ => fX8_readWord_0b46 (fX8_readWord_0l46 fu) l1 l2 σ
noncomputable def fX8_readWord_0b44 (l1 : Int32) (σ : ST) : (Int32 × ST) :=
  fX8_readWord_0l46 4096 l1 0 σ
noncomputable def fX8_readWord_0b31 (K5 : Int32 → ST → (Int32 × ST)) (l1 : Int32) (σ : ST) : (Int32 × ST) :=
  bd (σ.1 1) fun v33 =>
  bd (v33 + 1) fun v37 =>
  bd (sI σ 1 v37) fun s38 =>
  K5 l1 s38
noncomputable def fX8_readWord_0b16 (K5 : Int32 → ST → (Int32 × ST)) (l1 : Int32) (σ : ST) : (Int32 × ST) :=
  bd (σ.1 1) fun v21 =>
  bd (σ.2.2 0 v21.toNatClampNeg) fun v24 =>
  bd (fX8_isLetter_0 v24 σ) fun v25 =>
  if v25 = 0 then
    fX8_readWord_0b44 l1 σ
  else
    fX8_readWord_0b31 K5 l1 σ
noncomputable def fX8_readWord_0b5 (K5 : Int32 → ST → (Int32 × ST)) (l1 : Int32) (σ : ST) : (Int32 × ST) :=
  bd (σ.1 1) fun v6 =>
  bd (σ.1 0) fun v10 =>
  if v10 ≤ v6 then
    fX8_readWord_0b44 l1 σ
  else
    fX8_readWord_0b16 K5 l1 σ
noncomputable def fX8_readWord_0l5 : Nat → Int32 → ST → (Int32 × ST)
  | 0, _, σ => (0, σ)
  | fu + 1, l1, σ => fX8_readWord_0b5 (fX8_readWord_0l5 fu) l1 σ
noncomputable def fX8_readWord_0b0 (σ : ST) : (Int32 × ST) :=
  bd (σ.1 1) fun v1 =>
  fX8_readWord_0l5 4096 v1 σ
noncomputable def fX8_readWord_0  (σ : ST) : (Int32 × ST) := fX8_readWord_0b0  σ
noncomputable def fX8_isDigit_0b17 (t0 : Int32) (σ : ST) : Int32 :=
  t0
noncomputable def fX8_isDigit_0b16 (σ : ST) : Int32 :=
  fX8_isDigit_0b17 0 σ
noncomputable def fX8_isDigit_0b12 (σ : ST) : Int32 :=
  fX8_isDigit_0b17 1 σ
noncomputable def fX8_isDigit_0b6 (l0 : Int32) (σ : ST) : Int32 :=
  if 57 < l0 then
    fX8_isDigit_0b16 σ
  else
    fX8_isDigit_0b12 σ
noncomputable def fX8_isDigit_0b0 (l0 : Int32) (σ : ST) : Int32 :=
  if l0 < 48 then
    fX8_isDigit_0b16 σ
  else
    fX8_isDigit_0b6 l0 σ
noncomputable def fX8_isDigit_0 (p0 : Int32) (σ : ST) : Int32 := fX8_isDigit_0b0 p0 σ
noncomputable def fX8_readNumber_0b104 (σ : ST) : (Int32 × ST) :=
  ((-1), σ)
noncomputable def fX8_readNumber_0b106 (l2 : Int32) (σ : ST) : (Int32 × ST) :=
  (l2, σ)
noncomputable def fX8_readNumber_0b93 (l1 : Int32) (l2 : Int32) (σ : ST) : (Int32 × ST) :=
  bd (σ.2.2 0 l1.toNatClampNeg) fun v98 =>
  if v98 = 48 then
    fX8_readNumber_0b104 σ
  else
    fX8_readNumber_0b106 l2 σ
noncomputable def fX8_readNumber_0b88 (l1 : Int32) (l2 : Int32) (l3 : Int32) (σ : ST) : (Int32 × ST) :=
  if l3 ≤ 1 then
    fX8_readNumber_0b106 l2 σ
  else
    fX8_readNumber_0b93 l1 l2 σ
noncomputable def fX8_readNumber_0b81 (l1 : Int32) (l2 : Int32) (l3 : Int32) (σ : ST) : (Int32 × ST) :=
  if 9999 < l2 then
    fX8_readNumber_0b104 σ
  else
    fX8_readNumber_0b88 l1 l2 l3 σ
noncomputable def fX8_readNumber_0b70 (l1 : Int32) (l2 : Int32) (σ : ST) : (Int32 × ST) :=
  bd (σ.1 1) fun v71 =>
  bd (v71 - l1) fun v75 =>
  if v75 = 0 then
    fX8_readNumber_0b104 σ
  else
    fX8_readNumber_0b81 l1 l2 v75 σ
noncomputable def fX8_readNumber_0b33 (K7 : Int32 → Int32 → ST → (Int32 × ST)) (l1 : Int32) (l2 : Int32) (σ : ST) : (Int32 × ST) :=
  bd (l2 * 10) fun v36 =>
  bd (σ.1 1) fun v42 =>
  bd (σ.2.2 0 v42.toNatClampNeg) fun v45 =>
  bd (v36 + v45) fun v46 =>
  bd (v46 - 48) fun v49 =>
  bd (if 10000 < v49 then 10000 else v49) fun v53 =>
  bd (σ.1 1) fun v59 =>
  bd (v59 + 1) fun v63 =>
  bd (sI σ 1 v63) fun s64 =>
  K7 l1 v53 s64
noncomputable def fX8_readNumber_0b18 (K7 : Int32 → Int32 → ST → (Int32 × ST)) (l1 : Int32) (l2 : Int32) (σ : ST) : (Int32 × ST) :=
  bd (σ.1 1) fun v23 =>
  bd (σ.2.2 0 v23.toNatClampNeg) fun v26 =>
  bd (fX8_isDigit_0 v26 σ) fun v27 =>
  if v27 = 0 then
    fX8_readNumber_0b70 l1 l2 σ
  else
    fX8_readNumber_0b33 K7 l1 l2 σ
noncomputable def fX8_readNumber_0b7 (K7 : Int32 → Int32 → ST → (Int32 × ST)) (l1 : Int32) (l2 : Int32) (σ : ST) : (Int32 × ST) :=
  bd (σ.1 1) fun v8 =>
  bd (σ.1 0) fun v12 =>
  if v12 ≤ v8 then
    fX8_readNumber_0b70 l1 l2 σ
  else
    fX8_readNumber_0b18 K7 l1 l2 σ
noncomputable def fX8_readNumber_0l7 : Nat → Int32 → Int32 → ST → (Int32 × ST)
  | 0, _, _, σ => (0, σ)
  | fu + 1, l1, l2, σ => fX8_readNumber_0b7 (fX8_readNumber_0l7 fu) l1 l2 σ
noncomputable def fX8_readNumber_0b0 (σ : ST) : (Int32 × ST) :=
  bd (σ.1 1) fun v1 =>
  fX8_readNumber_0l7 4096 v1 0 σ
noncomputable def fX8_readNumber_0  (σ : ST) : (Int32 × ST) := fX8_readNumber_0b0  σ
noncomputable def fX8_readItem_0b25 (l1 : Int32) (σ : ST) : (Int32 × ST) :=
  (l1, σ)
noncomputable def fX8_readItem_0b63 (l1 : Int32) (σ : ST) : (Int32 × ST) :=
  (l1, σ)
noncomputable def fX8_readItem_0b96 (l2 : Int32) (l3 : Int32) (σ : ST) : (Int32 × ST) :=
  bd (σ.1 1) fun v98 =>
  bd (v98 + 1) fun v102 =>
  bd (sI σ 1 v102) fun s103 =>
  bd (sA s103 2 (upd (s103.2.2 2) l2.toNatClampNeg l3)) fun s112 =>
  ((-1), s112)
noncomputable def fX8_readItem_0b91 (σ : ST) : (Int32 × ST) :=
  bd (σ.1 1) fun v92 =>
  (v92, σ)
noncomputable def fX8_readItem_0b77 (l2 : Int32) (l3 : Int32) (σ : ST) : (Int32 × ST) :=
  bd (σ.1 1) fun v82 =>
  bd (σ.2.2 0 v82.toNatClampNeg) fun v85 =>
  if v85 = 59 then
    fX8_readItem_0b96 l2 l3 σ
  else
    fX8_readItem_0b91 σ
noncomputable def fX8_readItem_0b72 (σ : ST) : (Int32 × ST) :=
  bd (σ.1 0) fun v73 =>
  (v73, σ)
noncomputable def fX8_readItem_0b65 (l2 : Int32) (l3 : Int32) (σ : ST) : (Int32 × ST) :=
  bp (fX8_endsBehindBlanks_0 σ) fun v66 s66 =>
  if v66 = 0 then
    fX8_readItem_0b77 l2 l3 s66
  else
    fX8_readItem_0b72 s66
noncomputable def fX8_readItem_0b54 (l1 : Int32) (l2 : Int32) (l3 : Int32) (σ : ST) : (Int32 × ST) :=
  bd (tab1 l2.toNatClampNeg) fun v59 =>
  if l3 ≤ v59 then
    fX8_readItem_0b65 l2 l3 σ
  else
    fX8_readItem_0b63 l1 σ
noncomputable def fX8_readItem_0b39 (l2 : Int32) (σ : ST) : (Int32 × ST) :=
  bd (σ.1 1) fun v40 =>
  bp (fX8_readNumber_0 σ) fun v45 s45 =>
  if v45 = (-1) then
    fX8_readItem_0b63 v40 s45
  else
    fX8_readItem_0b54 v40 l2 v45 s45
noncomputable def fX8_readItem_0b34 (σ : ST) : (Int32 × ST) :=
  bd (σ.1 0) fun v35 =>
  (v35, σ)
noncomputable def fX8_readItem_0b27 (l2 : Int32) (σ : ST) : (Int32 × ST) :=
  bp (fX8_endsBehindBlanks_0 σ) fun v28 s28 =>
  if v28 = 0 then
    fX8_readItem_0b39 l2 s28
  else
    fX8_readItem_0b34 s28
noncomputable def fX8_readItem_0b15 (l1 : Int32) (l2 : Int32) (σ : ST) : (Int32 × ST) :=
  bd (σ.2.2 2 l2.toNatClampNeg) fun v20 =>
  if v20 = (-1) then
    fX8_readItem_0b27 l2 σ
  else
    fX8_readItem_0b25 l1 σ
noncomputable def fX8_readItem_0b0 (σ : ST) : (Int32 × ST) :=
  bd (σ.1 1) fun v1 =>
  bp (fX8_readWord_0 σ) fun v6 s6 =>
  if v6 = (-1) then
    fX8_readItem_0b25 v1 s6
  else
    fX8_readItem_0b15 v1 v6 s6
noncomputable def fX8_readItem_0  (σ : ST) : (Int32 × ST) := fX8_readItem_0b0  σ
noncomputable def fX8_adopt_0b44 (σ : ST) : ST :=
  bd (sI σ 0 0) fun s46 =>
  s46
noncomputable def fX8_adopt_0b37 (K2 : Int32 → ST → ST) (l1 : Int32) (t0 : Int32) (t1 : Int32) (σ : ST) : ST :=
  bd (sA σ 1 (upd (σ.2.2 1) t1.toNatClampNeg t0)) fun s37 =>
  bd (l1 + 1) fun v38 =>
  K2 v38 s37
noncomputable def fX8_adopt_0b31 (K2 : Int32 → ST → ST) (l1 : Int32) (t0 : Int32) (σ : ST) : ST :=
  bd (σ.2.2 2 l1.toNatClampNeg) fun v36 =>
  fX8_adopt_0b37 K2 l1 v36 t0 σ
noncomputable def fX8_adopt_0b23 (K2 : Int32 → ST → ST) (l1 : Int32) (t0 : Int32) (σ : ST) : ST :=
  bd (tab0 l1.toNatClampNeg) fun v27 =>
  fX8_adopt_0b37 K2 l1 v27 t0 σ
noncomputable def fX8_adopt_0b8 (K2 : Int32 → ST → ST) (l1 : Int32) (σ : ST) : ST :=
  bd (σ.2.2 2 l1.toNatClampNeg) fun v18 =>
  if v18 = (-1) then
    fX8_adopt_0b23 K2 l1 l1 σ
  else
    fX8_adopt_0b31 K2 l1 l1 σ
noncomputable def fX8_adopt_0b2 (K2 : Int32 → ST → ST) (l1 : Int32) (σ : ST) : ST :=
  if 6 ≤ l1 then
    fX8_adopt_0b44 σ
  else
    fX8_adopt_0b8 K2 l1 σ
noncomputable def fX8_adopt_0l2 : Nat → Int32 → ST → ST
  | 0, _, σ => σ
  | fu + 1, l1, σ => fX8_adopt_0b2 (fX8_adopt_0l2 fu) l1 σ
noncomputable def fX8_adopt_0b0 (σ : ST) : ST :=
  fX8_adopt_0l2 4096 0 σ
noncomputable def fX8_adopt_0  (σ : ST) : ST := fX8_adopt_0b0  σ
noncomputable def fX8_read_0b54 (σ : ST) : (Int32 × ST) :=
  bd (σ.1 1) fun v57 =>
  bd ((-10 : Int32) - v57) fun v60 =>
  (v60, σ)
noncomputable def fX8_read_0b48 (K15 : Int32 → ST → (Int32 × ST)) (l1 : Int32) (σ : ST) : (Int32 × ST) :=
  bd (l1 + 1) fun v48 =>
  K15 v48 σ
noncomputable def fX8_read_0b43 (K15 : Int32 → ST → (Int32 × ST)) (l2 : Int32) (σ : ST) : (Int32 × ST) :=
  bd ((-10 : Int32) - l2) fun v46 =>
  (v46, σ)
noncomputable def fX8_read_0b34 (K15 : Int32 → ST → (Int32 × ST)) (l1 : Int32) (σ : ST) : (Int32 × ST) :=
  bp (fX8_readItem_0 σ) fun v35 s35 =>
  if v35 < 0 then
    fX8_read_0b48 K15 l1 s35
  else
    fX8_read_0b43 K15 v35 s35
noncomputable def fX8_read_0b28 (K15 : Int32 → ST → (Int32 × ST)) (l1 : Int32) (σ : ST) : (Int32 × ST) :=
  bd (fX8_adopt_0 σ) fun s29 =>
  (l1, s29)
noncomputable def fX8_read_0b21 (K15 : Int32 → ST → (Int32 × ST)) (l1 : Int32) (σ : ST) : (Int32 × ST) :=
  bp (fX8_endsBehindBlanks_0 σ) fun v22 s22 =>
  if v22 = 0 then
    fX8_read_0b34 K15 l1 s22
  else
    fX8_read_0b28 K15 l1 s22
noncomputable def fX8_read_0b15 (K15 : Int32 → ST → (Int32 × ST)) (l1 : Int32) (σ : ST) : (Int32 × ST) :=
  if 6 < l1 then
    fX8_read_0b54 σ
  else
    fX8_read_0b21 K15 l1 σ
noncomputable def fX8_read_0l15 : Nat → Int32 → ST → (Int32 × ST)
  | 0, _, σ => (0, σ)
  | fu + 1, l1, σ => fX8_read_0b15 (fX8_read_0l15 fu) l1 σ
noncomputable def fX8_read_0b0 (σ : ST) : (Int32 × ST) :=
  bd (sA σ 2 (fun j => if j < 6 then (-1) else σ.2.2 2 j)) fun s5 =>
  bd (sI s5 1 0) fun s10 =>
  fX8_read_0l15 4096 0 s10
noncomputable def fX8_read_0  (σ : ST) : (Int32 × ST) := fX8_read_0b0  σ
noncomputable def fX11_nothingIsFound_0b0 (σ : ST) : ST :=
  bd (sI σ 22 1) fun s2 =>
  bd (sI s2 23 1) fun s7 =>
  bd (sI s7 24 1) fun s12 =>
  s12
noncomputable def fX11_nothingIsFound_0  (σ : ST) : ST := fX11_nothingIsFound_0b0  σ
noncomputable def fX11_rules_0b16 (l1 : Int32) (σ : ST) : (Int32 × ST) :=
  (l1, σ)
noncomputable def fX11_rules_0b12 (l1 : Int32) (σ : ST) : (Int32 × ST) :=
  bd (fX11_nothingIsFound_0 σ) fun s13 =>
  fX11_rules_0b16 l1 s13
noncomputable def fX11_rules_0b0 (σ : ST) : (Int32 × ST) :=
  bp (fX8_read_0 σ) fun v4 s4 =>
  if v4 < 0 then
    fX11_rules_0b16 v4 s4
  else
    fX11_rules_0b12 v4 s4
noncomputable def fX11_rules_0  (σ : ST) : (Int32 × ST) := fX11_rules_0b0  σ
noncomputable def fX8_ruleNow_0b20 (t0 : Int32) (σ : ST) : Int32 :=
  t0
noncomputable def fX8_ruleNow_0b19 (σ : ST) : Int32 :=
  fX8_ruleNow_0b20 0 σ
noncomputable def fX8_ruleNow_0b10 (l1 : Int32) (σ : ST) : Int32 :=
  bd (σ.2.2 1 l1.toNatClampNeg) fun v15 =>
  fX8_ruleNow_0b20 v15 σ
noncomputable def fX8_ruleNow_0b4 (l1 : Int32) (σ : ST) : Int32 :=
  if 6 ≤ l1 then
    fX8_ruleNow_0b19 σ
  else
    fX8_ruleNow_0b10 l1 σ
noncomputable def fX8_ruleNow_0b0 (l1 : Int32) (σ : ST) : Int32 :=
  if l1 < 0 then
    fX8_ruleNow_0b19 σ
  else
    fX8_ruleNow_0b4 l1 σ
noncomputable def fX8_ruleNow_0 (p1 : Int32) (σ : ST) : Int32 := fX8_ruleNow_0b0 p1 σ
noncomputable def fX11_rule_0b21 (t0 : Int32) (σ : ST) : Int32 :=
  t0
noncomputable def fX11_rule_0b20 (σ : ST) : Int32 :=
  fX11_rule_0b21 (-1) σ
noncomputable def fX11_rule_0b9 (l1 : Int32) (σ : ST) : Int32 :=
  bd (fX8_ruleNow_0 l1 σ) fun v14 =>
  fX11_rule_0b21 v14 σ
noncomputable def fX11_rule_0b0 (l1 : Int32) (σ : ST) : Int32 :=
  bd (fX11_within_0 l1 0 5 σ) fun v3 =>
  if v3 = 0 then
    fX11_rule_0b20 σ
  else
    fX11_rule_0b9 l1 σ
noncomputable def fX11_rule_0 (p1 : Int32) (σ : ST) : Int32 := fX11_rule_0b0 p1 σ
noncomputable def fX11_isLoudness_0b0 (l0 : Int32) (σ : ST) : Int32 :=
  bd (fX11_within_0 l0 0 99 σ) fun v4 =>
  v4
noncomputable def fX11_isLoudness_0 (p0 : Int32) (σ : ST) : Int32 := fX11_isLoudness_0b0 p0 σ
noncomputable def fX7_addDeaf_0b12 (σ : ST) : (Int32 × ST) :=
  bd (σ.1 2) fun v13 =>
  bd (sA σ 4 (upd (σ.2.2 4) v13.toNatClampNeg (vp_nar .boolean 1))) fun s23 =>
  bd (sA s23 5 (upd (s23.2.2 5) v13.toNatClampNeg (vp_nar .boolean 0))) fun s30 =>
  bd (sA s30 6 (upd (s30.2.2 6) v13.toNatClampNeg 0)) fun s37 =>
  bd (s37.1 2) fun v40 =>
  bd (v40 + 1) fun v44 =>
  bd (sI s37 2 v44) fun s45 =>
  (v13, s45)
noncomputable def fX7_addDeaf_0b9 (σ : ST) : (Int32 × ST) :=
  ((-3), σ)
noncomputable def fX7_addDeaf_0b0 (σ : ST) : (Int32 × ST) :=
  bd (σ.1 2) fun v1 =>
  if v1 < 48 then
    fX7_addDeaf_0b12 σ
  else
    fX7_addDeaf_0b9 σ
noncomputable def fX7_addDeaf_0  (σ : ST) : (Int32 × ST) := fX7_addDeaf_0b0  σ
noncomputable def fX7_addRow_0b66 (l5 : Int32) (σ : ST) : (Int32 × ST) :=
  (l5, σ)
noncomputable def fX7_addRow_0b11 (l1 : Int32) (l2 : Int32) (l3 : Int32) (l4 : Int32) (l5 : Int32) (σ : ST) : (Int32 × ST) :=
  bd (sA σ 4 (upd (σ.2.2 4) l5.toNatClampNeg (vp_nar .boolean 0))) fun s18 =>
  bd (l5 * 4) fun v26 =>
  bd (sA s18 3 (upd (s18.2.2 3) v26.toNatClampNeg l1)) fun s28 =>
  bd (l5 * 4) fun v36 =>
  bd (v36 + 1) fun v38 =>
  bd (sA s28 3 (upd (s28.2.2 3) v38.toNatClampNeg l2)) fun s40 =>
  bd (l5 * 4) fun v48 =>
  bd (v48 + 2) fun v50 =>
  bd (sA s40 3 (upd (s40.2.2 3) v50.toNatClampNeg l3)) fun s52 =>
  bd (l5 * 4) fun v60 =>
  bd (v60 + 3) fun v62 =>
  bd (sA s52 3 (upd (s52.2.2 3) v62.toNatClampNeg l4)) fun s65 =>
  fX7_addRow_0b66 l5 s65
noncomputable def fX7_addRow_0b0 (l1 : Int32) (l2 : Int32) (l3 : Int32) (l4 : Int32) (σ : ST) : (Int32 × ST) :=
  bp (fX7_addDeaf_0 σ) fun v1 s1 =>
  if v1 < 0 then
    fX7_addRow_0b66 v1 s1
  else
    fX7_addRow_0b11 l1 l2 l3 l4 v1 s1
noncomputable def fX7_addRow_0 (p1 : Int32) (p2 : Int32) (p3 : Int32) (p4 : Int32) (σ : ST) : (Int32 × ST) := fX7_addRow_0b0 p1 p2 p3 p4 σ
noncomputable def fX11_row_0b29 (σ : ST) : (Int32 × ST) :=
  ((-1), σ)
noncomputable def fX11_row_0b46 (l1 : Int32) (l2 : Int32) (l3 : Int32) (l4 : Int32) (σ : ST) : (Int32 × ST) :=
  bd (fX11_nothingIsFound_0 σ) fun s47 =>
  bp (fX7_addRow_0 l1 l2 l3 l4 s47) fun v59 s59 =>
  (v59, s59)
noncomputable def fX11_row_0b43 (σ : ST) : (Int32 × ST) :=
  ((-3), σ)
noncomputable def fX11_row_0b31 (l1 : Int32) (l2 : Int32) (l3 : Int32) (l4 : Int32) (σ : ST) : (Int32 × ST) :=
  bd (σ.1 2) fun v35 =>
  if v35 < 48 then
    fX11_row_0b46 l1 l2 l3 l4 σ
  else
    fX11_row_0b43 σ
noncomputable def fX11_row_0b21 (l1 : Int32) (l2 : Int32) (l3 : Int32) (l4 : Int32) (σ : ST) : (Int32 × ST) :=
  bd (fX11_isLoudness_0 l4 σ) fun v23 =>
  if v23 = 0 then
    fX11_row_0b29 σ
  else
    fX11_row_0b31 l1 l2 l3 l4 σ
noncomputable def fX11_row_0b14 (l1 : Int32) (l2 : Int32) (l3 : Int32) (l4 : Int32) (σ : ST) : (Int32 × ST) :=
  bd (fX11_isLoudness_0 l3 σ) fun v15 =>
  if v15 = 0 then
    fX11_row_0b29 σ
  else
    fX11_row_0b21 l1 l2 l3 l4 σ
noncomputable def fX11_row_0b7 (l1 : Int32) (l2 : Int32) (l3 : Int32) (l4 : Int32) (σ : ST) : (Int32 × ST) :=
  bd (fX11_isLoudness_0 l2 σ) fun v8 =>
  if v8 = 0 then
    fX11_row_0b29 σ
  else
    fX11_row_0b14 l1 l2 l3 l4 σ
noncomputable def fX11_row_0b0 (l1 : Int32) (l2 : Int32) (l3 : Int32) (l4 : Int32) (σ : ST) : (Int32 × ST) :=
  bd (fX11_isLoudness_0 l1 σ) fun v1 =>
  if v1 = 0 then
    fX11_row_0b29 σ
  else
    fX11_row_0b7 l1 l2 l3 l4 σ
noncomputable def fX11_row_0 (p1 : Int32) (p2 : Int32) (p3 : Int32) (p4 : Int32) (σ : ST) : (Int32 × ST) := fX11_row_0b0 p1 p2 p3 p4 σ
noncomputable def fX11_deaf_0b54 (σ : ST) : (Int32 × ST) :=
  bd (σ.1 2) fun v58 =>
  (v58, σ)
noncomputable def fX11_deaf_0b40 (K35 : Int32 → Int32 → ST → (Int32 × ST)) (l1 : Int32) (l2 : Int32) (σ : ST) : (Int32 × ST) :=
  bp (fX7_addDeaf_0 σ) fun v44 s44 =>
  bd (l2 + 1) fun v48 =>
  K35 l1 v48 s44
noncomputable def fX11_deaf_0b35 (K35 : Int32 → Int32 → ST → (Int32 × ST)) (l1 : Int32) (l2 : Int32) (σ : ST) : (Int32 × ST) :=
  if l1 ≤ l2 then
    fX11_deaf_0b54 σ
  else
    fX11_deaf_0b40 K35 l1 l2 σ
noncomputable def fX11_deaf_0l35 : Nat → Int32 → Int32 → ST → (Int32 × ST)
  | 0, _, _, σ => (0, σ)
  | fu + 1, l1, l2, σ => fX11_deaf_0b35 (fX11_deaf_0l35 fu) l1 l2 σ
noncomputable def fX11_deaf_0b29 (l1 : Int32) (σ : ST) : (Int32 × ST) :=
  bd (fX11_nothingIsFound_0 σ) fun s30 =>
  fX11_deaf_0l35 4096 l1 0 s30
noncomputable def fX11_deaf_0b26 (σ : ST) : (Int32 × ST) :=
  ((-3), σ)
noncomputable def fX11_deaf_0b12 (l1 : Int32) (σ : ST) : (Int32 × ST) :=
  bd (σ.1 2) fun v16 =>
  bd (v16 + l1) fun v20 =>
  if v20 ≤ 48 then
    fX11_deaf_0b29 l1 σ
  else
    fX11_deaf_0b26 σ
noncomputable def fX11_deaf_0b10 (σ : ST) : (Int32 × ST) :=
  ((-1), σ)
noncomputable def fX11_deaf_0b0 (l1 : Int32) (σ : ST) : (Int32 × ST) :=
  bd (fX11_within_0 l1 1 9 σ) fun v4 =>
  if v4 = 0 then
    fX11_deaf_0b10 σ
  else
    fX11_deaf_0b12 l1 σ
noncomputable def fX11_deaf_0 (p1 : Int32) (σ : ST) : (Int32 × ST) := fX11_deaf_0b0 p1 σ
noncomputable def fX11_areRows_0b25 (t0 : Int32) (σ : ST) : Int32 :=
  t0
noncomputable def fX11_areRows_0b24 (σ : ST) : Int32 :=
  fX11_areRows_0b25 0 σ
noncomputable def fX11_areRows_0b20 (σ : ST) : Int32 :=
  fX11_areRows_0b25 1 σ
noncomputable def fX11_areRows_0b9 (l2 : Int32) (σ : ST) : Int32 :=
  bd (σ.1 2) fun v14 =>
  if v14 ≤ l2 then
    fX11_areRows_0b24 σ
  else
    fX11_areRows_0b20 σ
noncomputable def fX11_areRows_0b4 (l1 : Int32) (l2 : Int32) (σ : ST) : Int32 :=
  if l2 < l1 then
    fX11_areRows_0b24 σ
  else
    fX11_areRows_0b9 l2 σ
noncomputable def fX11_areRows_0b0 (l1 : Int32) (l2 : Int32) (σ : ST) : Int32 :=
  if l1 < 0 then
    fX11_areRows_0b24 σ
  else
    fX11_areRows_0b4 l1 l2 σ
noncomputable def fX11_areRows_0 (p1 : Int32) (p2 : Int32) (σ : ST) : Int32 := fX11_areRows_0b0 p1 p2 σ
noncomputable def fX7_setOut_0b53 (l4 : Int32) (σ : ST) : (Int32 × ST) :=
  (l4, σ)
noncomputable def fX7_setOut_0b47 (K10 : Int32 → Int32 → Int32 → Int32 → ST → (Int32 × ST)) (l2 : Int32) (l3 : Int32) (l4 : Int32) (l5 : Int32) (σ : ST) : (Int32 × ST) :=
  bd (l5 + 1) fun v47 =>
  K10 l2 l3 l4 v47 σ
noncomputable def fX7_setOut_0b36 (K10 : Int32 → Int32 → Int32 → Int32 → ST → (Int32 × ST)) (l2 : Int32) (l3 : Int32) (l4 : Int32) (l5 : Int32) (σ : ST) : (Int32 × ST) :=
  bd (sA σ 5 (upd (σ.2.2 5) l5.toNatClampNeg (vp_nar .boolean l3))) fun s43 =>
  bd (l4 + 1) fun v44 =>
  fX7_setOut_0b47 K10 l2 l3 v44 l5 s43
noncomputable def fX7_setOut_0b25 (K10 : Int32 → Int32 → Int32 → Int32 → ST → (Int32 × ST)) (l2 : Int32) (l3 : Int32) (l4 : Int32) (l5 : Int32) (σ : ST) : (Int32 × ST) :=
  bd (σ.2.2 5 l5.toNatClampNeg) fun v31 =>
  if v31 = l3 then
    fX7_setOut_0b47 K10 l2 l3 l4 l5 σ
  else
    fX7_setOut_0b36 K10 l2 l3 l4 l5 σ
noncomputable def fX7_setOut_0b16 (K10 : Int32 → Int32 → Int32 → Int32 → ST → (Int32 × ST)) (l2 : Int32) (l3 : Int32) (l4 : Int32) (l5 : Int32) (σ : ST) : (Int32 × ST) :=
  bd (σ.1 2) fun v19 =>
  if v19 ≤ l5 then
    fX7_setOut_0b53 l4 σ
  else
    fX7_setOut_0b25 K10 l2 l3 l4 l5 σ
noncomputable def fX7_setOut_0b10 (K10 : Int32 → Int32 → Int32 → Int32 → ST → (Int32 × ST)) (l2 : Int32) (l3 : Int32) (l4 : Int32) (l5 : Int32) (σ : ST) : (Int32 × ST) :=
  if l2 < l5 then
    fX7_setOut_0b53 l4 σ
  else
    fX7_setOut_0b16 K10 l2 l3 l4 l5 σ
noncomputable def fX7_setOut_0l10 : Nat → Int32 → Int32 → Int32 → Int32 → ST → (Int32 × ST)
  | 0, _, _, _, _, σ => (0, σ)
  | fu + 1, l2, l3, l4, l5, σ => fX7_setOut_0b10 (fX7_setOut_0l10 fu) l2 l3 l4 l5 σ
noncomputable def fX7_setOut_0b0 (l1 : Int32) (l2 : Int32) (l3 : Int32) (σ : ST) : (Int32 × ST) :=
  bd (if l1 < 0 then 0 else l1) fun v5 =>
  fX7_setOut_0l10 4096 l2 l3 0 v5 σ
noncomputable def fX7_setOut_0 (p1 : Int32) (p2 : Int32) (p3 : Int32) (σ : ST) : (Int32 × ST) := fX7_setOut_0b0 p1 p2 p3 σ
noncomputable def fX11_out_0b18 (σ : ST) : (Int32 × ST) :=
  ((-1), σ)
noncomputable def fX11_out_0b50 (l4 : Int32) (σ : ST) : (Int32 × ST) :=
  (l4, σ)
noncomputable def fX11_out_0b46 (l4 : Int32) (σ : ST) : (Int32 × ST) :=
  bd (fX11_nothingIsFound_0 σ) fun s47 =>
  fX11_out_0b50 l4 s47
noncomputable def fX11_out_0b36 (t0 : Int32) (t1 : Int32) (t2 : Int32) (σ : ST) : (Int32 × ST) :=
  bp (fX7_setOut_0 t2 t1 t0 σ) fun v36 s36 =>
  if v36 ≤ 0 then
    fX11_out_0b50 v36 s36
  else
    fX11_out_0b46 v36 s36
noncomputable def fX11_out_0b35 (t0 : Int32) (t1 : Int32) (σ : ST) : (Int32 × ST) :=
  fX11_out_0b36 0 t0 t1 σ
noncomputable def fX11_out_0b31 (t0 : Int32) (t1 : Int32) (σ : ST) : (Int32 × ST) :=
  fX11_out_0b36 1 t0 t1 σ
noncomputable def fX11_out_0b20 (l1 : Int32) (l2 : Int32) (l3 : Int32) (σ : ST) : (Int32 × ST) :=
  if l3 = 1 then
    fX11_out_0b31 l2 l1 σ
  else
    fX11_out_0b35 l2 l1 σ
noncomputable def fX11_out_0b9 (l1 : Int32) (l2 : Int32) (l3 : Int32) (σ : ST) : (Int32 × ST) :=
  bd (fX11_within_0 l3 0 1 σ) fun v12 =>
  if v12 = 0 then
    fX11_out_0b18 σ
  else
    fX11_out_0b20 l1 l2 l3 σ
noncomputable def fX11_out_0b0 (l1 : Int32) (l2 : Int32) (l3 : Int32) (σ : ST) : (Int32 × ST) :=
  bd (fX11_areRows_0 l1 l2 σ) fun v3 =>
  if v3 = 0 then
    fX11_out_0b18 σ
  else
    fX11_out_0b9 l1 l2 l3 σ
noncomputable def fX11_out_0 (p1 : Int32) (p2 : Int32) (p3 : Int32) (σ : ST) : (Int32 × ST) := fX11_out_0b0 p1 p2 p3 σ
noncomputable def fX11_hush_0b0 (σ : ST) : (Int32 × ST) :=
  bd (σ.1 2) fun v4 =>
  bd (sI σ 2 0) fun s13 =>
  bd (sI s13 20 0) fun s21 =>
  bd (sI s21 21 (-1)) fun s26 =>
  bd (fX11_nothingIsFound_0 s26) fun s30 =>
  (v4, s30)
noncomputable def fX11_hush_0  (σ : ST) : (Int32 × ST) := fX11_hush_0b0  σ
noncomputable def fX3_empty_0b0 (σ : ST) : ST :=
  bd (sI σ 3 0) fun s2 =>
  bd (sI s2 4 0) fun s7 =>
  s7
noncomputable def fX3_empty_0  (σ : ST) : ST := fX3_empty_0b0  σ
noncomputable def fX3_take_0b19 (σ : ST) : ST :=
  σ
noncomputable def fX3_take_0b150 (σ : ST) : ST :=
  bd (σ.1 3) fun v152 =>
  bd (v152 + 1) fun v156 =>
  bd (sI σ 3 v156) fun s157 =>
  s157
noncomputable def fX3_take_0b137 (K22 : Int32 → Int32 → ST → ST) (l2 : Int32) (l3 : Int32) (l4 : Nat) (l5 : Int32) (l6 : Int32) (σ : ST) : ST :=
  bd (sA σ (8 + l4) (upd (σ.2.2 (8 + l4)) l6.toNatClampNeg l5)) fun s143 =>
  bd (l3 + 1) fun v144 =>
  K22 l2 v144 s143
noncomputable def fX3_take_0b119 (K22 : Int32 → Int32 → ST → ST) (K102 : Int32 → Int32 → Nat → Int32 → Int32 → ST → ST) (l2 : Int32) (l3 : Int32) (l4 : Nat) (l5 : Int32) (l6 : Int32) (σ : ST) : ST :=
  bd (l6 - 1) fun v128 =>
  bd (σ.2.2 (8 + l4) v128.toNatClampNeg) fun v129 =>
  bd (sA σ (8 + l4) (upd (σ.2.2 (8 + l4)) l6.toNatClampNeg v129)) fun s130 =>
  bd (l6 + (-1)) fun v131 =>
  K102 l2 l3 l4 l5 v131 s130
noncomputable def fX3_take_0b107 (K22 : Int32 → Int32 → ST → ST) (K102 : Int32 → Int32 → Nat → Int32 → Int32 → ST → ST) (l2 : Int32) (l3 : Int32) (l4 : Nat) (l5 : Int32) (l6 : Int32) (σ : ST) : ST :=
  bd (l6 - 1) fun v112 =>
  bd (σ.2.2 (8 + l4) v112.toNatClampNeg) fun v113 =>
  if v113 ≤ l5 then
    fX3_take_0b137 K22 l2 l3 l4 l5 l6 σ
  else
    fX3_take_0b119 K22 K102 l2 l3 l4 l5 l6 σ
noncomputable def fX3_take_0b102 (K22 : Int32 → Int32 → ST → ST) (K102 : Int32 → Int32 → Nat → Int32 → Int32 → ST → ST) (l2 : Int32) (l3 : Int32) (l4 : Nat) (l5 : Int32) (l6 : Int32) (σ : ST) : ST :=
  if l6 ≤ 0 then
    fX3_take_0b137 K22 l2 l3 l4 l5 l6 σ
  else
    fX3_take_0b107 K22 K102 l2 l3 l4 l5 l6 σ
noncomputable def fX3_take_0l102 (K22 : Int32 → Int32 → ST → ST) : Nat → Int32 → Int32 → Nat → Int32 → Int32 → ST → ST
  | 0, _, _, _, _, _, σ => σ
  | fu + 1, l2, l3, l4, l5, l6, σ => fX3_take_0b102 K22 (fX3_take_0l102 K22 fu) l2 l3 l4 l5 l6 σ
noncomputable def fX3_take_0b96 (K22 : Int32 → Int32 → ST → ST) (l2 : Int32) (l3 : Int32) (l4 : Nat) (l5 : Int32) (σ : ST) : ST :=
  bd (σ.1 3) fun v97 =>
  fX3_take_0l102 K22 4096 l2 l3 l4 l5 v97 σ
noncomputable def fX3_take_0b54 (K22 : Int32 → Int32 → ST → ST) (l2 : Int32) (l3 : Int32) (l4 : Nat) (l5 : Int32) (σ : ST) : ST :=
  bd (σ.1 4) fun v56 =>
  bd (σ.1 3) fun v63 =>
  bd (v63 - 1) fun v67 =>
  bd (v67 / 2) fun v69 =>
  bd (σ.2.2 (8 + l4) v69.toNatClampNeg) fun v70 =>
  bd (v70 - l5) fun v73 =>
  bd (σ.1 3) fun v79 =>
  bd (v79 / 2) fun v83 =>
  bd (σ.2.2 (8 + l4) v83.toNatClampNeg) fun v84 =>
  bd (l5 - v84) fun v85 =>
  bd (if v73 < v85 then v85 else v73) fun v86 =>
  bd (if (0 : Int32) < v86 then v86 else (0 : Int32)) fun v89 =>
  bd (v56 + v89) fun v92 =>
  bd (sI σ 4 v92) fun s93 =>
  fX3_take_0b96 K22 l2 l3 l4 l5 s93
noncomputable def fX3_take_0b27 (K22 : Int32 → Int32 → ST → ST) (l2 : Int32) (l3 : Int32) (σ : ST) : ST :=
  bd (l3.toNatClampNeg) fun v32 =>
  bd (l2 * 4) fun v41 =>
  bd (v41 + l3) fun v43 =>
  bd (σ.2.2 3 v43.toNatClampNeg) fun v44 =>
  bd (σ.1 3) fun v48 =>
  if v48 ≤ 0 then
    fX3_take_0b96 K22 l2 l3 v32 v44 σ
  else
    fX3_take_0b54 K22 l2 l3 v32 v44 σ
noncomputable def fX3_take_0b22 (K22 : Int32 → Int32 → ST → ST) (l2 : Int32) (l3 : Int32) (σ : ST) : ST :=
  if 4 ≤ l3 then
    fX3_take_0b150 σ
  else
    fX3_take_0b27 K22 l2 l3 σ
noncomputable def fX3_take_0l22 : Nat → Int32 → Int32 → ST → ST
  | 0, _, _, σ => σ
  | fu + 1, l2, l3, σ => fX3_take_0b22 (fX3_take_0l22 fu) l2 l3 σ
noncomputable def fX3_take_0b20 (l2 : Int32) (σ : ST) : ST :=
  fX3_take_0l22 4096 l2 0 σ
noncomputable def fX3_take_0b13 (l2 : Int32) (σ : ST) : ST :=
  if l2 < 48 then
    fX3_take_0b20 l2 σ
  else
    fX3_take_0b19 σ
noncomputable def fX3_take_0b9 (l2 : Int32) (σ : ST) : ST :=
  if l2 < 0 then
    fX3_take_0b19 σ
  else
    fX3_take_0b13 l2 σ
noncomputable def fX3_take_0b0 (l2 : Int32) (σ : ST) : ST :=
  bd (σ.1 3) fun v1 =>
  if 48 ≤ v1 then
    fX3_take_0b19 σ
  else
    fX3_take_0b9 l2 σ
noncomputable def fX3_take_0 (p2 : Int32) (σ : ST) : ST := fX3_take_0b0 p2 σ
noncomputable def fX2_findCosts_0b117 (σ : ST) : ST :=
  σ
noncomputable def fX2_findCosts_0b111 (K14 : Int32 → Int32 → Int32 → Int32 → ST → ST) (l3 : Int32) (l4 : Int32) (l5 : Int32) (l6 : Int32) (σ : ST) : ST :=
  bd (l6 + (-1)) fun v111 =>
  K14 l3 l4 l5 v111 σ
noncomputable def fX2_findCosts_0b105 (K14 : Int32 → Int32 → Int32 → Int32 → ST → ST) (K38 : Int32 → Int32 → Int32 → Int32 → Int32 → ST → ST) (l3 : Int32) (l4 : Int32) (l5 : Int32) (l6 : Int32) (l7 : Int32) (σ : ST) : ST :=
  bd (l7 + 1) fun v105 =>
  K38 l3 l4 l5 l6 v105 σ
noncomputable def fX2_findCosts_0b82 (K14 : Int32 → Int32 → Int32 → Int32 → ST → ST) (K38 : Int32 → Int32 → Int32 → Int32 → Int32 → ST → ST) (l3 : Int32) (l4 : Int32) (l5 : Int32) (l6 : Int32) (l7 : Int32) (l8 : Int32) (σ : ST) : ST :=
  bd (sA σ 18 (upd (σ.2.2 18) l6.toNatClampNeg l8)) fun s90 =>
  bd (l7 - l6) fun v101 =>
  bd (v101 + 1) fun v103 =>
  bd (sA s90 19 (upd (s90.2.2 19) l6.toNatClampNeg v103)) fun s104 =>
  fX2_findCosts_0b105 K14 K38 l3 l4 l5 l6 l7 s104
noncomputable def fX2_findCosts_0b45 (K14 : Int32 → Int32 → Int32 → Int32 → ST → ST) (K38 : Int32 → Int32 → Int32 → Int32 → Int32 → ST → ST) (l3 : Int32) (l4 : Int32) (l5 : Int32) (l6 : Int32) (l7 : Int32) (σ : ST) : ST :=
  bd (fX3_take_0 l7 σ) fun s49 =>
  bd (s49.1 4) fun v53 =>
  bd (v53 + l3) fun v57 =>
  bd (l7 + 1) fun v65 =>
  bd (s49.2.2 18 v65.toNatClampNeg) fun v66 =>
  bd (v57 + v66) fun v67 =>
  bd (s49.2.2 18 l6.toNatClampNeg) fun v78 =>
  if v78 < v67 then
    fX2_findCosts_0b105 K14 K38 l3 l4 l5 l6 l7 s49
  else
    fX2_findCosts_0b82 K14 K38 l3 l4 l5 l6 l7 v67 s49
noncomputable def fX2_findCosts_0b38 (K14 : Int32 → Int32 → Int32 → Int32 → ST → ST) (K38 : Int32 → Int32 → Int32 → Int32 → Int32 → ST → ST) (l3 : Int32) (l4 : Int32) (l5 : Int32) (l6 : Int32) (l7 : Int32) (σ : ST) : ST :=
  if l5 ≤ l7 then
    fX2_findCosts_0b111 K14 l3 l4 l5 l6 σ
  else
    fX2_findCosts_0b45 K14 K38 l3 l4 l5 l6 l7 σ
noncomputable def fX2_findCosts_0l38 (K14 : Int32 → Int32 → Int32 → Int32 → ST → ST) : Nat → Int32 → Int32 → Int32 → Int32 → Int32 → ST → ST
  | 0, _, _, _, _, _, σ => σ
  | fu + 1, l3, l4, l5, l6, l7, σ => fX2_findCosts_0b38 K14 (fX2_findCosts_0l38 K14 fu) l3 l4 l5 l6 l7 σ
noncomputable def fX2_findCosts_0b21 (K14 : Int32 → Int32 → Int32 → Int32 → ST → ST) (l3 : Int32) (l4 : Int32) (l5 : Int32) (l6 : Int32) (σ : ST) : ST :=
  bd (fX3_empty_0 σ) fun s22 =>
  bd (sA s22 18 (upd (s22.2.2 18) l6.toNatClampNeg 1000000000)) fun s33 =>
  fX2_findCosts_0l38 K14 4096 l3 l4 l5 l6 l6 s33
noncomputable def fX2_findCosts_0b14 (K14 : Int32 → Int32 → Int32 → Int32 → ST → ST) (l3 : Int32) (l4 : Int32) (l5 : Int32) (l6 : Int32) (σ : ST) : ST :=
  if l6 < l4 then
    fX2_findCosts_0b117 σ
  else
    fX2_findCosts_0b21 K14 l3 l4 l5 l6 σ
noncomputable def fX2_findCosts_0l14 : Nat → Int32 → Int32 → Int32 → Int32 → ST → ST
  | 0, _, _, _, _, σ => σ
  | fu + 1, l3, l4, l5, l6, σ => fX2_findCosts_0b14 (fX2_findCosts_0l14 fu) l3 l4 l5 l6 σ
noncomputable def fX2_findCosts_0b0 (l3 : Int32) (l4 : Int32) (l5 : Int32) (σ : ST) : ST :=
  bd (sA σ 18 (upd (σ.2.2 18) l5.toNatClampNeg 0)) fun s7 =>
  bd (l5 - 1) fun v11 =>
  fX2_findCosts_0l14 4096 l3 l4 l5 v11 s7
noncomputable def fX2_findCosts_0 (p3 : Int32) (p4 : Int32) (p5 : Int32) (σ : ST) : ST := fX2_findCosts_0b0 p3 p4 p5 σ
noncomputable def fX3_writeMiddle_0b19 (σ : ST) : ST :=
  σ
noncomputable def fX3_writeMiddle_0b53 (σ : ST) : ST :=
  σ
noncomputable def fX3_writeMiddle_0b27 (K22 : Int32 → Int32 → ST → ST) (l2 : Int32) (l3 : Int32) (σ : ST) : ST :=
  bd (l2 + l3) fun v30 =>
  bd (l3.toNatClampNeg) fun v36 =>
  bd (σ.1 3) fun v38 =>
  bd (v38 - 1) fun v42 =>
  bd (v42 / 2) fun v44 =>
  bd (σ.2.2 (8 + v36) v44.toNatClampNeg) fun v45 =>
  bd (sA σ 15 (upd (σ.2.2 15) v30.toNatClampNeg v45)) fun s46 =>
  bd (l3 + 1) fun v47 =>
  K22 l2 v47 s46
noncomputable def fX3_writeMiddle_0b22 (K22 : Int32 → Int32 → ST → ST) (l2 : Int32) (l3 : Int32) (σ : ST) : ST :=
  if 4 ≤ l3 then
    fX3_writeMiddle_0b53 σ
  else
    fX3_writeMiddle_0b27 K22 l2 l3 σ
noncomputable def fX3_writeMiddle_0l22 : Nat → Int32 → Int32 → ST → ST
  | 0, _, _, σ => σ
  | fu + 1, l2, l3, σ => fX3_writeMiddle_0b22 (fX3_writeMiddle_0l22 fu) l2 l3 σ
noncomputable def fX3_writeMiddle_0b20 (l2 : Int32) (σ : ST) : ST :=
  fX3_writeMiddle_0l22 4096 l2 0 σ
noncomputable def fX3_writeMiddle_0b11 (l2 : Int32) (σ : ST) : ST :=
  bd ((192 : Int32) - 4) fun v15 =>
  if l2 ≤ v15 then
    fX3_writeMiddle_0b20 l2 σ
  else
    fX3_writeMiddle_0b19 σ
noncomputable def fX3_writeMiddle_0b7 (l2 : Int32) (σ : ST) : ST :=
  if l2 < 0 then
    fX3_writeMiddle_0b19 σ
  else
    fX3_writeMiddle_0b11 l2 σ
noncomputable def fX3_writeMiddle_0b0 (l2 : Int32) (σ : ST) : ST :=
  bd (σ.1 3) fun v1 =>
  if v1 = 0 then
    fX3_writeMiddle_0b19 σ
  else
    fX3_writeMiddle_0b7 l2 σ
noncomputable def fX3_writeMiddle_0 (p2 : Int32) (σ : ST) : ST := fX3_writeMiddle_0b0 p2 σ
noncomputable def fX2_addPieces_0b161 (σ : ST) : ST :=
  σ
noncomputable def fX2_addPieces_0b79 (K3 : Int32 → Int32 → ST → ST) (l4 : Int32) (l5 : Int32) (l6 : Int32) (σ : ST) : ST :=
  bd (σ.1 5) fun v84 =>
  bd (sA σ 12 (upd (σ.2.2 12) v84.toNatClampNeg l5)) fun s89 =>
  bd (s89.1 5) fun v95 =>
  bd (l6 - l5) fun v102 =>
  bd (sA s89 13 (upd (s89.2.2 13) v95.toNatClampNeg v102)) fun s103 =>
  bd (s103.1 5) fun v109 =>
  bd (s103.1 4) fun v113 =>
  bd (sA s103 14 (upd (s103.2.2 14) v109.toNatClampNeg v113)) fun s116 =>
  bd (s116.1 5) fun v122 =>
  bd (s116.1 6) fun v126 =>
  bd (sA s116 16 (upd (s116.2.2 16) v122.toNatClampNeg v126)) fun s129 =>
  bd (s129.1 5) fun v136 =>
  bd (v136 * 4) fun v140 =>
  bd (fX3_writeMiddle_0 v140 s129) fun s141 =>
  bd (s141.1 5) fun v146 =>
  bd (v146 + 1) fun v150 =>
  bd (sI s141 5 v150) fun s151 =>
  K3 l4 l6 s151
noncomputable def fX2_addPieces_0b55 (K3 : Int32 → Int32 → ST → ST) (K48 : Int32 → Int32 → Int32 → Int32 → ST → ST) (l4 : Int32) (l5 : Int32) (l6 : Int32) (l7 : Int32) (σ : ST) : ST :=
  bd (fX3_take_0 l7 σ) fun s59 =>
  bd (s59.1 5) fun v69 =>
  bd (sA s59 17 (upd (s59.2.2 17) l7.toNatClampNeg v69)) fun s72 =>
  bd (l7 + 1) fun v73 =>
  K48 l4 l5 l6 v73 s72
noncomputable def fX2_addPieces_0b48 (K3 : Int32 → Int32 → ST → ST) (K48 : Int32 → Int32 → Int32 → Int32 → ST → ST) (l4 : Int32) (l5 : Int32) (l6 : Int32) (l7 : Int32) (σ : ST) : ST :=
  if l6 ≤ l7 then
    fX2_addPieces_0b79 K3 l4 l5 l6 σ
  else
    fX2_addPieces_0b55 K3 K48 l4 l5 l6 l7 σ
noncomputable def fX2_addPieces_0l48 (K3 : Int32 → Int32 → ST → ST) : Nat → Int32 → Int32 → Int32 → Int32 → ST → ST
  | 0, _, _, _, _, σ => σ
  | fu + 1, l4, l5, l6, l7, σ => fX2_addPieces_0b48 K3 (fX2_addPieces_0l48 K3 fu) l4 l5 l6 l7 σ
noncomputable def fX2_addPieces_0b19 (K3 : Int32 → Int32 → ST → ST) (l4 : Int32) (l5 : Int32) (σ : ST) : ST :=
  bd (σ.2.2 19 l5.toNatClampNeg) fun v30 =>
  bd (if (1 : Int32) < v30 then v30 else (1 : Int32)) fun v31 =>
  bd (l5 + v31) fun v34 =>
  bd (if v34 < l4 then v34 else l4) fun v35 =>
  bd (fX3_empty_0 σ) fun s41 =>
  fX2_addPieces_0l48 K3 4096 l4 l5 v35 l5 s41
noncomputable def fX2_addPieces_0b10 (K3 : Int32 → Int32 → ST → ST) (l4 : Int32) (l5 : Int32) (σ : ST) : ST :=
  bd (σ.1 5) fun v11 =>
  if 48 ≤ v11 then
    fX2_addPieces_0b161 σ
  else
    fX2_addPieces_0b19 K3 l4 l5 σ
noncomputable def fX2_addPieces_0b3 (K3 : Int32 → Int32 → ST → ST) (l4 : Int32) (l5 : Int32) (σ : ST) : ST :=
  if l4 ≤ l5 then
    fX2_addPieces_0b161 σ
  else
    fX2_addPieces_0b10 K3 l4 l5 σ
noncomputable def fX2_addPieces_0l3 : Nat → Int32 → Int32 → ST → ST
  | 0, _, _, σ => σ
  | fu + 1, l4, l5, σ => fX2_addPieces_0b3 (fX2_addPieces_0l3 fu) l4 l5 σ
noncomputable def fX2_addPieces_0b0 (l3 : Int32) (l4 : Int32) (σ : ST) : ST :=
  fX2_addPieces_0l3 4096 l4 l3 σ
noncomputable def fX2_addPieces_0 (p3 : Int32) (p4 : Int32) (σ : ST) : ST := fX2_addPieces_0b0 p3 p4 σ
noncomputable def fX7_isHeard_0b18 (σ : ST) : Int32 :=
  0
noncomputable def fX7_isHeard_0b61 (t0 : Int32) (σ : ST) : Int32 :=
  t0
noncomputable def fX7_isHeard_0b60 (σ : ST) : Int32 :=
  fX7_isHeard_0b61 0 σ
noncomputable def fX7_isHeard_0b56 (σ : ST) : Int32 :=
  fX7_isHeard_0b61 1 σ
noncomputable def fX7_isHeard_0b51 (l2 : Int32) (l3 : Int32) (σ : ST) : Int32 :=
  if l3 < l2 then
    fX7_isHeard_0b60 σ
  else
    fX7_isHeard_0b56 σ
noncomputable def fX7_isHeard_0b31 (K25 : Int32 → Int32 → Int32 → Int32 → ST → Int32) (l1 : Int32) (l2 : Int32) (l3 : Int32) (l4 : Int32) (σ : ST) : Int32 :=
  bd (l1 * 4) fun v38 =>
  bd (v38 + l4) fun v41 =>
  bd (σ.2.2 3 v41.toNatClampNeg) fun v42 =>
  bd (l3 + v42) fun v43 =>
  bd (l4 + 1) fun v45 =>
  K25 l1 l2 v43 v45 σ
noncomputable def fX7_isHeard_0b25 (K25 : Int32 → Int32 → Int32 → Int32 → ST → Int32) (l1 : Int32) (l2 : Int32) (l3 : Int32) (l4 : Int32) (σ : ST) : Int32 :=
  if 4 ≤ l4 then
    fX7_isHeard_0b51 l2 l3 σ
  else
    fX7_isHeard_0b31 K25 l1 l2 l3 l4 σ
noncomputable def fX7_isHeard_0l25 : Nat → Int32 → Int32 → Int32 → Int32 → ST → Int32
  | 0, _, _, _, _, σ => 0
  | fu + 1, l1, l2, l3, l4, σ => fX7_isHeard_0b25 (fX7_isHeard_0l25 fu) l1 l2 l3 l4 σ
noncomputable def fX7_isHeard_0b20 (l1 : Int32) (l2 : Int32) (σ : ST) : Int32 :=
  fX7_isHeard_0l25 4096 l1 l2 0 0 σ
noncomputable def fX7_isHeard_0b9 (l1 : Int32) (l2 : Int32) (σ : ST) : Int32 :=
  bd (σ.2.2 5 l1.toNatClampNeg) fun v14 =>
  if v14 = 0 then
    fX7_isHeard_0b20 l1 l2 σ
  else
    fX7_isHeard_0b18 σ
noncomputable def fX7_isHeard_0b0 (l1 : Int32) (l2 : Int32) (σ : ST) : Int32 :=
  bd (σ.2.2 4 l1.toNatClampNeg) fun v5 =>
  if v5 = 0 then
    fX7_isHeard_0b9 l1 l2 σ
  else
    fX7_isHeard_0b18 σ
noncomputable def fX7_isHeard_0 (p1 : Int32) (p2 : Int32) (σ : ST) : Int32 := fX7_isHeard_0b0 p1 p2 σ
noncomputable def fX2_cut_0b148 (σ : ST) : ST :=
  σ
noncomputable def fX2_cut_0b139 (K32 : Int32 → Int32 → Int32 → ST → ST) (l3 : Int32) (l4 : Int32) (l6 : Int32) (σ : ST) : ST :=
  bd (l6 + 1) fun v142 =>
  K32 l3 l4 v142 σ
noncomputable def fX2_cut_0b78 (K32 : Int32 → Int32 → Int32 → ST → ST) (l3 : Int32) (l4 : Int32) (l5 : Int32) (l6 : Int32) (σ : ST) : ST :=
  bd (fX2_findCosts_0 l3 l5 l6 σ) fun s86 =>
  bd (fX2_addPieces_0 l5 l6 s86) fun s96 =>
  bd (s96.1 7) fun v101 =>
  bd (s96.2.2 18 l5.toNatClampNeg) fun v110 =>
  bd (v101 + v110) fun v111 =>
  bd (sI s96 7 v111) fun s112 =>
  bd (s112.1 8) fun v117 =>
  bd (l6 - l5) fun v124 =>
  bd (v117 + v124) fun v125 =>
  bd (sI s112 8 v125) fun s126 =>
  bd (s126.1 6) fun v131 =>
  bd (v131 + 1) fun v135 =>
  bd (sI s126 6 v135) fun s136 =>
  fX2_cut_0b139 K32 l3 l4 l6 s136
noncomputable def fX2_cut_0b71 (K32 : Int32 → Int32 → Int32 → ST → ST) (l3 : Int32) (l4 : Int32) (l5 : Int32) (l6 : Int32) (σ : ST) : ST :=
  if l6 ≤ l5 then
    fX2_cut_0b139 K32 l3 l4 l6 σ
  else
    fX2_cut_0b78 K32 l3 l4 l5 l6 σ
noncomputable def fX2_cut_0b65 (K32 : Int32 → Int32 → Int32 → ST → ST) (K45 : Int32 → Int32 → Int32 → Int32 → ST → ST) (l3 : Int32) (l4 : Int32) (l5 : Int32) (l6 : Int32) (σ : ST) : ST :=
  bd (l6 + 1) fun v65 =>
  K45 l3 l4 l5 v65 σ
noncomputable def fX2_cut_0b54 (K32 : Int32 → Int32 → Int32 → ST → ST) (K45 : Int32 → Int32 → Int32 → Int32 → ST → ST) (l3 : Int32) (l4 : Int32) (l5 : Int32) (l6 : Int32) (σ : ST) : ST :=
  bd (fX7_isHeard_0 l6 l4 σ) fun v59 =>
  if v59 = 0 then
    fX2_cut_0b71 K32 l3 l4 l5 l6 σ
  else
    fX2_cut_0b65 K32 K45 l3 l4 l5 l6 σ
noncomputable def fX2_cut_0b45 (K32 : Int32 → Int32 → Int32 → ST → ST) (K45 : Int32 → Int32 → Int32 → Int32 → ST → ST) (l3 : Int32) (l4 : Int32) (l5 : Int32) (l6 : Int32) (σ : ST) : ST :=
  bd (σ.1 2) fun v48 =>
  if v48 ≤ l6 then
    fX2_cut_0b71 K32 l3 l4 l5 l6 σ
  else
    fX2_cut_0b54 K32 K45 l3 l4 l5 l6 σ
noncomputable def fX2_cut_0l45 (K32 : Int32 → Int32 → Int32 → ST → ST) : Nat → Int32 → Int32 → Int32 → Int32 → ST → ST
  | 0, _, _, _, _, σ => σ
  | fu + 1, l3, l4, l5, l6, σ => fX2_cut_0b45 K32 (fX2_cut_0l45 K32 fu) l3 l4 l5 l6 σ
noncomputable def fX2_cut_0b41 (K32 : Int32 → Int32 → Int32 → ST → ST) (l3 : Int32) (l4 : Int32) (l5 : Int32) (σ : ST) : ST :=
  fX2_cut_0l45 K32 4096 l3 l4 l5 l5 σ
noncomputable def fX2_cut_0b32 (K32 : Int32 → Int32 → Int32 → ST → ST) (l3 : Int32) (l4 : Int32) (l5 : Int32) (σ : ST) : ST :=
  bd (σ.1 2) fun v35 =>
  if v35 ≤ l5 then
    fX2_cut_0b148 σ
  else
    fX2_cut_0b41 K32 l3 l4 l5 σ
noncomputable def fX2_cut_0l32 : Nat → Int32 → Int32 → Int32 → ST → ST
  | 0, _, _, _, σ => σ
  | fu + 1, l3, l4, l5, σ => fX2_cut_0b32 (fX2_cut_0l32 fu) l3 l4 l5 σ
noncomputable def fX2_cut_0b0 (l3 : Int32) (l4 : Int32) (σ : ST) : ST :=
  bd (sI σ 5 0) fun s2 =>
  bd (sI s2 6 0) fun s7 =>
  bd (sI s7 7 0) fun s12 =>
  bd (sI s12 8 0) fun s17 =>
  bd (sA s17 17 (fun j => if j < 48 then (-9) else s17.2.2 17 j)) fun s26 =>
  fX2_cut_0l32 4096 l3 l4 0 s26
noncomputable def fX2_cut_0 (p3 : Int32) (p4 : Int32) (σ : ST) : ST := fX2_cut_0b0 p3 p4 σ
noncomputable def fX11_cutNow_0b43 (σ : ST) : ST :=
  σ
noncomputable def fX11_cutNow_0b7 (σ : ST) : ST :=
  bd (fX8_ruleNow_0 0 σ) fun v24 =>
  bd (fX8_ruleNow_0 1 σ) fun v32 =>
  bd (fX2_cut_0 v24 v32 σ) fun s35 =>
  bd (sI s35 22 0) fun s40 =>
  fX11_cutNow_0b43 s40
noncomputable def fX11_cutNow_0b0 (σ : ST) : ST :=
  bd (σ.1 22) fun v1 =>
  if v1 = 0 then
    fX11_cutNow_0b43 σ
  else
    fX11_cutNow_0b7 σ
noncomputable def fX11_cutNow_0  (σ : ST) : ST := fX11_cutNow_0b0  σ
noncomputable def fX11_pieces_0b36 (σ : ST) : (Int32 × ST) :=
  bd (σ.1 5) fun v40 =>
  (v40, σ)
noncomputable def fX11_pieces_0b44 (σ : ST) : (Int32 × ST) :=
  bd (σ.1 6) fun v48 =>
  (v48, σ)
noncomputable def fX11_pieces_0b52 (σ : ST) : (Int32 × ST) :=
  bd (σ.1 7) fun v56 =>
  (v56, σ)
noncomputable def fX11_pieces_0b60 (σ : ST) : (Int32 × ST) :=
  bd (σ.1 8) fun v64 =>
  (v64, σ)
noncomputable def fX11_pieces_0b68 (σ : ST) : (Int32 × ST) :=
  ((-1), σ)
noncomputable def fX11_pieces_0b0 (l1 : Int32) (σ : ST) : (Int32 × ST) :=
  bd (fX11_cutNow_0 σ) fun s1 =>
  if l1 = 0 then fX11_pieces_0b36 s1 else
  if l1 = 1 then fX11_pieces_0b44 s1 else
  if l1 = 2 then fX11_pieces_0b52 s1 else
  if l1 = 3 then fX11_pieces_0b60 s1 else
  fX11_pieces_0b68 s1
noncomputable def fX11_pieces_0 (p1 : Int32) (σ : ST) : (Int32 × ST) := fX11_pieces_0b0 p1 σ
noncomputable def fX11_isPiece_0b0 (l1 : Int32) (σ : ST) : (Int32 × ST) :=
  bd (fX11_cutNow_0 σ) fun s1 =>
  bd (s1.1 5) fun v10 =>
  bd (v10 - 1) fun v14 =>
  bd (fX11_within_0 l1 0 v14 s1) fun v15 =>
  (v15, s1)
noncomputable def fX11_isPiece_0 (p1 : Int32) (σ : ST) : (Int32 × ST) := fX11_isPiece_0b0 p1 σ
noncomputable def fX2_middleOf_0b35 (t0 : Int32) (σ : ST) : Int32 :=
  t0
noncomputable def fX2_middleOf_0b34 (σ : ST) : Int32 :=
  fX2_middleOf_0b35 0 σ
noncomputable def fX2_middleOf_0b21 (l1 : Int32) (l2 : Int32) (σ : ST) : Int32 :=
  bd (l1 * 4) fun v27 =>
  bd (v27 + l2) fun v29 =>
  bd (σ.2.2 15 v29.toNatClampNeg) fun v30 =>
  fX2_middleOf_0b35 v30 σ
noncomputable def fX2_middleOf_0b16 (l1 : Int32) (l2 : Int32) (σ : ST) : Int32 :=
  if 4 ≤ l2 then
    fX2_middleOf_0b34 σ
  else
    fX2_middleOf_0b21 l1 l2 σ
noncomputable def fX2_middleOf_0b12 (l1 : Int32) (l2 : Int32) (σ : ST) : Int32 :=
  if l2 < 0 then
    fX2_middleOf_0b34 σ
  else
    fX2_middleOf_0b16 l1 l2 σ
noncomputable def fX2_middleOf_0b4 (l1 : Int32) (l2 : Int32) (σ : ST) : Int32 :=
  bd (σ.1 5) fun v6 =>
  if v6 ≤ l1 then
    fX2_middleOf_0b34 σ
  else
    fX2_middleOf_0b12 l1 l2 σ
noncomputable def fX2_middleOf_0b0 (l1 : Int32) (l2 : Int32) (σ : ST) : Int32 :=
  if l1 < 0 then
    fX2_middleOf_0b34 σ
  else
    fX2_middleOf_0b4 l1 l2 σ
noncomputable def fX2_middleOf_0 (p1 : Int32) (p2 : Int32) (σ : ST) : Int32 := fX2_middleOf_0b0 p1 p2 σ
noncomputable def fX11_piece_0b52 (l1 : Int32) (σ : ST) : (Int32 × ST) :=
  bd (σ.2.2 12 l1.toNatClampNeg) fun v60 =>
  (v60, σ)
noncomputable def fX11_piece_0b62 (l1 : Int32) (σ : ST) : (Int32 × ST) :=
  bd (σ.2.2 13 l1.toNatClampNeg) fun v70 =>
  (v70, σ)
noncomputable def fX11_piece_0b72 (l1 : Int32) (σ : ST) : (Int32 × ST) :=
  bd (σ.2.2 14 l1.toNatClampNeg) fun v80 =>
  (v80, σ)
noncomputable def fX11_piece_0b82 (l1 : Int32) (l2 : Int32) (σ : ST) : (Int32 × ST) :=
  bd (l2 - 3) fun v89 =>
  bd (fX2_middleOf_0 l1 v89 σ) fun v90 =>
  (v90, σ)
noncomputable def fX11_piece_0b94 (σ : ST) : (Int32 × ST) :=
  ((-1), σ)
noncomputable def fX11_piece_0b10 (l1 : Int32) (l2 : Int32) (σ : ST) : (Int32 × ST) :=
  if l2 = 0 then fX11_piece_0b52 l1 σ else
  if l2 = 1 then fX11_piece_0b62 l1 σ else
  if l2 = 2 then fX11_piece_0b72 l1 σ else
  if l2 = 3 then fX11_piece_0b82 l1 l2 σ else
  if l2 = 4 then fX11_piece_0b82 l1 l2 σ else
  if l2 = 5 then fX11_piece_0b82 l1 l2 σ else
  if l2 = 6 then fX11_piece_0b82 l1 l2 σ else
  fX11_piece_0b94 σ
noncomputable def fX11_piece_0b8 (σ : ST) : (Int32 × ST) :=
  ((-1), σ)
noncomputable def fX11_piece_0b0 (l1 : Int32) (l2 : Int32) (σ : ST) : (Int32 × ST) :=
  bp (fX11_isPiece_0 l1 σ) fun v2 s2 =>
  if v2 = 0 then
    fX11_piece_0b8 s2
  else
    fX11_piece_0b10 l1 l2 s2
noncomputable def fX11_piece_0 (p1 : Int32) (p2 : Int32) (σ : ST) : (Int32 × ST) := fX11_piece_0b0 p1 p2 σ
noncomputable def fX11_of_0b19 (l1 : Int32) (σ : ST) : (Int32 × ST) :=
  bd (fX11_cutNow_0 σ) fun s20 =>
  bd (s20.2.2 17 l1.toNatClampNeg) fun v31 =>
  (v31, s20)
noncomputable def fX11_of_0b17 (σ : ST) : (Int32 × ST) :=
  ((-1), σ)
noncomputable def fX11_of_0b0 (l1 : Int32) (σ : ST) : (Int32 × ST) :=
  bd (σ.1 2) fun v6 =>
  bd (v6 - 1) fun v10 =>
  bd (fX11_within_0 l1 0 v10 σ) fun v11 =>
  if v11 = 0 then
    fX11_of_0b17 σ
  else
    fX11_of_0b19 l1 σ
noncomputable def fX11_of_0 (p1 : Int32) (σ : ST) : (Int32 × ST) := fX11_of_0b0 p1 σ
noncomputable def fX11_off_0b24 (σ : ST) : Int32 :=
  0
noncomputable def fX11_off_0b65 (l4 : Int32) (σ : ST) : Int32 :=
  l4
noncomputable def fX11_off_0b38 (K32 : Int32 → Int32 → Int32 → Int32 → ST → Int32) (l1 : Int32) (l3 : Int32) (l4 : Int32) (l5 : Int32) (σ : ST) : Int32 :=
  bd (l1 + l5) fun v44 =>
  bd (σ.2.2 15 v44.toNatClampNeg) fun v45 =>
  bd (l3 + l5) fun v50 =>
  bd (σ.2.2 15 v50.toNatClampNeg) fun v51 =>
  bd (v45 - v51) fun v52 =>
  bd (if 0 ≤ v52 then v52 else 0 - v52) fun v53 =>
  bd (l4 + v53) fun v56 =>
  bd (l5 + 1) fun v59 =>
  K32 l1 l3 v56 v59 σ
noncomputable def fX11_off_0b32 (K32 : Int32 → Int32 → Int32 → Int32 → ST → Int32) (l1 : Int32) (l3 : Int32) (l4 : Int32) (l5 : Int32) (σ : ST) : Int32 :=
  if 4 ≤ l5 then
    fX11_off_0b65 l4 σ
  else
    fX11_off_0b38 K32 l1 l3 l4 l5 σ
noncomputable def fX11_off_0l32 : Nat → Int32 → Int32 → Int32 → Int32 → ST → Int32
  | 0, _, _, _, _, σ => 0
  | fu + 1, l1, l3, l4, l5, σ => fX11_off_0b32 (fX11_off_0l32 fu) l1 l3 l4 l5 σ
noncomputable def fX11_off_0b26 (l1 : Int32) (l3 : Int32) (σ : ST) : Int32 :=
  fX11_off_0l32 4096 l1 l3 0 0 σ
noncomputable def fX11_off_0b16 (l1 : Int32) (l3 : Int32) (σ : ST) : Int32 :=
  bd ((192 : Int32) - 4) fun v20 =>
  if l3 ≤ v20 then
    fX11_off_0b26 l1 l3 σ
  else
    fX11_off_0b24 σ
noncomputable def fX11_off_0b12 (l1 : Int32) (l3 : Int32) (σ : ST) : Int32 :=
  if l3 < 0 then
    fX11_off_0b24 σ
  else
    fX11_off_0b16 l1 l3 σ
noncomputable def fX11_off_0b4 (l1 : Int32) (l3 : Int32) (σ : ST) : Int32 :=
  bd ((192 : Int32) - 4) fun v8 =>
  if v8 < l1 then
    fX11_off_0b24 σ
  else
    fX11_off_0b12 l1 l3 σ
noncomputable def fX11_off_0b0 (l1 : Int32) (l3 : Int32) (σ : ST) : Int32 :=
  if l1 < 0 then
    fX11_off_0b24 σ
  else
    fX11_off_0b4 l1 l3 σ
noncomputable def fX11_off_0 (p1 : Int32) (p3 : Int32) (σ : ST) : Int32 := fX11_off_0b0 p1 p3 σ
noncomputable def fX2_likeness_0b0 (l1 : Int32) (l2 : Int32) (l3 : Int32) (σ : ST) : Int32 :=
  bd (l1 * 4) fun v7 =>
  bd (l2 * 4) fun v14 =>
  bd (fX11_off_0 v7 v14 σ) fun v15 =>
  bd (l3 - v15) fun v18 =>
  bd (σ.2.2 13 l1.toNatClampNeg) fun v24 =>
  bd (σ.2.2 13 l2.toNatClampNeg) fun v30 =>
  bd (if v30 < v24 then v30 else v24) fun v31 =>
  bd (v18 * v31) fun v34 =>
  v34
noncomputable def fX2_likeness_0 (p1 : Int32) (p2 : Int32) (p3 : Int32) (σ : ST) : Int32 := fX2_likeness_0b0 p1 p2 p3 σ
noncomputable def fX11_like_0b21 (σ : ST) : (Int32 × ST) :=
  ((-1000000), σ)
noncomputable def fX11_like_0b24 (l1 : Int32) (l2 : Int32) (σ : ST) : (Int32 × ST) :=
  bd (fX8_ruleNow_0 2 σ) fun v35 =>
  bd (fX2_likeness_0 l1 l2 v35 σ) fun v38 =>
  (v38, σ)
noncomputable def fX11_like_0b16 (l1 : Int32) (l2 : Int32) (σ : ST) : (Int32 × ST) :=
  if l1 = l2 then
    fX11_like_0b21 σ
  else
    fX11_like_0b24 l1 l2 σ
noncomputable def fX11_like_0b8 (l1 : Int32) (l2 : Int32) (σ : ST) : (Int32 × ST) :=
  bp (fX11_isPiece_0 l2 σ) fun v10 s10 =>
  if v10 = 0 then
    fX11_like_0b21 s10
  else
    fX11_like_0b16 l1 l2 s10
noncomputable def fX11_like_0b0 (l1 : Int32) (l2 : Int32) (σ : ST) : (Int32 × ST) :=
  bp (fX11_isPiece_0 l1 σ) fun v2 s2 =>
  if v2 = 0 then
    fX11_like_0b21 s2
  else
    fX11_like_0b8 l1 l2 s2
noncomputable def fX11_like_0 (p1 : Int32) (p2 : Int32) (σ : ST) : (Int32 × ST) := fX11_like_0b0 p1 p2 σ
noncomputable def fX1_fillGains_0b75 (σ : ST) : ST :=
  σ
noncomputable def fX1_fillGains_0b69 (K13 : Int32 → Int32 → Int32 → ST → ST) (l1 : Int32) (l2 : Int32) (l3 : Int32) (σ : ST) : ST :=
  bd (l3 + 1) fun v69 =>
  K13 l1 l2 v69 σ
noncomputable def fX1_fillGains_0b33 (K13 : Int32 → Int32 → Int32 → ST → ST) (K26 : Int32 → Int32 → Int32 → Int32 → Int32 → ST → ST) (l1 : Int32) (l2 : Int32) (l3 : Int32) (l4 : Int32) (l5 : Int32) (σ : ST) : ST :=
  bd (l2 ||| l4) fun v40 =>
  bd (v40 ||| l5) fun v43 =>
  bd (l2 ||| l5) fun v51 =>
  bd (σ.2.2 40 v51.toNatClampNeg) fun v52 =>
  bd (l3.toNatClampNeg) fun v58 =>
  bd (σ.2.2 (21 + v58) l1.toNatClampNeg) fun v60 =>
  bd (v52 + v60) fun v61 =>
  bd (sA σ 40 (upd (σ.2.2 40) v43.toNatClampNeg v61)) fun s62 =>
  bd (l5 + 1) fun v63 =>
  K26 l1 l2 l3 l4 v63 s62
noncomputable def fX1_fillGains_0b26 (K13 : Int32 → Int32 → Int32 → ST → ST) (K26 : Int32 → Int32 → Int32 → Int32 → Int32 → ST → ST) (l1 : Int32) (l2 : Int32) (l3 : Int32) (l4 : Int32) (l5 : Int32) (σ : ST) : ST :=
  if l4 ≤ l5 then
    fX1_fillGains_0b69 K13 l1 l2 l3 σ
  else
    fX1_fillGains_0b33 K13 K26 l1 l2 l3 l4 l5 σ
noncomputable def fX1_fillGains_0l26 (K13 : Int32 → Int32 → Int32 → ST → ST) : Nat → Int32 → Int32 → Int32 → Int32 → Int32 → ST → ST
  | 0, _, _, _, _, _, σ => σ
  | fu + 1, l1, l2, l3, l4, l5, σ => fX1_fillGains_0b26 K13 (fX1_fillGains_0l26 K13 fu) l1 l2 l3 l4 l5 σ
noncomputable def fX1_fillGains_0b18 (K13 : Int32 → Int32 → Int32 → ST → ST) (l1 : Int32) (l2 : Int32) (l3 : Int32) (σ : ST) : ST :=
  bd ((1 : Int32) <<< (l3 &&& 31)) fun v20 =>
  fX1_fillGains_0l26 K13 4096 l1 l2 l3 v20 0 σ
noncomputable def fX1_fillGains_0b13 (K13 : Int32 → Int32 → Int32 → ST → ST) (l1 : Int32) (l2 : Int32) (l3 : Int32) (σ : ST) : ST :=
  if l1 ≤ l3 then
    fX1_fillGains_0b75 σ
  else
    fX1_fillGains_0b18 K13 l1 l2 l3 σ
noncomputable def fX1_fillGains_0l13 : Nat → Int32 → Int32 → Int32 → ST → ST
  | 0, _, _, _, σ => σ
  | fu + 1, l1, l2, l3, σ => fX1_fillGains_0b13 (fX1_fillGains_0l13 fu) l1 l2 l3 σ
noncomputable def fX1_fillGains_0b0 (l1 : Int32) (σ : ST) : ST :=
  bd ((1 : Int32) <<< (l1 &&& 31)) fun v2 =>
  bd (sA σ 40 (upd (σ.2.2 40) v2.toNatClampNeg 0)) fun s10 =>
  fX1_fillGains_0l13 4096 l1 v2 0 s10
noncomputable def fX1_fillGains_0 (p1 : Int32) (σ : ST) : ST := fX1_fillGains_0b0 p1 σ
noncomputable def fX2_doTouch_0b30 (t0 : Int32) (σ : ST) : Int32 :=
  t0
noncomputable def fX2_doTouch_0b29 (σ : ST) : Int32 :=
  fX2_doTouch_0b30 0 σ
noncomputable def fX2_doTouch_0b25 (σ : ST) : Int32 :=
  fX2_doTouch_0b30 1 σ
noncomputable def fX2_doTouch_0b10 (l1 : Int32) (l2 : Int32) (σ : ST) : Int32 :=
  bd (σ.2.2 16 l1.toNatClampNeg) fun v15 =>
  bd (σ.2.2 16 l2.toNatClampNeg) fun v21 =>
  if v15 = v21 then
    fX2_doTouch_0b25 σ
  else
    fX2_doTouch_0b29 σ
noncomputable def fX2_doTouch_0b0 (l1 : Int32) (l2 : Int32) (σ : ST) : Int32 :=
  bd (l1 - l2) fun v2 =>
  bd (if 0 ≤ v2 then v2 else 0 - v2) fun v3 =>
  if v3 = 1 then
    fX2_doTouch_0b10 l1 l2 σ
  else
    fX2_doTouch_0b29 σ
noncomputable def fX2_doTouch_0 (p1 : Int32) (p2 : Int32) (σ : ST) : Int32 := fX2_doTouch_0b0 p1 p2 σ
noncomputable def fX1_tie_0b128 (σ : ST) : ST :=
  σ
noncomputable def fX1_tie_0b116 (K107 : Int32 → ST → ST) (l4 : Int32) (σ : ST) : ST :=
  bd (fX1_fillGains_0 l4 σ) fun s119 =>
  bd (l4 + 1) fun v122 =>
  K107 v122 s119
noncomputable def fX1_tie_0b107 (K107 : Int32 → ST → ST) (l4 : Int32) (σ : ST) : ST :=
  bd (σ.1 9) fun v110 =>
  if v110 ≤ l4 then
    fX1_tie_0b128 σ
  else
    fX1_tie_0b116 K107 l4 σ
noncomputable def fX1_tie_0l107 : Nat → Int32 → ST → ST
  | 0, _, σ => σ
  | fu + 1, l4, σ => fX1_tie_0b107 (fX1_tie_0l107 fu) l4 σ
noncomputable def fX1_tie_0b104 (σ : ST) : ST :=
  fX1_tie_0l107 4096 0 σ
noncomputable def fX1_tie_0b98 (K16 : Int32 → Int32 → Int32 → ST → ST) (l2 : Int32) (l3 : Int32) (l4 : Int32) (σ : ST) : ST :=
  bd (l4 + 1) fun v98 =>
  K16 l2 l3 v98 σ
noncomputable def fX1_tie_0b65 (K16 : Int32 → Int32 → Int32 → ST → ST) (K31 : Int32 → Int32 → Int32 → Int32 → ST → ST) (l2 : Int32) (l3 : Int32) (l4 : Int32) (l5 : Int32) (t0 : Int32) (t1 : Int32) (σ : ST) : ST :=
  bd (t1 - t0) fun v65 =>
  bd (l4.toNatClampNeg) fun v74 =>
  bd (sA σ (21 + v74) (upd (σ.2.2 (21 + v74)) l5.toNatClampNeg v65)) fun s79 =>
  bd (l5.toNatClampNeg) fun v86 =>
  bd (sA s79 (21 + v86) (upd (s79.2.2 (21 + v86)) l4.toNatClampNeg v65)) fun s91 =>
  bd (l5 + 1) fun v92 =>
  K31 l2 l3 l4 v92 s91
noncomputable def fX1_tie_0b64 (K16 : Int32 → Int32 → Int32 → ST → ST) (K31 : Int32 → Int32 → Int32 → Int32 → ST → ST) (l2 : Int32) (l3 : Int32) (l4 : Int32) (l5 : Int32) (t0 : Int32) (σ : ST) : ST :=
  fX1_tie_0b65 K16 K31 l2 l3 l4 l5 0 t0 σ
noncomputable def fX1_tie_0b60 (K16 : Int32 → Int32 → Int32 → ST → ST) (K31 : Int32 → Int32 → Int32 → Int32 → ST → ST) (l2 : Int32) (l3 : Int32) (l4 : Int32) (l5 : Int32) (t0 : Int32) (σ : ST) : ST :=
  fX1_tie_0b65 K16 K31 l2 l3 l4 l5 l3 t0 σ
noncomputable def fX1_tie_0b40 (K16 : Int32 → Int32 → Int32 → ST → ST) (K31 : Int32 → Int32 → Int32 → Int32 → ST → ST) (l2 : Int32) (l3 : Int32) (l4 : Int32) (l5 : Int32) (σ : ST) : ST :=
  bd (fX2_likeness_0 l4 l5 l2 σ) fun v46 =>
  bd (fX2_doTouch_0 l4 l5 σ) fun v54 =>
  if v54 = 0 then
    fX1_tie_0b64 K16 K31 l2 l3 l4 l5 v46 σ
  else
    fX1_tie_0b60 K16 K31 l2 l3 l4 l5 v46 σ
noncomputable def fX1_tie_0b31 (K16 : Int32 → Int32 → Int32 → ST → ST) (K31 : Int32 → Int32 → Int32 → Int32 → ST → ST) (l2 : Int32) (l3 : Int32) (l4 : Int32) (l5 : Int32) (σ : ST) : ST :=
  bd (σ.1 9) fun v34 =>
  if v34 ≤ l5 then
    fX1_tie_0b98 K16 l2 l3 l4 σ
  else
    fX1_tie_0b40 K16 K31 l2 l3 l4 l5 σ
noncomputable def fX1_tie_0l31 (K16 : Int32 → Int32 → Int32 → ST → ST) : Nat → Int32 → Int32 → Int32 → Int32 → ST → ST
  | 0, _, _, _, _, σ => σ
  | fu + 1, l2, l3, l4, l5, σ => fX1_tie_0b31 K16 (fX1_tie_0l31 K16 fu) l2 l3 l4 l5 σ
noncomputable def fX1_tie_0b25 (K16 : Int32 → Int32 → Int32 → ST → ST) (l2 : Int32) (l3 : Int32) (l4 : Int32) (σ : ST) : ST :=
  bd (l4 + 1) fun v28 =>
  fX1_tie_0l31 K16 4096 l2 l3 l4 v28 σ
noncomputable def fX1_tie_0b16 (K16 : Int32 → Int32 → Int32 → ST → ST) (l2 : Int32) (l3 : Int32) (l4 : Int32) (σ : ST) : ST :=
  bd (σ.1 9) fun v19 =>
  if v19 ≤ l4 then
    fX1_tie_0b104 σ
  else
    fX1_tie_0b25 K16 l2 l3 l4 σ
noncomputable def fX1_tie_0l16 : Nat → Int32 → Int32 → Int32 → ST → ST
  | 0, _, _, _, σ => σ
  | fu + 1, l2, l3, l4, σ => fX1_tie_0b16 (fX1_tie_0l16 fu) l2 l3 l4 σ
noncomputable def fX1_tie_0b0 (l2 : Int32) (l3 : Int32) (σ : ST) : ST :=
  bd (σ.1 5) fun v2 =>
  bd (if 9 < v2 then 9 else v2) fun v7 =>
  bd (sI σ 9 v7) fun s10 =>
  fX1_tie_0l16 4096 l2 l3 0 s10
noncomputable def fX1_tie_0 (p2 : Int32) (p3 : Int32) (σ : ST) : ST := fX1_tie_0b0 p2 p3 σ
noncomputable def fX0_meetNear_0b62 (σ : ST) : ST :=
  σ
noncomputable def fX0_meetNear_0b8 (l1 : Int32) (l3 : Int64) (σ : ST) : ST :=
  bd (σ.1 14) fun v10 =>
  bd (v10 + 1) fun v14 =>
  bd (sI σ 14 v14) fun s15 =>
  bd (s15.1 15) fun v20 =>
  bd (if l1 < v20 then l1 else v20) fun v24 =>
  bd (sI s15 15 v24) fun s27 =>
  bd (s27.1 16) fun v32 =>
  bd (if v32 < l1 then l1 else v32) fun v36 =>
  bd (sI s27 16 v36) fun s39 =>
  bd (s39.2.1 0) fun v44 =>
  bd (v44 &&& l3) fun v48 =>
  bd (sL s39 0 v48) fun s49 =>
  bd (s49.2.1 1) fun v54 =>
  bd (v54 ||| l3) fun v58 =>
  bd (sL s49 1 v58) fun s59 =>
  fX0_meetNear_0b62 s59
noncomputable def fX0_meetNear_0b0 (l1 : Int32) (l2 : Int32) (l3 : Int64) (σ : ST) : ST :=
  bd (σ.1 13) fun v2 =>
  if l2 < v2 then
    fX0_meetNear_0b62 σ
  else
    fX0_meetNear_0b8 l1 l3 σ
noncomputable def fX0_meetNear_0 (p1 : Int32) (p2 : Int32) (p3 : Int64) (σ : ST) : ST := fX0_meetNear_0b0 p1 p2 p3 σ
noncomputable def fX0_meet_0b84 (σ : ST) : ST :=
  σ
noncomputable def fX0_meet_0b61 (K48 : Int32 → Int32 → ST → ST) (l1 : Int32) (l6 : Int32) (σ : ST) : ST :=
  bd (σ.2.2 44 l6.toNatClampNeg) fun v76 =>
  bd (sA σ 41 (upd (σ.2.2 41) l6.toNatClampNeg v76)) fun s77 =>
  bd (l6 + 1) fun v78 =>
  K48 l1 v78 s77
noncomputable def fX0_meet_0b54 (K48 : Int32 → Int32 → ST → ST) (l1 : Int32) (l6 : Int32) (σ : ST) : ST :=
  if 9 ≤ l6 then
    fX0_meet_0b84 σ
  else
    fX0_meet_0b61 K48 l1 l6 σ
noncomputable def fX0_meet_0b48 (K48 : Int32 → Int32 → ST → ST) (l1 : Int32) (l6 : Int32) (σ : ST) : ST :=
  if l1 ≤ l6 then
    fX0_meet_0b84 σ
  else
    fX0_meet_0b54 K48 l1 l6 σ
noncomputable def fX0_meet_0l48 : Nat → Int32 → Int32 → ST → ST
  | 0, _, _, σ => σ
  | fu + 1, l1, l6, σ => fX0_meet_0b48 (fX0_meet_0l48 fu) l1 l6 σ
noncomputable def fX0_meet_0b29 (l1 : Int32) (l2 : Int32) (l3 : Int32) (σ : ST) : ST :=
  bd (sI σ 11 l3) fun s34 =>
  bd (sI s34 10 l2) fun s42 =>
  fX0_meet_0l48 4096 l1 0 s42
noncomputable def fX0_meet_0b18 (l1 : Int32) (l2 : Int32) (l3 : Int32) (σ : ST) : ST :=
  bd (σ.1 11) fun v23 =>
  if l3 ≤ v23 then
    fX0_meet_0b84 σ
  else
    fX0_meet_0b29 l1 l2 l3 σ
noncomputable def fX0_meet_0b7 (l2 : Int32) (l3 : Int32) (l4 : Int64) (σ : ST) : ST :=
  bd (fX0_meetNear_0 l2 l3 l4 σ) fun s12 =>
  fX0_meet_0b84 s12
noncomputable def fX0_meet_0b0 (l1 : Int32) (l2 : Int32) (l3 : Int32) (l4 : Int64) (σ : ST) : ST :=
  bd (σ.1 12) fun v1 =>
  if v1 = 0 then
    fX0_meet_0b18 l1 l2 l3 σ
  else
    fX0_meet_0b7 l2 l3 l4 σ
noncomputable def fX0_meet_0 (p1 : Int32) (p2 : Int32) (p3 : Int32) (p4 : Int64) (σ : ST) : ST := fX0_meet_0b0 p1 p2 p3 p4 σ
noncomputable def fX1_gainOf_0b29 (t0 : Int32) (σ : ST) : Int32 :=
  t0
noncomputable def fX1_gainOf_0b28 (σ : ST) : Int32 :=
  fX1_gainOf_0b29 0 σ
noncomputable def fX1_gainOf_0b19 (l3 : Int32) (σ : ST) : Int32 :=
  bd (σ.2.2 40 l3.toNatClampNeg) fun v24 =>
  fX1_gainOf_0b29 v24 σ
noncomputable def fX1_gainOf_0b10 (l3 : Int32) (σ : ST) : Int32 :=
  if 512 ≤ l3 then
    fX1_gainOf_0b28 σ
  else
    fX1_gainOf_0b19 l3 σ
noncomputable def fX1_gainOf_0b0 (l1 : Int32) (l2 : Int32) (σ : ST) : Int32 :=
  bd ((1 : Int32) <<< (l1 &&& 31)) fun v2 =>
  bd (v2 ||| l2) fun v4 =>
  if v4 < 0 then
    fX1_gainOf_0b28 σ
  else
    fX1_gainOf_0b10 v4 σ
noncomputable def fX1_gainOf_0 (p1 : Int32) (p2 : Int32) (σ : ST) : Int32 := fX1_gainOf_0b0 p1 p2 σ
noncomputable def fX0_placeOfPairs_0b0 (l0 : Int32) (σ : ST) : Int32 :=
  bd (l0 - 1) fun v3 =>
  bd (l0 * v3) fun v4 =>
  bd (v4 / 2) fun v6 =>
  v6
noncomputable def fX0_placeOfPairs_0 (p0 : Int32) (σ : ST) : Int32 := fX0_placeOfPairs_0b0 p0 σ
noncomputable def fX0_deal_0b14 (REC : Int32 → Int32 → Int32 → Int64 → ST → ST) (l3 : Int32) (l4 : Int32) (l5 : Int64) (σ : ST) : ST :=
  bd (σ.1 9) fun v16 =>
  bd (fX0_meet_0 v16 l3 l4 l5 σ) fun s24 =>
  s24
noncomputable def fX0_deal_0b126 (REC : Int32 → Int32 → Int32 → Int64 → ST → ST) (σ : ST) : ST :=
  σ
noncomputable def fX0_deal_0b44 (REC : Int32 → Int32 → Int32 → Int64 → ST → ST) (K31 : Int32 → Int32 → Int32 → Int64 → Int32 → ST → ST) (l2 : Int32) (l3 : Int32) (l4 : Int32) (l5 : Int64) (l7 : Int32) (σ : ST) : ST :=
  bd (σ.2.2 45 l7.toNatClampNeg) fun v50 =>
  bd (sA σ 44 (upd (σ.2.2 44) l2.toNatClampNeg l7)) fun s60 =>
  bd ((1 : Int32) <<< (l2 &&& 31)) fun v71 =>
  bd (v50 ||| v71) fun v72 =>
  bd (sA s60 45 (upd (s60.2.2 45) l7.toNatClampNeg v72)) fun s73 =>
  bd (l2 + 1) fun v78 =>
  bd (l7 + 1) fun v83 =>
  bd (if l3 < v83 then v83 else l3) fun v84 =>
  bd (fX1_gainOf_0 l2 v50 s73) fun v93 =>
  bd (l4 + v93) fun v96 =>
  bd (v50.toInt64) fun v101 =>
  bd (fX0_placeOfPairs_0 l2 s73) fun v103 =>
  bd (v101 <<< (v103.toInt64 &&& 63)) fun v106 =>
  bd (l5 ||| v106) fun v107 =>
  bd (REC v78 v84 v96 v107 s73) fun s108 =>
  bd (sA s108 45 (upd (s108.2.2 45) l7.toNatClampNeg v50)) fun s119 =>
  bd (l7 + 1) fun v120 =>
  K31 l2 l3 l4 l5 v120 s119
noncomputable def fX0_deal_0b37 (REC : Int32 → Int32 → Int32 → Int64 → ST → ST) (K31 : Int32 → Int32 → Int32 → Int64 → Int32 → ST → ST) (l2 : Int32) (l3 : Int32) (l4 : Int32) (l5 : Int64) (l7 : Int32) (σ : ST) : ST :=
  if 9 ≤ l7 then
    fX0_deal_0b126 REC σ
  else
    fX0_deal_0b44 REC K31 l2 l3 l4 l5 l7 σ
noncomputable def fX0_deal_0b31 (REC : Int32 → Int32 → Int32 → Int64 → ST → ST) (K31 : Int32 → Int32 → Int32 → Int64 → Int32 → ST → ST) (l2 : Int32) (l3 : Int32) (l4 : Int32) (l5 : Int64) (l7 : Int32) (σ : ST) : ST :=
  if l3 < l7 then
    fX0_deal_0b126 REC σ
  else
    fX0_deal_0b37 REC K31 l2 l3 l4 l5 l7 σ
noncomputable def fX0_deal_0l31 (REC : Int32 → Int32 → Int32 → Int64 → ST → ST) : Nat → Int32 → Int32 → Int32 → Int64 → Int32 → ST → ST
  | 0, _, _, _, _, _, σ => σ
  | fu + 1, l2, l3, l4, l5, l7, σ => fX0_deal_0b31 REC (fX0_deal_0l31 REC fu) l2 l3 l4 l5 l7 σ
noncomputable def fX0_deal_0b28 (REC : Int32 → Int32 → Int32 → Int64 → ST → ST) (l2 : Int32) (l3 : Int32) (l4 : Int32) (l5 : Int64) (σ : ST) : ST :=
  fX0_deal_0l31 REC 4096 l2 l3 l4 l5 0 σ
noncomputable def fX0_deal_0b8 (REC : Int32 → Int32 → Int32 → Int64 → ST → ST) (l2 : Int32) (l3 : Int32) (l4 : Int32) (l5 : Int64) (σ : ST) : ST :=
  if l2 < 9 then
    fX0_deal_0b28 REC l2 l3 l4 l5 σ
  else
    fX0_deal_0b14 REC l3 l4 l5 σ
noncomputable def fX0_deal_0b0 (REC : Int32 → Int32 → Int32 → Int64 → ST → ST) (l2 : Int32) (l3 : Int32) (l4 : Int32) (l5 : Int64) (σ : ST) : ST :=
  bd (σ.1 9) fun v2 =>
  if v2 ≤ l2 then
    fX0_deal_0b14 REC l3 l4 l5 σ
  else
    fX0_deal_0b8 REC l2 l3 l4 l5 σ
noncomputable def fX0_deal_0 : Nat → Int32 → Int32 → Int32 → Int64 → ST → ST
  | 0, _, _, _, _, σ => σ
  | d + 1, p2, p3, p4, p5, σ => fX0_deal_0b0 (fX0_deal_0 d) p2 p3 p4 p5 σ
noncomputable def fX0_findBest_0b0 (σ : ST) : ST :=
  bd (sI σ 12 0) fun s2 =>
  bd (sI s2 11 (-1000000000)) fun s11 =>
  bd (sA s11 45 (fun j => if j < 9 then 0 else s11.2.2 45 j)) fun s19 =>
  bd (fX0_deal_0 10 0 0 0 (0 : Int64) s19) fun s28 =>
  s28
noncomputable def fX0_findBest_0  (σ : ST) : ST := fX0_findBest_0b0  σ
noncomputable def fX3_writeMiddle_1b19 (σ : ST) : ST :=
  σ
noncomputable def fX3_writeMiddle_1b53 (σ : ST) : ST :=
  σ
noncomputable def fX3_writeMiddle_1b27 (K22 : Int32 → Int32 → ST → ST) (l2 : Int32) (l3 : Int32) (σ : ST) : ST :=
  bd (l2 + l3) fun v30 =>
  bd (l3.toNatClampNeg) fun v36 =>
  bd (σ.1 3) fun v38 =>
  bd (v38 - 1) fun v42 =>
  bd (v42 / 2) fun v44 =>
  bd (σ.2.2 (8 + v36) v44.toNatClampNeg) fun v45 =>
  bd (sA σ 43 (upd (σ.2.2 43) v30.toNatClampNeg v45)) fun s46 =>
  bd (l3 + 1) fun v47 =>
  K22 l2 v47 s46
noncomputable def fX3_writeMiddle_1b22 (K22 : Int32 → Int32 → ST → ST) (l2 : Int32) (l3 : Int32) (σ : ST) : ST :=
  if 4 ≤ l3 then
    fX3_writeMiddle_1b53 σ
  else
    fX3_writeMiddle_1b27 K22 l2 l3 σ
noncomputable def fX3_writeMiddle_1l22 : Nat → Int32 → Int32 → ST → ST
  | 0, _, _, σ => σ
  | fu + 1, l2, l3, σ => fX3_writeMiddle_1b22 (fX3_writeMiddle_1l22 fu) l2 l3 σ
noncomputable def fX3_writeMiddle_1b20 (l2 : Int32) (σ : ST) : ST :=
  fX3_writeMiddle_1l22 4096 l2 0 σ
noncomputable def fX3_writeMiddle_1b11 (l2 : Int32) (σ : ST) : ST :=
  bd ((36 : Int32) - 4) fun v15 =>
  if l2 ≤ v15 then
    fX3_writeMiddle_1b20 l2 σ
  else
    fX3_writeMiddle_1b19 σ
noncomputable def fX3_writeMiddle_1b7 (l2 : Int32) (σ : ST) : ST :=
  if l2 < 0 then
    fX3_writeMiddle_1b19 σ
  else
    fX3_writeMiddle_1b11 l2 σ
noncomputable def fX3_writeMiddle_1b0 (l2 : Int32) (σ : ST) : ST :=
  bd (σ.1 3) fun v1 =>
  if v1 = 0 then
    fX3_writeMiddle_1b19 σ
  else
    fX3_writeMiddle_1b7 l2 σ
noncomputable def fX3_writeMiddle_1 (p2 : Int32) (σ : ST) : ST := fX3_writeMiddle_1b0 p2 σ
noncomputable def fX4_findMiddles_0b106 (σ : ST) : ST :=
  σ
noncomputable def fX4_findMiddles_0b88 (K3 : Int32 → ST → ST) (l4 : Int32) (σ : ST) : ST :=
  bd (l4 * 4) fun v96 =>
  bd (fX3_writeMiddle_1 v96 σ) fun s97 =>
  bd (l4 + 1) fun v100 =>
  K3 v100 s97
noncomputable def fX4_findMiddles_0b82 (K3 : Int32 → ST → ST) (K26 : Int32 → Int32 → ST → ST) (l4 : Int32) (l5 : Int32) (σ : ST) : ST :=
  bd (l5 + 1) fun v82 =>
  K26 l4 v82 σ
noncomputable def fX4_findMiddles_0b75 (K3 : Int32 → ST → ST) (K26 : Int32 → Int32 → ST → ST) (l4 : Int32) (l5 : Int32) (σ : ST) : ST :=
  bd (fX3_take_0 l5 σ) fun s79 =>
  fX4_findMiddles_0b82 K3 K26 l4 l5 s79
noncomputable def fX4_findMiddles_0b63 (K3 : Int32 → ST → ST) (K26 : Int32 → Int32 → ST → ST) (l4 : Int32) (l5 : Int32) (l6 : Int32) (σ : ST) : ST :=
  bd (σ.2.2 41 l6.toNatClampNeg) fun v69 =>
  if v69 = l4 then
    fX4_findMiddles_0b75 K3 K26 l4 l5 σ
  else
    fX4_findMiddles_0b82 K3 K26 l4 l5 σ
noncomputable def fX4_findMiddles_0b56 (K3 : Int32 → ST → ST) (K26 : Int32 → Int32 → ST → ST) (l4 : Int32) (l5 : Int32) (l6 : Int32) (σ : ST) : ST :=
  if 9 ≤ l6 then
    fX4_findMiddles_0b82 K3 K26 l4 l5 σ
  else
    fX4_findMiddles_0b63 K3 K26 l4 l5 l6 σ
noncomputable def fX4_findMiddles_0b42 (K3 : Int32 → ST → ST) (K26 : Int32 → Int32 → ST → ST) (l4 : Int32) (l5 : Int32) (σ : ST) : ST :=
  bd (σ.2.2 17 l5.toNatClampNeg) fun v48 =>
  if v48 < 0 then
    fX4_findMiddles_0b82 K3 K26 l4 l5 σ
  else
    fX4_findMiddles_0b56 K3 K26 l4 l5 v48 σ
noncomputable def fX4_findMiddles_0b35 (K3 : Int32 → ST → ST) (K26 : Int32 → Int32 → ST → ST) (l4 : Int32) (l5 : Int32) (σ : ST) : ST :=
  if 48 ≤ l5 then
    fX4_findMiddles_0b88 K3 l4 σ
  else
    fX4_findMiddles_0b42 K3 K26 l4 l5 σ
noncomputable def fX4_findMiddles_0b26 (K3 : Int32 → ST → ST) (K26 : Int32 → Int32 → ST → ST) (l4 : Int32) (l5 : Int32) (σ : ST) : ST :=
  bd (σ.1 2) fun v29 =>
  if v29 ≤ l5 then
    fX4_findMiddles_0b88 K3 l4 σ
  else
    fX4_findMiddles_0b35 K3 K26 l4 l5 σ
noncomputable def fX4_findMiddles_0l26 (K3 : Int32 → ST → ST) : Nat → Int32 → Int32 → ST → ST
  | 0, _, _, σ => σ
  | fu + 1, l4, l5, σ => fX4_findMiddles_0b26 K3 (fX4_findMiddles_0l26 K3 fu) l4 l5 σ
noncomputable def fX4_findMiddles_0b19 (K3 : Int32 → ST → ST) (l4 : Int32) (σ : ST) : ST :=
  bd (fX3_empty_0 σ) fun s20 =>
  fX4_findMiddles_0l26 K3 4096 l4 0 s20
noncomputable def fX4_findMiddles_0b12 (K3 : Int32 → ST → ST) (l4 : Int32) (σ : ST) : ST :=
  if 9 ≤ l4 then
    fX4_findMiddles_0b106 σ
  else
    fX4_findMiddles_0b19 K3 l4 σ
noncomputable def fX4_findMiddles_0b3 (K3 : Int32 → ST → ST) (l4 : Int32) (σ : ST) : ST :=
  bd (σ.1 10) fun v6 =>
  if v6 ≤ l4 then
    fX4_findMiddles_0b106 σ
  else
    fX4_findMiddles_0b12 K3 l4 σ
noncomputable def fX4_findMiddles_0l3 : Nat → Int32 → ST → ST
  | 0, _, σ => σ
  | fu + 1, l4, σ => fX4_findMiddles_0b3 (fX4_findMiddles_0l3 fu) l4 σ
noncomputable def fX4_findMiddles_0b0 (σ : ST) : ST :=
  fX4_findMiddles_0l3 4096 0 σ
noncomputable def fX4_findMiddles_0  (σ : ST) : ST := fX4_findMiddles_0b0  σ
noncomputable def fX4_numberHeaps_0b107 (σ : ST) : ST :=
  σ
noncomputable def fX4_numberHeaps_0b100 (K16 : Int32 → Int32 → ST → ST) (l1 : Int32) (l2 : Int32) (t0 : Int32) (t1 : Int32) (σ : ST) : ST :=
  bd (sA σ 46 (upd (σ.2.2 46) t1.toNatClampNeg t0)) fun s100 =>
  bd (l2 + 1) fun v101 =>
  K16 l1 v101 s100
noncomputable def fX4_numberHeaps_0b99 (K16 : Int32 → Int32 → ST → ST) (l1 : Int32) (l2 : Int32) (t0 : Int32) (σ : ST) : ST :=
  fX4_numberHeaps_0b100 K16 l1 l2 0 t0 σ
noncomputable def fX4_numberHeaps_0b90 (K16 : Int32 → Int32 → ST → ST) (l1 : Int32) (l2 : Int32) (l3 : Int32) (t0 : Int32) (σ : ST) : ST :=
  bd (σ.2.2 47 l3.toNatClampNeg) fun v95 =>
  fX4_numberHeaps_0b100 K16 l1 l2 v95 t0 σ
noncomputable def fX4_numberHeaps_0b84 (K16 : Int32 → Int32 → ST → ST) (l1 : Int32) (l2 : Int32) (l3 : Int32) (t0 : Int32) (σ : ST) : ST :=
  if 9 ≤ l3 then
    fX4_numberHeaps_0b99 K16 l1 l2 t0 σ
  else
    fX4_numberHeaps_0b90 K16 l1 l2 l3 t0 σ
noncomputable def fX4_numberHeaps_0b75 (K16 : Int32 → Int32 → ST → ST) (l1 : Int32) (l2 : Int32) (l3 : Int32) (σ : ST) : ST :=
  if l3 < 0 then
    fX4_numberHeaps_0b99 K16 l1 l2 l2 σ
  else
    fX4_numberHeaps_0b84 K16 l1 l2 l3 l2 σ
noncomputable def fX4_numberHeaps_0b55 (K16 : Int32 → Int32 → ST → ST) (l1 : Int32) (l2 : Int32) (l3 : Int32) (σ : ST) : ST :=
  bd (σ.1 17) fun v61 =>
  bd (sA σ 47 (upd (σ.2.2 47) l3.toNatClampNeg v61)) fun s64 =>
  bd (s64.1 17) fun v67 =>
  bd (v67 + 1) fun v71 =>
  bd (sI s64 17 v71) fun s72 =>
  fX4_numberHeaps_0b75 K16 l1 l2 l3 s72
noncomputable def fX4_numberHeaps_0b44 (K16 : Int32 → Int32 → ST → ST) (l1 : Int32) (l2 : Int32) (l3 : Int32) (σ : ST) : ST :=
  bd (σ.2.2 47 l3.toNatClampNeg) fun v49 =>
  if v49 = (-9) then
    fX4_numberHeaps_0b55 K16 l1 l2 l3 σ
  else
    fX4_numberHeaps_0b75 K16 l1 l2 l3 σ
noncomputable def fX4_numberHeaps_0b38 (K16 : Int32 → Int32 → ST → ST) (l1 : Int32) (l2 : Int32) (l3 : Int32) (σ : ST) : ST :=
  if 9 ≤ l3 then
    fX4_numberHeaps_0b75 K16 l1 l2 l3 σ
  else
    fX4_numberHeaps_0b44 K16 l1 l2 l3 σ
noncomputable def fX4_numberHeaps_0b27 (K16 : Int32 → Int32 → ST → ST) (l1 : Int32) (l2 : Int32) (σ : ST) : ST :=
  bd (σ.2.2 46 l2.toNatClampNeg) fun v32 =>
  if v32 < 0 then
    fX4_numberHeaps_0b75 K16 l1 l2 v32 σ
  else
    fX4_numberHeaps_0b38 K16 l1 l2 v32 σ
noncomputable def fX4_numberHeaps_0b21 (K16 : Int32 → Int32 → ST → ST) (l1 : Int32) (l2 : Int32) (σ : ST) : ST :=
  if 9 ≤ l2 then
    fX4_numberHeaps_0b107 σ
  else
    fX4_numberHeaps_0b27 K16 l1 l2 σ
noncomputable def fX4_numberHeaps_0b16 (K16 : Int32 → Int32 → ST → ST) (l1 : Int32) (l2 : Int32) (σ : ST) : ST :=
  if l1 ≤ l2 then
    fX4_numberHeaps_0b107 σ
  else
    fX4_numberHeaps_0b21 K16 l1 l2 σ
noncomputable def fX4_numberHeaps_0l16 : Nat → Int32 → Int32 → ST → ST
  | 0, _, _, σ => σ
  | fu + 1, l1, l2, σ => fX4_numberHeaps_0b16 (fX4_numberHeaps_0l16 fu) l1 l2 σ
noncomputable def fX4_numberHeaps_0b0 (l1 : Int32) (σ : ST) : ST :=
  bd (sA σ 47 (fun j => if j < 9 then (-9) else σ.2.2 47 j)) fun s6 =>
  bd (sI s6 17 0) fun s11 =>
  fX4_numberHeaps_0l16 4096 l1 0 s11
noncomputable def fX4_numberHeaps_0 (p1 : Int32) (σ : ST) : ST := fX4_numberHeaps_0b0 p1 σ
noncomputable def fX1_worthOf_0b70 (l2 : Int32) (σ : ST) : Int32 :=
  l2
noncomputable def fX1_worthOf_0b64 (K4 : Int32 → Int32 → ST → Int32) (l2 : Int32) (l3 : Int32) (σ : ST) : Int32 :=
  bd (l3 + 1) fun v64 =>
  K4 l2 v64 σ
noncomputable def fX1_worthOf_0b56 (K4 : Int32 → Int32 → ST → Int32) (K17 : Int32 → Int32 → Int32 → ST → Int32) (l3 : Int32) (l4 : Int32) (t0 : Int32) (t1 : Int32) (σ : ST) : Int32 :=
  bd (t1 + t0) fun v56 =>
  bd (l4 + 1) fun v58 =>
  K17 v56 l3 v58 σ
noncomputable def fX1_worthOf_0b55 (K4 : Int32 → Int32 → ST → Int32) (K17 : Int32 → Int32 → Int32 → ST → Int32) (l3 : Int32) (l4 : Int32) (t0 : Int32) (σ : ST) : Int32 :=
  fX1_worthOf_0b56 K4 K17 l3 l4 0 t0 σ
noncomputable def fX1_worthOf_0b43 (K4 : Int32 → Int32 → ST → Int32) (K17 : Int32 → Int32 → Int32 → ST → Int32) (l3 : Int32) (l4 : Int32) (t0 : Int32) (σ : ST) : Int32 :=
  bd (l3.toNatClampNeg) fun v48 =>
  bd (σ.2.2 (21 + v48) l4.toNatClampNeg) fun v51 =>
  fX1_worthOf_0b56 K4 K17 l3 l4 v51 t0 σ
noncomputable def fX1_worthOf_0b26 (K4 : Int32 → Int32 → ST → Int32) (K17 : Int32 → Int32 → Int32 → ST → Int32) (l2 : Int32) (l3 : Int32) (l4 : Int32) (σ : ST) : Int32 :=
  bd (σ.2.2 46 l3.toNatClampNeg) fun v32 =>
  bd (σ.2.2 46 l4.toNatClampNeg) fun v39 =>
  if v32 = v39 then
    fX1_worthOf_0b43 K4 K17 l3 l4 l2 σ
  else
    fX1_worthOf_0b55 K4 K17 l3 l4 l2 σ
noncomputable def fX1_worthOf_0b17 (K4 : Int32 → Int32 → ST → Int32) (K17 : Int32 → Int32 → Int32 → ST → Int32) (l2 : Int32) (l3 : Int32) (l4 : Int32) (σ : ST) : Int32 :=
  bd (σ.1 9) fun v20 =>
  if v20 ≤ l4 then
    fX1_worthOf_0b64 K4 l2 l3 σ
  else
    fX1_worthOf_0b26 K4 K17 l2 l3 l4 σ
noncomputable def fX1_worthOf_0l17 (K4 : Int32 → Int32 → ST → Int32) : Nat → Int32 → Int32 → Int32 → ST → Int32
  | 0, _, _, _, σ => 0
  | fu + 1, l2, l3, l4, σ => fX1_worthOf_0b17 K4 (fX1_worthOf_0l17 K4 fu) l2 l3 l4 σ
noncomputable def fX1_worthOf_0b12 (K4 : Int32 → Int32 → ST → Int32) (l2 : Int32) (l3 : Int32) (σ : ST) : Int32 :=
  bd (l3 + 1) fun v14 =>
  fX1_worthOf_0l17 K4 4096 l2 l3 v14 σ
noncomputable def fX1_worthOf_0b4 (K4 : Int32 → Int32 → ST → Int32) (l2 : Int32) (l3 : Int32) (σ : ST) : Int32 :=
  bd (σ.1 9) fun v6 =>
  if v6 ≤ l3 then
    fX1_worthOf_0b70 l2 σ
  else
    fX1_worthOf_0b12 K4 l2 l3 σ
noncomputable def fX1_worthOf_0l4 : Nat → Int32 → Int32 → ST → Int32
  | 0, _, _, σ => 0
  | fu + 1, l2, l3, σ => fX1_worthOf_0b4 (fX1_worthOf_0l4 fu) l2 l3 σ
noncomputable def fX1_worthOf_0b0 (σ : ST) : Int32 :=
  fX1_worthOf_0l4 4096 0 0 σ
noncomputable def fX1_worthOf_0  (σ : ST) : Int32 := fX1_worthOf_0b0  σ
noncomputable def fX1_joinTwo_0b111 (σ : ST) : (Int32 × ST) :=
  (0, σ)
noncomputable def fX1_joinTwo_0b189 (σ : ST) : (Int32 × ST) :=
  (1, σ)
noncomputable def fX1_joinTwo_0b183 (K116 : Int32 → Int32 → Int32 → ST → (Int32 × ST)) (l2 : Int32) (l3 : Int32) (l5 : Int32) (σ : ST) : (Int32 × ST) :=
  bd (l5 + 1) fun v183 =>
  K116 l2 l3 v183 σ
noncomputable def fX1_joinTwo_0b175 (K116 : Int32 → Int32 → Int32 → ST → (Int32 × ST)) (l2 : Int32) (l3 : Int32) (l5 : Int32) (σ : ST) : (Int32 × ST) :=
  bd (sA σ 46 (upd (σ.2.2 46) l5.toNatClampNeg l2)) fun s182 =>
  fX1_joinTwo_0b183 K116 l2 l3 l5 s182
noncomputable def fX1_joinTwo_0b125 (K116 : Int32 → Int32 → Int32 → ST → (Int32 × ST)) (l2 : Int32) (l3 : Int32) (l5 : Int32) (σ : ST) : (Int32 × ST) :=
  bd (l2.toNatClampNeg) fun v130 =>
  bd (σ.2.2 (31 + v130) l5.toNatClampNeg) fun v134 =>
  bd (l3.toNatClampNeg) fun v140 =>
  bd (σ.2.2 (31 + v140) l5.toNatClampNeg) fun v143 =>
  bd (v134 + v143) fun v144 =>
  bd (sA σ (31 + v130) (upd (σ.2.2 (31 + v130)) l5.toNatClampNeg v144)) fun s145 =>
  bd (l5.toNatClampNeg) fun v152 =>
  bd (l2.toNatClampNeg) fun v159 =>
  bd (s145.2.2 (31 + v159) l5.toNatClampNeg) fun v162 =>
  bd (sA s145 (31 + v152) (upd (s145.2.2 (31 + v152)) l2.toNatClampNeg v162)) fun s163 =>
  bd (s163.2.2 46 l5.toNatClampNeg) fun v170 =>
  if v170 = l3 then
    fX1_joinTwo_0b175 K116 l2 l3 l5 s163
  else
    fX1_joinTwo_0b183 K116 l2 l3 l5 s163
noncomputable def fX1_joinTwo_0b116 (K116 : Int32 → Int32 → Int32 → ST → (Int32 × ST)) (l2 : Int32) (l3 : Int32) (l5 : Int32) (σ : ST) : (Int32 × ST) :=
  bd (σ.1 9) fun v119 =>
  if v119 ≤ l5 then
    fX1_joinTwo_0b189 σ
  else
    fX1_joinTwo_0b125 K116 l2 l3 l5 σ
noncomputable def fX1_joinTwo_0l116 : Nat → Int32 → Int32 → Int32 → ST → (Int32 × ST)
  | 0, _, _, _, σ => (0, σ)
  | fu + 1, l2, l3, l5, σ => fX1_joinTwo_0b116 (fX1_joinTwo_0l116 fu) l2 l3 l5 σ
noncomputable def fX1_joinTwo_0b113 (l2 : Int32) (l3 : Int32) (σ : ST) : (Int32 × ST) :=
  fX1_joinTwo_0l116 4096 l2 l3 0 σ
noncomputable def fX1_joinTwo_0b107 (l2 : Int32) (l3 : Int32) (σ : ST) : (Int32 × ST) :=
  if 0 ≤ l3 then
    fX1_joinTwo_0b113 l2 l3 σ
  else
    fX1_joinTwo_0b111 σ
noncomputable def fX1_joinTwo_0b103 (l2 : Int32) (l3 : Int32) (σ : ST) : (Int32 × ST) :=
  if l2 < 0 then
    fX1_joinTwo_0b111 σ
  else
    fX1_joinTwo_0b107 l2 l3 σ
noncomputable def fX1_joinTwo_0b97 (K10 : Int32 → Int32 → Int32 → Int32 → ST → (Int32 × ST)) (l2 : Int32) (l3 : Int32) (l4 : Int32) (l5 : Int32) (σ : ST) : (Int32 × ST) :=
  bd (l5 + 1) fun v97 =>
  K10 l2 l3 l4 v97 σ
noncomputable def fX1_joinTwo_0b91 (K10 : Int32 → Int32 → Int32 → Int32 → ST → (Int32 × ST)) (K25 : Int32 → Int32 → Int32 → Int32 → Int32 → ST → (Int32 × ST)) (l2 : Int32) (l3 : Int32) (l4 : Int32) (l5 : Int32) (l6 : Int32) (σ : ST) : (Int32 × ST) :=
  bd (l6 + 1) fun v91 =>
  K25 l2 l3 l4 l5 v91 σ
noncomputable def fX1_joinTwo_0b73 (K10 : Int32 → Int32 → Int32 → Int32 → ST → (Int32 × ST)) (K25 : Int32 → Int32 → Int32 → Int32 → Int32 → ST → (Int32 × ST)) (l5 : Int32) (l6 : Int32) (σ : ST) : (Int32 × ST) :=
  bd (l5.toNatClampNeg) fun v79 =>
  bd (σ.2.2 (31 + v79) l6.toNatClampNeg) fun v82 =>
  fX1_joinTwo_0b91 K10 K25 l5 l6 v82 l5 l6 σ
noncomputable def fX1_joinTwo_0b58 (K10 : Int32 → Int32 → Int32 → Int32 → ST → (Int32 × ST)) (K25 : Int32 → Int32 → Int32 → Int32 → Int32 → ST → (Int32 × ST)) (l2 : Int32) (l3 : Int32) (l4 : Int32) (l5 : Int32) (l6 : Int32) (σ : ST) : (Int32 × ST) :=
  bd (l5.toNatClampNeg) fun v64 =>
  bd (σ.2.2 (31 + v64) l6.toNatClampNeg) fun v67 =>
  if v67 ≤ l4 then
    fX1_joinTwo_0b91 K10 K25 l2 l3 l4 l5 l6 σ
  else
    fX1_joinTwo_0b73 K10 K25 l5 l6 σ
noncomputable def fX1_joinTwo_0b46 (K10 : Int32 → Int32 → Int32 → Int32 → ST → (Int32 × ST)) (K25 : Int32 → Int32 → Int32 → Int32 → Int32 → ST → (Int32 × ST)) (l2 : Int32) (l3 : Int32) (l4 : Int32) (l5 : Int32) (l6 : Int32) (σ : ST) : (Int32 × ST) :=
  bd (σ.2.2 46 l6.toNatClampNeg) fun v52 =>
  if v52 = l6 then
    fX1_joinTwo_0b58 K10 K25 l2 l3 l4 l5 l6 σ
  else
    fX1_joinTwo_0b91 K10 K25 l2 l3 l4 l5 l6 σ
noncomputable def fX1_joinTwo_0b34 (K10 : Int32 → Int32 → Int32 → Int32 → ST → (Int32 × ST)) (K25 : Int32 → Int32 → Int32 → Int32 → Int32 → ST → (Int32 × ST)) (l2 : Int32) (l3 : Int32) (l4 : Int32) (l5 : Int32) (l6 : Int32) (σ : ST) : (Int32 × ST) :=
  bd (σ.2.2 46 l5.toNatClampNeg) fun v40 =>
  if v40 = l5 then
    fX1_joinTwo_0b46 K10 K25 l2 l3 l4 l5 l6 σ
  else
    fX1_joinTwo_0b91 K10 K25 l2 l3 l4 l5 l6 σ
noncomputable def fX1_joinTwo_0b25 (K10 : Int32 → Int32 → Int32 → Int32 → ST → (Int32 × ST)) (K25 : Int32 → Int32 → Int32 → Int32 → Int32 → ST → (Int32 × ST)) (l2 : Int32) (l3 : Int32) (l4 : Int32) (l5 : Int32) (l6 : Int32) (σ : ST) : (Int32 × ST) :=
  bd (σ.1 9) fun v28 =>
  if v28 ≤ l6 then
    fX1_joinTwo_0b97 K10 l2 l3 l4 l5 σ
  else
    fX1_joinTwo_0b34 K10 K25 l2 l3 l4 l5 l6 σ
noncomputable def fX1_joinTwo_0l25 (K10 : Int32 → Int32 → Int32 → Int32 → ST → (Int32 × ST)) : Nat → Int32 → Int32 → Int32 → Int32 → Int32 → ST → (Int32 × ST)
  | 0, _, _, _, _, _, σ => (0, σ)
  | fu + 1, l2, l3, l4, l5, l6, σ => fX1_joinTwo_0b25 K10 (fX1_joinTwo_0l25 K10 fu) l2 l3 l4 l5 l6 σ
noncomputable def fX1_joinTwo_0b19 (K10 : Int32 → Int32 → Int32 → Int32 → ST → (Int32 × ST)) (l2 : Int32) (l3 : Int32) (l4 : Int32) (l5 : Int32) (σ : ST) : (Int32 × ST) :=
  bd (l5 + 1) fun v22 =>
  fX1_joinTwo_0l25 K10 4096 l2 l3 l4 l5 v22 σ
noncomputable def fX1_joinTwo_0b10 (K10 : Int32 → Int32 → Int32 → Int32 → ST → (Int32 × ST)) (l2 : Int32) (l3 : Int32) (l4 : Int32) (l5 : Int32) (σ : ST) : (Int32 × ST) :=
  bd (σ.1 9) fun v13 =>
  if v13 ≤ l5 then
    fX1_joinTwo_0b103 l2 l3 σ
  else
    fX1_joinTwo_0b19 K10 l2 l3 l4 l5 σ
noncomputable def fX1_joinTwo_0l10 : Nat → Int32 → Int32 → Int32 → Int32 → ST → (Int32 × ST)
  | 0, _, _, _, _, σ => (0, σ)
  | fu + 1, l2, l3, l4, l5, σ => fX1_joinTwo_0b10 (fX1_joinTwo_0l10 fu) l2 l3 l4 l5 σ
noncomputable def fX1_joinTwo_0b0 (σ : ST) : (Int32 × ST) :=
  fX1_joinTwo_0l10 4096 (-1) (-1) 0 0 σ
noncomputable def fX1_joinTwo_0  (σ : ST) : (Int32 × ST) := fX1_joinTwo_0b0  σ
noncomputable def fX1_join_0b83 (σ : ST) : ST :=
  bd (σ.1 9) fun v85 =>
  bd (fX4_numberHeaps_0 v85 σ) fun s88 =>
  bd (fX1_worthOf_0 s88) fun v94 =>
  bd (sI s88 18 v94) fun s97 =>
  s97
noncomputable def fX1_join_0b71 (K59 : Int32 → Int32 → ST → ST) (l3 : Int32) (σ : ST) : ST :=
  bp (fX1_joinTwo_0 σ) fun v73 s73 =>
  bd (l3 + 1) fun v77 =>
  K59 v73 v77 s73
noncomputable def fX1_join_0b67 (K59 : Int32 → Int32 → ST → ST) (l2 : Int32) (l3 : Int32) (σ : ST) : ST :=
  if l2 = 0 then
    fX1_join_0b83 σ
  else
    fX1_join_0b71 K59 l3 σ
noncomputable def fX1_join_0b59 (K59 : Int32 → Int32 → ST → ST) (l2 : Int32) (l3 : Int32) (σ : ST) : ST :=
  bd (σ.1 9) fun v61 =>
  if v61 ≤ l3 then
    fX1_join_0b83 σ
  else
    fX1_join_0b67 K59 l2 l3 σ
noncomputable def fX1_join_0l59 : Nat → Int32 → Int32 → ST → ST
  | 0, _, _, σ => σ
  | fu + 1, l2, l3, σ => fX1_join_0b59 (fX1_join_0l59 fu) l2 l3 σ
noncomputable def fX1_join_0b55 (σ : ST) : ST :=
  fX1_join_0l59 4096 1 0 σ
noncomputable def fX1_join_0b49 (K2 : Int32 → ST → ST) (l2 : Int32) (σ : ST) : ST :=
  bd (l2 + 1) fun v49 =>
  K2 v49 σ
noncomputable def fX1_join_0b27 (K2 : Int32 → ST → ST) (K19 : Int32 → Int32 → ST → ST) (l2 : Int32) (l3 : Int32) (σ : ST) : ST :=
  bd (l2.toNatClampNeg) fun v32 =>
  bd (l2.toNatClampNeg) fun v39 =>
  bd (σ.2.2 (21 + v39) l3.toNatClampNeg) fun v41 =>
  bd (sA σ (31 + v32) (upd (σ.2.2 (31 + v32)) l3.toNatClampNeg v41)) fun s42 =>
  bd (l3 + 1) fun v43 =>
  K19 l2 v43 s42
noncomputable def fX1_join_0b19 (K2 : Int32 → ST → ST) (K19 : Int32 → Int32 → ST → ST) (l2 : Int32) (l3 : Int32) (σ : ST) : ST :=
  bd (σ.1 9) fun v21 =>
  if v21 ≤ l3 then
    fX1_join_0b49 K2 l2 σ
  else
    fX1_join_0b27 K2 K19 l2 l3 σ
noncomputable def fX1_join_0l19 (K2 : Int32 → ST → ST) : Nat → Int32 → Int32 → ST → ST
  | 0, _, _, σ => σ
  | fu + 1, l2, l3, σ => fX1_join_0b19 K2 (fX1_join_0l19 K2 fu) l2 l3 σ
noncomputable def fX1_join_0b10 (K2 : Int32 → ST → ST) (l2 : Int32) (σ : ST) : ST :=
  bd (sA σ 46 (upd (σ.2.2 46) l2.toNatClampNeg l2)) fun s16 =>
  fX1_join_0l19 K2 4096 l2 0 s16
noncomputable def fX1_join_0b2 (K2 : Int32 → ST → ST) (l2 : Int32) (σ : ST) : ST :=
  bd (σ.1 9) fun v4 =>
  if v4 ≤ l2 then
    fX1_join_0b55 σ
  else
    fX1_join_0b10 K2 l2 σ
noncomputable def fX1_join_0l2 : Nat → Int32 → ST → ST
  | 0, _, σ => σ
  | fu + 1, l2, σ => fX1_join_0b2 (fX1_join_0l2 fu) l2 σ
noncomputable def fX1_join_0b0 (σ : ST) : ST :=
  fX1_join_0l2 4096 0 σ
noncomputable def fX1_join_0  (σ : ST) : ST := fX1_join_0b0  σ
noncomputable def fX11_heapNow_0b101 (σ : ST) : (Int32 × ST) :=
  (1, σ)
noncomputable def fX11_heapNow_0b25 (σ : ST) : (Int32 × ST) :=
  bd (fX8_ruleNow_0 2 σ) fun v38 =>
  bd (fX8_ruleNow_0 4 σ) fun v46 =>
  bd (fX1_tie_0 v38 v46 σ) fun s49 =>
  bd (fX0_findBest_0 s49) fun s60 =>
  bd (fX4_findMiddles_0 s60) fun s82 =>
  bd (fX1_join_0 s82) fun s93 =>
  bd (sI s93 23 0) fun s98 =>
  fX11_heapNow_0b101 s98
noncomputable def fX11_heapNow_0b18 (σ : ST) : (Int32 × ST) :=
  bd (σ.1 23) fun v19 =>
  if v19 = 0 then
    fX11_heapNow_0b101 σ
  else
    fX11_heapNow_0b25 σ
noncomputable def fX11_heapNow_0b16 (σ : ST) : (Int32 × ST) :=
  (0, σ)
noncomputable def fX11_heapNow_0b0 (σ : ST) : (Int32 × ST) :=
  bd (fX11_cutNow_0 σ) fun s1 =>
  bd (s1.1 5) fun v8 =>
  if v8 ≤ 9 then
    fX11_heapNow_0b18 s1
  else
    fX11_heapNow_0b16 s1
noncomputable def fX11_heapNow_0  (σ : ST) : (Int32 × ST) := fX11_heapNow_0b0  σ
noncomputable def fX11_byWay_0b18 (σ : ST) : Nat :=
  54
noncomputable def fX11_byWay_0b14 (σ : ST) : Nat :=
  fX11_byWay_0b18 σ
noncomputable def fX11_byWay_0b18a (σ : ST) : Nat :=
  48
noncomputable def fX11_byWay_0b4 (σ : ST) : Nat :=
  fX11_byWay_0b18a σ
noncomputable def fX11_byWay_0b0 (l1 : Int32) (σ : ST) : Nat :=
  if l1 = 0 then
    fX11_byWay_0b4 σ
  else
    fX11_byWay_0b14 σ
noncomputable def fX11_byWay_0 (p1 : Int32) (σ : ST) : Nat := fX11_byWay_0b0 p1 σ
noncomputable def fX11_heap_0b17 (σ : ST) : (Int32 × ST) :=
  ((-1), σ)
noncomputable def fX11_heap_0b34 (l1 : Int32) (σ : ST) : (Int32 × ST) :=
  bd (σ.2.2 41 l1.toNatClampNeg) fun v38 =>
  (v38, σ)
noncomputable def fX11_heap_0b34a (l1 : Int32) (σ : ST) : (Int32 × ST) :=
  bd (σ.2.2 46 l1.toNatClampNeg) fun v38 =>
  (v38, σ)
noncomputable def fX11_heap_0b29 (l1 : Int32) (l2 : Int32) (σ : ST) : (Int32 × ST) :=
  bd (fX11_byWay_0 l2 σ) fun v31 =>
  if v31 = 48 then fX11_heap_0b34 l1 σ else
  fX11_heap_0b34a l1 σ
noncomputable def fX11_heap_0b26 (σ : ST) : (Int32 × ST) :=
  ((-2), σ)
noncomputable def fX11_heap_0b19 (l1 : Int32) (l2 : Int32) (σ : ST) : (Int32 × ST) :=
  bp (fX11_heapNow_0 σ) fun v20 s20 =>
  if v20 = 0 then
    fX11_heap_0b26 s20
  else
    fX11_heap_0b29 l1 l2 s20
noncomputable def fX11_heap_0b8 (l1 : Int32) (l2 : Int32) (σ : ST) : (Int32 × ST) :=
  bd (fX11_within_0 l2 0 1 σ) fun v11 =>
  if v11 = 0 then
    fX11_heap_0b17 σ
  else
    fX11_heap_0b19 l1 l2 σ
noncomputable def fX11_heap_0b0 (l1 : Int32) (l2 : Int32) (σ : ST) : (Int32 × ST) :=
  bp (fX11_isPiece_0 l1 σ) fun v2 s2 =>
  if v2 = 0 then
    fX11_heap_0b17 s2
  else
    fX11_heap_0b8 l1 l2 s2
noncomputable def fX11_heap_0 (p1 : Int32) (p2 : Int32) (σ : ST) : (Int32 × ST) := fX11_heap_0b0 p1 p2 σ
noncomputable def fX11_worth_0b16 (σ : ST) : (Int32 × ST) :=
  ((-1000000), σ)
noncomputable def fX11_worth_0b24 (σ : ST) : (Int32 × ST) :=
  bd (σ.1 11) fun v24 =>
  (v24, σ)
noncomputable def fX11_worth_0b24a (σ : ST) : (Int32 × ST) :=
  bd (σ.1 18) fun v24 =>
  (v24, σ)
noncomputable def fX11_worth_0b19 (l1 : Int32) (σ : ST) : (Int32 × ST) :=
  bd (fX11_byWay_0 l1 σ) fun v21 =>
  if v21 = 48 then fX11_worth_0b24 σ else
  fX11_worth_0b24a σ
noncomputable def fX11_worth_0b9 (l1 : Int32) (σ : ST) : (Int32 × ST) :=
  bp (fX11_heapNow_0 σ) fun v10 s10 =>
  if v10 = 0 then
    fX11_worth_0b16 s10
  else
    fX11_worth_0b19 l1 s10
noncomputable def fX11_worth_0b0 (l1 : Int32) (σ : ST) : (Int32 × ST) :=
  bd (fX11_within_0 l1 0 1 σ) fun v3 =>
  if v3 = 0 then
    fX11_worth_0b16 σ
  else
    fX11_worth_0b9 l1 σ
noncomputable def fX11_worth_0 (p1 : Int32) (σ : ST) : (Int32 × ST) := fX11_worth_0b0 p1 σ
noncomputable def fX0_findNear_0b0 (l2 : Int32) (σ : ST) : ST :=
  bd (sI σ 12 1) fun s2 =>
  bd (s2.1 11) fun v10 =>
  bd (v10 - l2) fun v14 =>
  bd (sI s2 13 v14) fun s15 =>
  bd (sI s15 14 0) fun s20 =>
  bd (sI s20 15 9) fun s26 =>
  bd (sI s26 16 0) fun s31 =>
  bd (sL s31 0 ((-1) : Int64)) fun s38 =>
  bd (sL s38 1 (0 : Int64)) fun s43 =>
  bd (sA s43 45 (fun j => if j < 9 then 0 else s43.2.2 45 j)) fun s51 =>
  bd (fX0_deal_0 10 0 0 0 (0 : Int64) s51) fun s60 =>
  s60
noncomputable def fX0_findNear_0 (p2 : Int32) (σ : ST) : ST := fX0_findNear_0b0 p2 σ
noncomputable def fX11_nearNow_0b31 (σ : ST) : ST :=
  σ
noncomputable def fX11_nearNow_0b7 (σ : ST) : ST :=
  bd (fX8_ruleNow_0 3 σ) fun v20 =>
  bd (fX0_findNear_0 v20 σ) fun s23 =>
  bd (sI s23 24 0) fun s28 =>
  fX11_nearNow_0b31 s28
noncomputable def fX11_nearNow_0b0 (σ : ST) : ST :=
  bd (σ.1 24) fun v1 =>
  if v1 = 0 then
    fX11_nearNow_0b31 σ
  else
    fX11_nearNow_0b7 σ
noncomputable def fX11_nearNow_0  (σ : ST) : ST := fX11_nearNow_0b0  σ
noncomputable def fX11_near_0b75 (t0 : Int32) (σ : ST) : (Int32 × ST) :=
  (t0, σ)
noncomputable def fX11_near_0b68 (σ : ST) : (Int32 × ST) :=
  bd (σ.1 16) fun v72 =>
  fX11_near_0b75 v72 σ
noncomputable def fX11_near_0b58 (σ : ST) : (Int32 × ST) :=
  bd (σ.1 15) fun v62 =>
  fX11_near_0b75 v62 σ
noncomputable def fX11_near_0b53 (l1 : Int32) (σ : ST) : (Int32 × ST) :=
  if l1 = 1 then
    fX11_near_0b58 σ
  else
    fX11_near_0b68 σ
noncomputable def fX11_near_0b45 (σ : ST) : (Int32 × ST) :=
  bd (σ.1 14) fun v49 =>
  (v49, σ)
noncomputable def fX11_near_0b37 (l1 : Int32) (σ : ST) : (Int32 × ST) :=
  bd (fX11_nearNow_0 σ) fun s38 =>
  if l1 = 0 then
    fX11_near_0b45 s38
  else
    fX11_near_0b53 l1 s38
noncomputable def fX11_near_0b33 (σ : ST) : (Int32 × ST) :=
  bd (σ.1 10) fun v33 =>
  (v33, σ)
noncomputable def fX11_near_0b33a (σ : ST) : (Int32 × ST) :=
  bd (σ.1 17) fun v33 =>
  (v33, σ)
noncomputable def fX11_near_0b26 (l1 : Int32) (σ : ST) : (Int32 × ST) :=
  bd (l1 - 3) fun v29 =>
  bd (fX11_byWay_0 v29 σ) fun v30 =>
  if v30 = 48 then fX11_near_0b33 σ else
  fX11_near_0b33a σ
noncomputable def fX11_near_0b21 (l1 : Int32) (σ : ST) : (Int32 × ST) :=
  if l1 ≤ 2 then
    fX11_near_0b37 l1 σ
  else
    fX11_near_0b26 l1 σ
noncomputable def fX11_near_0b18 (σ : ST) : (Int32 × ST) :=
  ((-2), σ)
noncomputable def fX11_near_0b11 (l1 : Int32) (σ : ST) : (Int32 × ST) :=
  bp (fX11_heapNow_0 σ) fun v12 s12 =>
  if v12 = 0 then
    fX11_near_0b18 s12
  else
    fX11_near_0b21 l1 s12
noncomputable def fX11_near_0b9 (σ : ST) : (Int32 × ST) :=
  ((-1), σ)
noncomputable def fX11_near_0b0 (l1 : Int32) (σ : ST) : (Int32 × ST) :=
  bd (fX11_within_0 l1 0 4 σ) fun v3 =>
  if v3 = 0 then
    fX11_near_0b9 σ
  else
    fX11_near_0b11 l1 σ
noncomputable def fX11_near_0 (p1 : Int32) (σ : ST) : (Int32 × ST) := fX11_near_0b0 p1 σ
noncomputable def fX0_sureness_0b46 (t0 : Int32) (σ : ST) : Int32 :=
  t0
noncomputable def fX0_sureness_0b45 (σ : ST) : Int32 :=
  fX0_sureness_0b46 2 σ
noncomputable def fX0_sureness_0b41 (σ : ST) : Int32 :=
  fX0_sureness_0b46 0 σ
noncomputable def fX0_sureness_0b30 (l3 : Int64) (σ : ST) : Int32 :=
  bd (σ.2.1 1) fun v31 =>
  bd (v31 &&& l3) fun v35 =>
  bd (lg_cmp v35 (0 : Int64)) fun v37 =>
  if v37 = 0 then
    fX0_sureness_0b41 σ
  else
    fX0_sureness_0b45 σ
noncomputable def fX0_sureness_0b28 (σ : ST) : Int32 :=
  1
noncomputable def fX0_sureness_0b0 (l1 : Int32) (l2 : Int32) (σ : ST) : Int32 :=
  bd (if l1 < l2 then l2 else l1) fun v3 =>
  bd (fX0_placeOfPairs_0 v3 σ) fun v6 =>
  bd (if l2 < l1 then l2 else l1) fun v11 =>
  bd (v6 + v11) fun v14 =>
  bd ((1 : Int64) <<< (v14.toInt64 &&& 63)) fun v15 =>
  bd (σ.2.1 0) fun v18 =>
  bd (v18 &&& v15) fun v22 =>
  bd (lg_cmp v22 (0 : Int64)) fun v24 =>
  if v24 = 0 then
    fX0_sureness_0b30 v15 σ
  else
    fX0_sureness_0b28 σ
noncomputable def fX0_sureness_0 (p1 : Int32) (p2 : Int32) (σ : ST) : Int32 := fX0_sureness_0b0 p1 p2 σ
noncomputable def fX11_sure_0b21 (σ : ST) : (Int32 × ST) :=
  ((-1), σ)
noncomputable def fX11_sure_0b33 (l1 : Int32) (l2 : Int32) (σ : ST) : (Int32 × ST) :=
  bd (fX11_nearNow_0 σ) fun s34 =>
  bd (fX0_sureness_0 l1 l2 s34) fun v43 =>
  (v43, s34)
noncomputable def fX11_sure_0b30 (σ : ST) : (Int32 × ST) :=
  ((-2), σ)
noncomputable def fX11_sure_0b23 (l1 : Int32) (l2 : Int32) (σ : ST) : (Int32 × ST) :=
  bp (fX11_heapNow_0 σ) fun v24 s24 =>
  if v24 = 0 then
    fX11_sure_0b30 s24
  else
    fX11_sure_0b33 l1 l2 s24
noncomputable def fX11_sure_0b16 (l1 : Int32) (l2 : Int32) (σ : ST) : (Int32 × ST) :=
  if l1 = l2 then
    fX11_sure_0b21 σ
  else
    fX11_sure_0b23 l1 l2 σ
noncomputable def fX11_sure_0b8 (l1 : Int32) (l2 : Int32) (σ : ST) : (Int32 × ST) :=
  bp (fX11_isPiece_0 l2 σ) fun v10 s10 =>
  if v10 = 0 then
    fX11_sure_0b21 s10
  else
    fX11_sure_0b16 l1 l2 s10
noncomputable def fX11_sure_0b0 (l1 : Int32) (l2 : Int32) (σ : ST) : (Int32 × ST) :=
  bp (fX11_isPiece_0 l1 σ) fun v2 s2 =>
  if v2 = 0 then
    fX11_sure_0b21 s2
  else
    fX11_sure_0b8 l1 l2 s2
noncomputable def fX11_sure_0 (p1 : Int32) (p2 : Int32) (σ : ST) : (Int32 × ST) := fX11_sure_0b0 p1 p2 σ
noncomputable def fX11_isHeapNumber_0b0 (l0 : Int32) (σ : ST) : Int32 :=
  bd (fX11_within_0 l0 0 8 σ) fun v4 =>
  v4
noncomputable def fX11_isHeapNumber_0 (p0 : Int32) (σ : ST) : Int32 := fX11_isHeapNumber_0b0 p0 σ
noncomputable def fX11_refusedHeap_0b29 (t0 : Int32) (σ : ST) : (Int32 × ST) :=
  (t0, σ)
noncomputable def fX11_refusedHeap_0b28 (σ : ST) : (Int32 × ST) :=
  fX11_refusedHeap_0b29 (-1) σ
noncomputable def fX11_refusedHeap_0b24 (σ : ST) : (Int32 × ST) :=
  fX11_refusedHeap_0b29 0 σ
noncomputable def fX11_refusedHeap_0b10 (l1 : Int32) (σ : ST) : (Int32 × ST) :=
  bd (σ.1 10) fun v18 =>
  if v18 ≤ l1 then
    fX11_refusedHeap_0b28 σ
  else
    fX11_refusedHeap_0b24 σ
noncomputable def fX11_refusedHeap_0b7 (σ : ST) : (Int32 × ST) :=
  ((-2), σ)
noncomputable def fX11_refusedHeap_0b0 (l1 : Int32) (σ : ST) : (Int32 × ST) :=
  bp (fX11_heapNow_0 σ) fun v1 s1 =>
  if v1 = 0 then
    fX11_refusedHeap_0b7 s1
  else
    fX11_refusedHeap_0b10 l1 s1
noncomputable def fX11_refusedHeap_0 (p1 : Int32) (σ : ST) : (Int32 × ST) := fX11_refusedHeap_0b0 p1 σ
noncomputable def fX4_middleOf_0b35 (t0 : Int32) (σ : ST) : Int32 :=
  t0
noncomputable def fX4_middleOf_0b34 (σ : ST) : Int32 :=
  fX4_middleOf_0b35 0 σ
noncomputable def fX4_middleOf_0b21 (l1 : Int32) (l2 : Int32) (σ : ST) : Int32 :=
  bd (l1 * 4) fun v27 =>
  bd (v27 + l2) fun v29 =>
  bd (σ.2.2 43 v29.toNatClampNeg) fun v30 =>
  fX4_middleOf_0b35 v30 σ
noncomputable def fX4_middleOf_0b16 (l1 : Int32) (l2 : Int32) (σ : ST) : Int32 :=
  if 4 ≤ l2 then
    fX4_middleOf_0b34 σ
  else
    fX4_middleOf_0b21 l1 l2 σ
noncomputable def fX4_middleOf_0b12 (l1 : Int32) (l2 : Int32) (σ : ST) : Int32 :=
  if l2 < 0 then
    fX4_middleOf_0b34 σ
  else
    fX4_middleOf_0b16 l1 l2 σ
noncomputable def fX4_middleOf_0b4 (l1 : Int32) (l2 : Int32) (σ : ST) : Int32 :=
  bd (σ.1 10) fun v6 =>
  if v6 ≤ l1 then
    fX4_middleOf_0b34 σ
  else
    fX4_middleOf_0b12 l1 l2 σ
noncomputable def fX4_middleOf_0b0 (l1 : Int32) (l2 : Int32) (σ : ST) : Int32 :=
  if l1 < 0 then
    fX4_middleOf_0b34 σ
  else
    fX4_middleOf_0b4 l1 l2 σ
noncomputable def fX4_middleOf_0 (p1 : Int32) (p2 : Int32) (σ : ST) : Int32 := fX4_middleOf_0b0 p1 p2 σ
noncomputable def fX11_middle_0b16 (σ : ST) : (Int32 × ST) :=
  ((-1), σ)
noncomputable def fX11_middle_0b44 (t0 : Int32) (σ : ST) : (Int32 × ST) :=
  (t0, σ)
noncomputable def fX11_middle_0b32 (l1 : Int32) (l2 : Int32) (σ : ST) : (Int32 × ST) :=
  bd (fX4_middleOf_0 l1 l2 σ) fun v41 =>
  fX11_middle_0b44 v41 σ
noncomputable def fX11_middle_0b28 (l3 : Int32) (σ : ST) : (Int32 × ST) :=
  fX11_middle_0b44 l3 σ
noncomputable def fX11_middle_0b18 (l1 : Int32) (l2 : Int32) (σ : ST) : (Int32 × ST) :=
  bp (fX11_refusedHeap_0 l1 σ) fun v20 s20 =>
  if 0 ≤ v20 then
    fX11_middle_0b32 l1 l2 s20
  else
    fX11_middle_0b28 v20 s20
noncomputable def fX11_middle_0b7 (l1 : Int32) (l2 : Int32) (σ : ST) : (Int32 × ST) :=
  bd (fX11_within_0 l2 0 3 σ) fun v10 =>
  if v10 = 0 then
    fX11_middle_0b16 σ
  else
    fX11_middle_0b18 l1 l2 σ
noncomputable def fX11_middle_0b0 (l1 : Int32) (l2 : Int32) (σ : ST) : (Int32 × ST) :=
  bd (fX11_isHeapNumber_0 l1 σ) fun v1 =>
  if v1 = 0 then
    fX11_middle_0b16 σ
  else
    fX11_middle_0b7 l1 l2 σ
noncomputable def fX11_middle_0 (p1 : Int32) (p2 : Int32) (σ : ST) : (Int32 × ST) := fX11_middle_0b0 p1 p2 σ
noncomputable def fX11_off_1b24 (σ : ST) : Int32 :=
  0
noncomputable def fX11_off_1b65 (l4 : Int32) (σ : ST) : Int32 :=
  l4
noncomputable def fX11_off_1b38 (K32 : Int32 → Int32 → Int32 → Int32 → ST → Int32) (l1 : Int32) (l3 : Int32) (l4 : Int32) (l5 : Int32) (σ : ST) : Int32 :=
  bd (l1 + l5) fun v44 =>
  bd (σ.2.2 15 v44.toNatClampNeg) fun v45 =>
  bd (l3 + l5) fun v50 =>
  bd (σ.2.2 43 v50.toNatClampNeg) fun v51 =>
  bd (v45 - v51) fun v52 =>
  bd (if 0 ≤ v52 then v52 else 0 - v52) fun v53 =>
  bd (l4 + v53) fun v56 =>
  bd (l5 + 1) fun v59 =>
  K32 l1 l3 v56 v59 σ
noncomputable def fX11_off_1b32 (K32 : Int32 → Int32 → Int32 → Int32 → ST → Int32) (l1 : Int32) (l3 : Int32) (l4 : Int32) (l5 : Int32) (σ : ST) : Int32 :=
  if 4 ≤ l5 then
    fX11_off_1b65 l4 σ
  else
    fX11_off_1b38 K32 l1 l3 l4 l5 σ
noncomputable def fX11_off_1l32 : Nat → Int32 → Int32 → Int32 → Int32 → ST → Int32
  | 0, _, _, _, _, σ => 0
  | fu + 1, l1, l3, l4, l5, σ => fX11_off_1b32 (fX11_off_1l32 fu) l1 l3 l4 l5 σ
noncomputable def fX11_off_1b26 (l1 : Int32) (l3 : Int32) (σ : ST) : Int32 :=
  fX11_off_1l32 4096 l1 l3 0 0 σ
noncomputable def fX11_off_1b16 (l1 : Int32) (l3 : Int32) (σ : ST) : Int32 :=
  bd ((36 : Int32) - 4) fun v20 =>
  if l3 ≤ v20 then
    fX11_off_1b26 l1 l3 σ
  else
    fX11_off_1b24 σ
noncomputable def fX11_off_1b12 (l1 : Int32) (l3 : Int32) (σ : ST) : Int32 :=
  if l3 < 0 then
    fX11_off_1b24 σ
  else
    fX11_off_1b16 l1 l3 σ
noncomputable def fX11_off_1b4 (l1 : Int32) (l3 : Int32) (σ : ST) : Int32 :=
  bd ((192 : Int32) - 4) fun v8 =>
  if v8 < l1 then
    fX11_off_1b24 σ
  else
    fX11_off_1b12 l1 l3 σ
noncomputable def fX11_off_1b0 (l1 : Int32) (l3 : Int32) (σ : ST) : Int32 :=
  if l1 < 0 then
    fX11_off_1b24 σ
  else
    fX11_off_1b4 l1 l3 σ
noncomputable def fX11_off_1 (p1 : Int32) (p3 : Int32) (σ : ST) : Int32 := fX11_off_1b0 p1 p3 σ
noncomputable def fX4_offOfTwo_0b59 (l5 : Int32) (σ : ST) : Int32 :=
  l5
noncomputable def fX4_offOfTwo_0b12 (K6 : Int32 → Int32 → Int32 → Int32 → Int32 → ST → Int32) (l2 : Int32) (l3 : Int32) (l4 : Int32) (l5 : Int32) (l6 : Int32) (σ : ST) : Int32 :=
  bd (fX4_middleOf_0 l3 l6 σ) fun v18 =>
  bd (fX4_middleOf_0 l4 l6 σ) fun v26 =>
  bd (v18 + v26) fun v29 =>
  bd (if v29 < (99 : Int32) then v29 else (99 : Int32)) fun v30 =>
  bd (fX2_middleOf_0 l2 l6 σ) fun v43 =>
  bd (v30 - v43) fun v46 =>
  bd (if 0 ≤ v46 then v46 else 0 - v46) fun v47 =>
  bd (l5 + v47) fun v50 =>
  bd (l6 + 1) fun v53 =>
  K6 l2 l3 l4 v50 v53 σ
noncomputable def fX4_offOfTwo_0b6 (K6 : Int32 → Int32 → Int32 → Int32 → Int32 → ST → Int32) (l2 : Int32) (l3 : Int32) (l4 : Int32) (l5 : Int32) (l6 : Int32) (σ : ST) : Int32 :=
  if 4 ≤ l6 then
    fX4_offOfTwo_0b59 l5 σ
  else
    fX4_offOfTwo_0b12 K6 l2 l3 l4 l5 l6 σ
noncomputable def fX4_offOfTwo_0l6 : Nat → Int32 → Int32 → Int32 → Int32 → Int32 → ST → Int32
  | 0, _, _, _, _, _, σ => 0
  | fu + 1, l2, l3, l4, l5, l6, σ => fX4_offOfTwo_0b6 (fX4_offOfTwo_0l6 fu) l2 l3 l4 l5 l6 σ
noncomputable def fX4_offOfTwo_0b0 (l2 : Int32) (l3 : Int32) (l4 : Int32) (σ : ST) : Int32 :=
  fX4_offOfTwo_0l6 4096 l2 l3 l4 0 0 σ
noncomputable def fX4_offOfTwo_0 (p2 : Int32) (p3 : Int32) (p4 : Int32) (σ : ST) : Int32 := fX4_offOfTwo_0b0 p2 p3 p4 σ
noncomputable def fX4_twoInOne_0b10 (σ : ST) : Int32 :=
  (-9)
noncomputable def fX4_twoInOne_0b163 (t0 : Int32) (σ : ST) : Int32 :=
  t0
noncomputable def fX4_twoInOne_0b161 (σ : ST) : Int32 :=
  fX4_twoInOne_0b163 (-9) σ
noncomputable def fX4_twoInOne_0b156 (l5 : Int32) (σ : ST) : Int32 :=
  fX4_twoInOne_0b163 l5 σ
noncomputable def fX4_twoInOne_0b147 (l3 : Int32) (l5 : Int32) (l6 : Int32) (l7 : Int32) (σ : ST) : Int32 :=
  bd (l7 - l6) fun v151 =>
  if v151 < l3 then
    fX4_twoInOne_0b161 σ
  else
    fX4_twoInOne_0b156 l5 σ
noncomputable def fX4_twoInOne_0b120 (l2 : Int32) (l3 : Int32) (l4 : Int32) (l5 : Int32) (l6 : Int32) (σ : ST) : Int32 :=
  bd (l2 * 4) fun v126 =>
  bd (l4 * 4) fun v134 =>
  bd (fX11_off_1 v126 v134 σ) fun v135 =>
  if l5 = (-9) then
    fX4_twoInOne_0b161 σ
  else
    fX4_twoInOne_0b147 l3 l5 l6 v135 σ
noncomputable def fX4_twoInOne_0b114 (K32 : Int32 → Int32 → Int32 → Int32 → Int32 → Int32 → ST → Int32) (l2 : Int32) (l3 : Int32) (l4 : Int32) (l5 : Int32) (l6 : Int32) (l7 : Int32) (σ : ST) : Int32 :=
  bd (l7 + 1) fun v114 =>
  K32 l2 l3 l4 l5 l6 v114 σ
noncomputable def fX4_twoInOne_0b108 (K32 : Int32 → Int32 → Int32 → Int32 → Int32 → Int32 → ST → Int32) (K47 : Int32 → Int32 → Int32 → Int32 → Int32 → Int32 → Int32 → ST → Int32) (l2 : Int32) (l3 : Int32) (l4 : Int32) (l5 : Int32) (l6 : Int32) (l7 : Int32) (l8 : Int32) (σ : ST) : Int32 :=
  bd (l8 + 1) fun v108 =>
  K47 l2 l3 l4 l5 l6 l7 v108 σ
noncomputable def fX4_twoInOne_0b94 (K32 : Int32 → Int32 → Int32 → Int32 → Int32 → Int32 → ST → Int32) (K47 : Int32 → Int32 → Int32 → Int32 → Int32 → Int32 → Int32 → ST → Int32) (l2 : Int32) (l3 : Int32) (l4 : Int32) (l7 : Int32) (l8 : Int32) (l9 : Int32) (σ : ST) : Int32 :=
  bd (l7 * 9) fun v102 =>
  bd (v102 + l8) fun v105 =>
  fX4_twoInOne_0b108 K32 K47 l2 l3 l4 v105 l9 l7 l8 σ
noncomputable def fX4_twoInOne_0b85 (K32 : Int32 → Int32 → Int32 → Int32 → Int32 → Int32 → ST → Int32) (K47 : Int32 → Int32 → Int32 → Int32 → Int32 → Int32 → Int32 → ST → Int32) (l2 : Int32) (l3 : Int32) (l4 : Int32) (l5 : Int32) (l6 : Int32) (l7 : Int32) (l8 : Int32) (t0 : Int32) (σ : ST) : Int32 :=
  if l6 ≤ t0 then
    fX4_twoInOne_0b108 K32 K47 l2 l3 l4 l5 l6 l7 l8 σ
  else
    fX4_twoInOne_0b94 K32 K47 l2 l3 l4 l7 l8 t0 σ
noncomputable def fX4_twoInOne_0b70 (K32 : Int32 → Int32 → Int32 → Int32 → Int32 → Int32 → ST → Int32) (K47 : Int32 → Int32 → Int32 → Int32 → Int32 → Int32 → Int32 → ST → Int32) (l2 : Int32) (l3 : Int32) (l4 : Int32) (l5 : Int32) (l6 : Int32) (l7 : Int32) (l8 : Int32) (σ : ST) : Int32 :=
  fX4_twoInOne_0b85 K32 K47 l2 l3 l4 l5 l6 l7 l8 1000000000 σ
noncomputable def fX4_twoInOne_0b75 (K32 : Int32 → Int32 → Int32 → Int32 → Int32 → Int32 → ST → Int32) (K47 : Int32 → Int32 → Int32 → Int32 → Int32 → Int32 → Int32 → ST → Int32) (l2 : Int32) (l3 : Int32) (l4 : Int32) (l5 : Int32) (l6 : Int32) (l7 : Int32) (l8 : Int32) (σ : ST) : Int32 :=
  bd (fX4_offOfTwo_0 l2 l7 l8 σ) fun v82 =>
  fX4_twoInOne_0b85 K32 K47 l2 l3 l4 l5 l6 l7 l8 v82 σ
noncomputable def fX4_twoInOne_0b63 (K32 : Int32 → Int32 → Int32 → Int32 → Int32 → Int32 → ST → Int32) (K47 : Int32 → Int32 → Int32 → Int32 → Int32 → Int32 → Int32 → ST → Int32) (l2 : Int32) (l3 : Int32) (l4 : Int32) (l5 : Int32) (l6 : Int32) (l7 : Int32) (l8 : Int32) (σ : ST) : Int32 :=
  if l8 = l4 then
    fX4_twoInOne_0b70 K32 K47 l2 l3 l4 l5 l6 l7 l8 σ
  else
    fX4_twoInOne_0b75 K32 K47 l2 l3 l4 l5 l6 l7 l8 σ
noncomputable def fX4_twoInOne_0b56 (K32 : Int32 → Int32 → Int32 → Int32 → Int32 → Int32 → ST → Int32) (K47 : Int32 → Int32 → Int32 → Int32 → Int32 → Int32 → Int32 → ST → Int32) (l2 : Int32) (l3 : Int32) (l4 : Int32) (l5 : Int32) (l6 : Int32) (l7 : Int32) (l8 : Int32) (σ : ST) : Int32 :=
  if l7 = l4 then
    fX4_twoInOne_0b70 K32 K47 l2 l3 l4 l5 l6 l7 l8 σ
  else
    fX4_twoInOne_0b63 K32 K47 l2 l3 l4 l5 l6 l7 l8 σ
noncomputable def fX4_twoInOne_0b47 (K32 : Int32 → Int32 → Int32 → Int32 → Int32 → Int32 → ST → Int32) (K47 : Int32 → Int32 → Int32 → Int32 → Int32 → Int32 → Int32 → ST → Int32) (l2 : Int32) (l3 : Int32) (l4 : Int32) (l5 : Int32) (l6 : Int32) (l7 : Int32) (l8 : Int32) (σ : ST) : Int32 :=
  bd (σ.1 10) fun v50 =>
  if v50 ≤ l8 then
    fX4_twoInOne_0b114 K32 l2 l3 l4 l5 l6 l7 σ
  else
    fX4_twoInOne_0b56 K32 K47 l2 l3 l4 l5 l6 l7 l8 σ
noncomputable def fX4_twoInOne_0l47 (K32 : Int32 → Int32 → Int32 → Int32 → Int32 → Int32 → ST → Int32) : Nat → Int32 → Int32 → Int32 → Int32 → Int32 → Int32 → Int32 → ST → Int32
  | 0, _, _, _, _, _, _, _, σ => 0
  | fu + 1, l2, l3, l4, l5, l6, l7, l8, σ => fX4_twoInOne_0b47 K32 (fX4_twoInOne_0l47 K32 fu) l2 l3 l4 l5 l6 l7 l8 σ
noncomputable def fX4_twoInOne_0b41 (K32 : Int32 → Int32 → Int32 → Int32 → Int32 → Int32 → ST → Int32) (l2 : Int32) (l3 : Int32) (l4 : Int32) (l5 : Int32) (l6 : Int32) (l7 : Int32) (σ : ST) : Int32 :=
  bd (l7 + 1) fun v44 =>
  fX4_twoInOne_0l47 K32 4096 l2 l3 l4 l5 l6 l7 v44 σ
noncomputable def fX4_twoInOne_0b32 (K32 : Int32 → Int32 → Int32 → Int32 → Int32 → Int32 → ST → Int32) (l2 : Int32) (l3 : Int32) (l4 : Int32) (l5 : Int32) (l6 : Int32) (l7 : Int32) (σ : ST) : Int32 :=
  bd (σ.1 10) fun v35 =>
  if v35 ≤ l7 then
    fX4_twoInOne_0b120 l2 l3 l4 l5 l6 σ
  else
    fX4_twoInOne_0b41 K32 l2 l3 l4 l5 l6 l7 σ
noncomputable def fX4_twoInOne_0l32 : Nat → Int32 → Int32 → Int32 → Int32 → Int32 → Int32 → ST → Int32
  | 0, _, _, _, _, _, _, σ => 0
  | fu + 1, l2, l3, l4, l5, l6, l7, σ => fX4_twoInOne_0b32 (fX4_twoInOne_0l32 fu) l2 l3 l4 l5 l6 l7 σ
noncomputable def fX4_twoInOne_0b13 (l2 : Int32) (l3 : Int32) (σ : ST) : Int32 :=
  bd (σ.2.2 41 l2.toNatClampNeg) fun v18 =>
  fX4_twoInOne_0l32 4096 l2 l3 v18 (-9) 1000000000 0 σ
noncomputable def fX4_twoInOne_0b4 (l2 : Int32) (l3 : Int32) (σ : ST) : Int32 :=
  if l2 < 9 then
    fX4_twoInOne_0b13 l2 l3 σ
  else
    fX4_twoInOne_0b10 σ
noncomputable def fX4_twoInOne_0b0 (l2 : Int32) (l3 : Int32) (σ : ST) : Int32 :=
  if l2 < 0 then
    fX4_twoInOne_0b10 σ
  else
    fX4_twoInOne_0b4 l2 l3 σ
noncomputable def fX4_twoInOne_0 (p2 : Int32) (p3 : Int32) (σ : ST) : Int32 := fX4_twoInOne_0b0 p2 p3 σ
noncomputable def fX11_twice_0b17 (σ : ST) : (Int32 × ST) :=
  ((-1), σ)
noncomputable def fX11_twice_0b77 (t0 : Int32) (σ : ST) : (Int32 × ST) :=
  (t0, σ)
noncomputable def fX11_twice_0b73 (l3 : Int32) (σ : ST) : (Int32 × ST) :=
  bd (l3 - l3 / 9 * 9) fun v76 =>
  fX11_twice_0b77 v76 σ
noncomputable def fX11_twice_0b66 (l3 : Int32) (σ : ST) : (Int32 × ST) :=
  bd (l3 / 9) fun v69 =>
  fX11_twice_0b77 v69 σ
noncomputable def fX11_twice_0b62 (l2 : Int32) (l3 : Int32) (σ : ST) : (Int32 × ST) :=
  if l2 = 0 then
    fX11_twice_0b66 l3 σ
  else
    fX11_twice_0b73 l3 σ
noncomputable def fX11_twice_0b59 (σ : ST) : (Int32 × ST) :=
  ((-9), σ)
noncomputable def fX11_twice_0b29 (l1 : Int32) (l2 : Int32) (σ : ST) : (Int32 × ST) :=
  bd (fX8_ruleNow_0 5 σ) fun v46 =>
  bd (fX4_twoInOne_0 l1 v46 σ) fun v49 =>
  if v49 = (-9) then
    fX11_twice_0b59 σ
  else
    fX11_twice_0b62 l2 v49 σ
noncomputable def fX11_twice_0b26 (σ : ST) : (Int32 × ST) :=
  ((-2), σ)
noncomputable def fX11_twice_0b19 (l1 : Int32) (l2 : Int32) (σ : ST) : (Int32 × ST) :=
  bp (fX11_heapNow_0 σ) fun v20 s20 =>
  if v20 = 0 then
    fX11_twice_0b26 s20
  else
    fX11_twice_0b29 l1 l2 s20
noncomputable def fX11_twice_0b8 (l1 : Int32) (l2 : Int32) (σ : ST) : (Int32 × ST) :=
  bd (fX11_within_0 l2 0 1 σ) fun v11 =>
  if v11 = 0 then
    fX11_twice_0b17 σ
  else
    fX11_twice_0b19 l1 l2 σ
noncomputable def fX11_twice_0b0 (l1 : Int32) (l2 : Int32) (σ : ST) : (Int32 × ST) :=
  bp (fX11_isPiece_0 l1 σ) fun v2 s2 =>
  if v2 = 0 then
    fX11_twice_0b17 s2
  else
    fX11_twice_0b8 l1 l2 s2
noncomputable def fX11_twice_0 (p1 : Int32) (p2 : Int32) (σ : ST) : (Int32 × ST) := fX11_twice_0b0 p1 p2 σ
noncomputable def fX5_add_0b60 (l4 : Int32) (σ : ST) : (Int32 × ST) :=
  bd (σ.1 19) fun v62 =>
  bd (v62 + 1) fun v66 =>
  bd (sI σ 19 v66) fun s67 =>
  (l4, s67)
noncomputable def fX5_add_0b35 (K29 : Int32 → Int32 → Int32 → ST → (Int32 × ST)) (l2 : Int32) (l4 : Int32) (l5 : Int32) (σ : ST) : (Int32 × ST) :=
  bd (l4 * 4) fun v42 =>
  bd (v42 + l5) fun v45 =>
  bd (fX4_middleOf_0 l2 l5 σ) fun v50 =>
  bd (sA σ 50 (upd (σ.2.2 50) v45.toNatClampNeg v50)) fun s53 =>
  bd (l5 + 1) fun v54 =>
  K29 l2 l4 v54 s53
noncomputable def fX5_add_0b29 (K29 : Int32 → Int32 → Int32 → ST → (Int32 × ST)) (l2 : Int32) (l4 : Int32) (l5 : Int32) (σ : ST) : (Int32 × ST) :=
  if 4 ≤ l5 then
    fX5_add_0b60 l4 σ
  else
    fX5_add_0b35 K29 l2 l4 l5 σ
noncomputable def fX5_add_0l29 : Nat → Int32 → Int32 → Int32 → ST → (Int32 × ST)
  | 0, _, _, _, σ => (0, σ)
  | fu + 1, l2, l4, l5, σ => fX5_add_0b29 (fX5_add_0l29 fu) l2 l4 l5 σ
noncomputable def fX5_add_0b12 (l2 : Int32) (l3 : Int32) (σ : ST) : (Int32 × ST) :=
  bd (σ.1 19) fun v13 =>
  bd (sA σ 49 (upd (σ.2.2 49) v13.toNatClampNeg l3)) fun s25 =>
  fX5_add_0l29 4096 l2 v13 0 s25
noncomputable def fX5_add_0b9 (σ : ST) : (Int32 × ST) :=
  ((-3), σ)
noncomputable def fX5_add_0b0 (l2 : Int32) (l3 : Int32) (σ : ST) : (Int32 × ST) :=
  bd (σ.1 19) fun v1 =>
  if v1 < 6 then
    fX5_add_0b12 l2 l3 σ
  else
    fX5_add_0b9 σ
noncomputable def fX5_add_0 (p2 : Int32) (p3 : Int32) (σ : ST) : (Int32 × ST) := fX5_add_0b0 p2 p3 σ
noncomputable def fX11_keep_0b17 (σ : ST) : (Int32 × ST) :=
  ((-1), σ)
noncomputable def fX11_keep_0b31 (l1 : Int32) (l2 : Int32) (σ : ST) : (Int32 × ST) :=
  bp (fX5_add_0 l1 l2 σ) fun v44 s44 =>
  (v44, s44)
noncomputable def fX11_keep_0b29 (l3 : Int32) (σ : ST) : (Int32 × ST) :=
  (l3, σ)
noncomputable def fX11_keep_0b19 (l1 : Int32) (l2 : Int32) (σ : ST) : (Int32 × ST) :=
  bp (fX11_refusedHeap_0 l1 σ) fun v21 s21 =>
  if 0 ≤ v21 then
    fX11_keep_0b31 l1 l2 s21
  else
    fX11_keep_0b29 v21 s21
noncomputable def fX11_keep_0b7 (l1 : Int32) (l2 : Int32) (σ : ST) : (Int32 × ST) :=
  bd (fX11_within_0 l2 1 99 σ) fun v11 =>
  if v11 = 0 then
    fX11_keep_0b17 σ
  else
    fX11_keep_0b19 l1 l2 σ
noncomputable def fX11_keep_0b0 (l1 : Int32) (l2 : Int32) (σ : ST) : (Int32 × ST) :=
  bd (fX11_isHeapNumber_0 l1 σ) fun v1 =>
  if v1 = 0 then
    fX11_keep_0b17 σ
  else
    fX11_keep_0b7 l1 l2 σ
noncomputable def fX11_keep_0 (p1 : Int32) (p2 : Int32) (σ : ST) : (Int32 × ST) := fX11_keep_0b0 p1 p2 σ
noncomputable def fX5_has_0b23 (t0 : Int32) (σ : ST) : Int32 :=
  t0
noncomputable def fX5_has_0b22 (σ : ST) : Int32 :=
  fX5_has_0b23 0 σ
noncomputable def fX5_has_0b18 (σ : ST) : Int32 :=
  fX5_has_0b23 1 σ
noncomputable def fX5_has_0b12 (l1 : Int32) (σ : ST) : Int32 :=
  if 6 ≤ l1 then
    fX5_has_0b22 σ
  else
    fX5_has_0b18 σ
noncomputable def fX5_has_0b4 (l1 : Int32) (σ : ST) : Int32 :=
  bd (σ.1 19) fun v6 =>
  if v6 ≤ l1 then
    fX5_has_0b22 σ
  else
    fX5_has_0b12 l1 σ
noncomputable def fX5_has_0b0 (l1 : Int32) (σ : ST) : Int32 :=
  if l1 < 0 then
    fX5_has_0b22 σ
  else
    fX5_has_0b4 l1 σ
noncomputable def fX5_has_0 (p1 : Int32) (σ : ST) : Int32 := fX5_has_0b0 p1 σ
noncomputable def fX5_remove_0b88 (l2 : Int32) (σ : ST) : (Int32 × ST) :=
  bd (σ.1 19) fun v90 =>
  bd (v90 - 1) fun v94 =>
  bd (sI σ 19 v94) fun s95 =>
  (l2, s95)
noncomputable def fX5_remove_0b82 (K19 : Int32 → Int32 → ST → (Int32 × ST)) (l2 : Int32) (l3 : Int32) (σ : ST) : (Int32 × ST) :=
  bd (l3 + 1) fun v82 =>
  K19 l2 v82 σ
noncomputable def fX5_remove_0b52 (K19 : Int32 → Int32 → ST → (Int32 × ST)) (K46 : Int32 → Int32 → Int32 → ST → (Int32 × ST)) (l2 : Int32) (l3 : Int32) (l4 : Int32) (σ : ST) : (Int32 × ST) :=
  bd (l3 * 4) fun v58 =>
  bd (v58 + l4) fun v61 =>
  bd (l3 + 1) fun v68 =>
  bd (v68 * 4) fun v70 =>
  bd (v70 + l4) fun v73 =>
  bd (σ.2.2 50 v73.toNatClampNeg) fun v74 =>
  bd (sA σ 50 (upd (σ.2.2 50) v61.toNatClampNeg v74)) fun s75 =>
  bd (l4 + 1) fun v76 =>
  K46 l2 l3 v76 s75
noncomputable def fX5_remove_0b46 (K19 : Int32 → Int32 → ST → (Int32 × ST)) (K46 : Int32 → Int32 → Int32 → ST → (Int32 × ST)) (l2 : Int32) (l3 : Int32) (l4 : Int32) (σ : ST) : (Int32 × ST) :=
  if 4 ≤ l4 then
    fX5_remove_0b82 K19 l2 l3 σ
  else
    fX5_remove_0b52 K19 K46 l2 l3 l4 σ
noncomputable def fX5_remove_0l46 (K19 : Int32 → Int32 → ST → (Int32 × ST)) : Nat → Int32 → Int32 → Int32 → ST → (Int32 × ST)
  | 0, _, _, _, σ => (0, σ)
  | fu + 1, l2, l3, l4, σ => fX5_remove_0b46 K19 (fX5_remove_0l46 K19 fu) l2 l3 l4 σ
noncomputable def fX5_remove_0b29 (K19 : Int32 → Int32 → ST → (Int32 × ST)) (l2 : Int32) (l3 : Int32) (σ : ST) : (Int32 × ST) :=
  bd (l3 + 1) fun v40 =>
  bd (σ.2.2 49 v40.toNatClampNeg) fun v41 =>
  bd (sA σ 49 (upd (σ.2.2 49) l3.toNatClampNeg v41)) fun s42 =>
  fX5_remove_0l46 K19 4096 l2 l3 0 s42
noncomputable def fX5_remove_0b19 (K19 : Int32 → Int32 → ST → (Int32 × ST)) (l2 : Int32) (l3 : Int32) (σ : ST) : (Int32 × ST) :=
  bd (σ.1 19) fun v21 =>
  bd (v21 - 1) fun v25 =>
  if v25 ≤ l3 then
    fX5_remove_0b88 l2 σ
  else
    fX5_remove_0b29 K19 l2 l3 σ
noncomputable def fX5_remove_0l19 : Nat → Int32 → Int32 → ST → (Int32 × ST)
  | 0, _, _, σ => (0, σ)
  | fu + 1, l2, l3, σ => fX5_remove_0b19 (fX5_remove_0l19 fu) l2 l3 σ
noncomputable def fX5_remove_0b10 (l1 : Int32) (σ : ST) : (Int32 × ST) :=
  bd (σ.2.2 49 l1.toNatClampNeg) fun v15 =>
  fX5_remove_0l19 4096 v15 l1 σ
noncomputable def fX5_remove_0b8 (σ : ST) : (Int32 × ST) :=
  ((-1), σ)
noncomputable def fX5_remove_0b0 (l1 : Int32) (σ : ST) : (Int32 × ST) :=
  bd (fX5_has_0 l1 σ) fun v2 =>
  if v2 = 0 then
    fX5_remove_0b8 σ
  else
    fX5_remove_0b10 l1 σ
noncomputable def fX5_remove_0 (p1 : Int32) (σ : ST) : (Int32 × ST) := fX5_remove_0b0 p1 σ
noncomputable def fX11_forget_0b23 (t0 : Int32) (σ : ST) : (Int32 × ST) :=
  (t0, σ)
noncomputable def fX11_forget_0b22 (σ : ST) : (Int32 × ST) :=
  fX11_forget_0b23 (-1) σ
noncomputable def fX11_forget_0b11 (l1 : Int32) (σ : ST) : (Int32 × ST) :=
  bp (fX5_remove_0 l1 σ) fun v16 s16 =>
  fX11_forget_0b23 v16 s16
noncomputable def fX11_forget_0b0 (l1 : Int32) (σ : ST) : (Int32 × ST) :=
  bd (fX5_has_0 l1 σ) fun v5 =>
  if v5 = 0 then
    fX11_forget_0b22 σ
  else
    fX11_forget_0b11 l1 σ
noncomputable def fX11_forget_0 (p1 : Int32) (σ : ST) : (Int32 × ST) := fX11_forget_0b0 p1 σ
noncomputable def fX11_off_2b24 (σ : ST) : Int32 :=
  0
noncomputable def fX11_off_2b65 (l4 : Int32) (σ : ST) : Int32 :=
  l4
noncomputable def fX11_off_2b38 (K32 : Int32 → Int32 → Int32 → Int32 → ST → Int32) (l1 : Int32) (l3 : Int32) (l4 : Int32) (l5 : Int32) (σ : ST) : Int32 :=
  bd (l1 + l5) fun v44 =>
  bd (σ.2.2 50 v44.toNatClampNeg) fun v45 =>
  bd (l3 + l5) fun v50 =>
  bd (σ.2.2 43 v50.toNatClampNeg) fun v51 =>
  bd (v45 - v51) fun v52 =>
  bd (if 0 ≤ v52 then v52 else 0 - v52) fun v53 =>
  bd (l4 + v53) fun v56 =>
  bd (l5 + 1) fun v59 =>
  K32 l1 l3 v56 v59 σ
noncomputable def fX11_off_2b32 (K32 : Int32 → Int32 → Int32 → Int32 → ST → Int32) (l1 : Int32) (l3 : Int32) (l4 : Int32) (l5 : Int32) (σ : ST) : Int32 :=
  if 4 ≤ l5 then
    fX11_off_2b65 l4 σ
  else
    fX11_off_2b38 K32 l1 l3 l4 l5 σ
noncomputable def fX11_off_2l32 : Nat → Int32 → Int32 → Int32 → Int32 → ST → Int32
  | 0, _, _, _, _, σ => 0
  | fu + 1, l1, l3, l4, l5, σ => fX11_off_2b32 (fX11_off_2l32 fu) l1 l3 l4 l5 σ
noncomputable def fX11_off_2b26 (l1 : Int32) (l3 : Int32) (σ : ST) : Int32 :=
  fX11_off_2l32 4096 l1 l3 0 0 σ
noncomputable def fX11_off_2b16 (l1 : Int32) (l3 : Int32) (σ : ST) : Int32 :=
  bd ((36 : Int32) - 4) fun v20 =>
  if l3 ≤ v20 then
    fX11_off_2b26 l1 l3 σ
  else
    fX11_off_2b24 σ
noncomputable def fX11_off_2b12 (l1 : Int32) (l3 : Int32) (σ : ST) : Int32 :=
  if l3 < 0 then
    fX11_off_2b24 σ
  else
    fX11_off_2b16 l1 l3 σ
noncomputable def fX11_off_2b4 (l1 : Int32) (l3 : Int32) (σ : ST) : Int32 :=
  bd ((24 : Int32) - 4) fun v8 =>
  if v8 < l1 then
    fX11_off_2b24 σ
  else
    fX11_off_2b12 l1 l3 σ
noncomputable def fX11_off_2b0 (l1 : Int32) (l3 : Int32) (σ : ST) : Int32 :=
  if l1 < 0 then
    fX11_off_2b24 σ
  else
    fX11_off_2b4 l1 l3 σ
noncomputable def fX11_off_2 (p1 : Int32) (p3 : Int32) (σ : ST) : Int32 := fX11_off_2b0 p1 p3 σ
noncomputable def fX5_nearestTo_0b61 (l4 : Int32) (σ : ST) : Int32 :=
  l4
noncomputable def fX5_nearestTo_0b55 (K15 : Int32 → Int32 → Int32 → Int32 → ST → Int32) (l2 : Int32) (l4 : Int32) (l5 : Int32) (l6 : Int32) (σ : ST) : Int32 :=
  bd (l6 + (-1)) fun v55 =>
  K15 l2 l4 l5 v55 σ
noncomputable def fX5_nearestTo_0b47 (K15 : Int32 → Int32 → Int32 → Int32 → ST → Int32) (l2 : Int32) (l6 : Int32) (l7 : Int32) (σ : ST) : Int32 :=
  fX5_nearestTo_0b55 K15 l2 l6 l7 l6 σ
noncomputable def fX5_nearestTo_0b20 (K15 : Int32 → Int32 → Int32 → Int32 → ST → Int32) (l2 : Int32) (l4 : Int32) (l5 : Int32) (l6 : Int32) (σ : ST) : Int32 :=
  bd (l6 * 4) fun v27 =>
  bd (l2 * 4) fun v34 =>
  bd (fX11_off_2 v27 v34 σ) fun v35 =>
  if l5 < v35 then
    fX5_nearestTo_0b55 K15 l2 l4 l5 l6 σ
  else
    fX5_nearestTo_0b47 K15 l2 l6 v35 σ
noncomputable def fX5_nearestTo_0b15 (K15 : Int32 → Int32 → Int32 → Int32 → ST → Int32) (l2 : Int32) (l4 : Int32) (l5 : Int32) (l6 : Int32) (σ : ST) : Int32 :=
  if l6 < 0 then
    fX5_nearestTo_0b61 l4 σ
  else
    fX5_nearestTo_0b20 K15 l2 l4 l5 l6 σ
noncomputable def fX5_nearestTo_0l15 : Nat → Int32 → Int32 → Int32 → Int32 → ST → Int32
  | 0, _, _, _, _, σ => 0
  | fu + 1, l2, l4, l5, l6, σ => fX5_nearestTo_0b15 (fX5_nearestTo_0l15 fu) l2 l4 l5 l6 σ
noncomputable def fX5_nearestTo_0b0 (l2 : Int32) (l3 : Int32) (σ : ST) : Int32 :=
  bd (σ.1 19) fun v8 =>
  bd (v8 - 1) fun v12 =>
  fX5_nearestTo_0l15 4096 l2 (-9) l3 v12 σ
noncomputable def fX5_nearestTo_0 (p2 : Int32) (p3 : Int32) (σ : ST) : Int32 := fX5_nearestTo_0b0 p2 p3 σ
noncomputable def fX11_back_0b16 (σ : ST) : (Int32 × ST) :=
  ((-1), σ)
noncomputable def fX11_back_0b67 (l4 : Int32) (σ : ST) : (Int32 × ST) :=
  (l4, σ)
noncomputable def fX11_back_0b70 (l4 : Int32) (σ : ST) : (Int32 × ST) :=
  bd (σ.2.2 49 l4.toNatClampNeg) fun v79 =>
  (v79, σ)
noncomputable def fX11_back_0b62 (l2 : Int32) (l4 : Int32) (σ : ST) : (Int32 × ST) :=
  if l2 = 1 then
    fX11_back_0b67 l4 σ
  else
    fX11_back_0b70 l4 σ
noncomputable def fX11_back_0b30 (l1 : Int32) (l2 : Int32) (σ : ST) : (Int32 × ST) :=
  bd (fX8_ruleNow_0 2 σ) fun v47 =>
  bd (fX5_nearestTo_0 l1 v47 σ) fun v50 =>
  if v50 = (-9) then
    fX11_back_0b67 v50 σ
  else
    fX11_back_0b62 l2 v50 σ
noncomputable def fX11_back_0b28 (l3 : Int32) (σ : ST) : (Int32 × ST) :=
  (l3, σ)
noncomputable def fX11_back_0b18 (l1 : Int32) (l2 : Int32) (σ : ST) : (Int32 × ST) :=
  bp (fX11_refusedHeap_0 l1 σ) fun v20 s20 =>
  if 0 ≤ v20 then
    fX11_back_0b30 l1 l2 s20
  else
    fX11_back_0b28 v20 s20
noncomputable def fX11_back_0b7 (l1 : Int32) (l2 : Int32) (σ : ST) : (Int32 × ST) :=
  bd (fX11_within_0 l2 0 1 σ) fun v10 =>
  if v10 = 0 then
    fX11_back_0b16 σ
  else
    fX11_back_0b18 l1 l2 σ
noncomputable def fX11_back_0b0 (l1 : Int32) (l2 : Int32) (σ : ST) : (Int32 × ST) :=
  bd (fX11_isHeapNumber_0 l1 σ) fun v1 =>
  if v1 = 0 then
    fX11_back_0b16 σ
  else
    fX11_back_0b7 l1 l2 σ
noncomputable def fX11_back_0 (p1 : Int32) (p2 : Int32) (σ : ST) : (Int32 × ST) := fX11_back_0b0 p1 p2 σ
noncomputable def fX4_membersOf_0b46 (l3 : Int32) (σ : ST) : Int32 :=
  l3
noncomputable def fX4_membersOf_0b38 (K5 : Int32 → Int32 → Int32 → Int32 → ST → Int32) (l1 : Int32) (l2 : Int32) (l4 : Int32) (t0 : Int32) (t1 : Int32) (σ : ST) : Int32 :=
  bd (t1 ||| t0) fun v38 =>
  bd (l4 + 1) fun v40 =>
  K5 l1 l2 v38 v40 σ
noncomputable def fX4_membersOf_0b37 (K5 : Int32 → Int32 → Int32 → Int32 → ST → Int32) (l1 : Int32) (l2 : Int32) (l4 : Int32) (t0 : Int32) (σ : ST) : Int32 :=
  fX4_membersOf_0b38 K5 l1 l2 l4 0 t0 σ
noncomputable def fX4_membersOf_0b30 (K5 : Int32 → Int32 → Int32 → Int32 → ST → Int32) (l1 : Int32) (l2 : Int32) (l4 : Int32) (t0 : Int32) (σ : ST) : Int32 :=
  bd ((1 : Int32) <<< (l4 &&& 31)) fun v33 =>
  fX4_membersOf_0b38 K5 l1 l2 l4 v33 t0 σ
noncomputable def fX4_membersOf_0b18 (K5 : Int32 → Int32 → Int32 → Int32 → ST → Int32) (l1 : Int32) (l2 : Int32) (l3 : Int32) (l4 : Int32) (σ : ST) : Int32 :=
  bd (σ.2.2 41 l4.toNatClampNeg) fun v25 =>
  if v25 = l1 then
    fX4_membersOf_0b30 K5 l1 l2 l4 l3 σ
  else
    fX4_membersOf_0b37 K5 l1 l2 l4 l3 σ
noncomputable def fX4_membersOf_0b11 (K5 : Int32 → Int32 → Int32 → Int32 → ST → Int32) (l1 : Int32) (l2 : Int32) (l3 : Int32) (l4 : Int32) (σ : ST) : Int32 :=
  if 9 ≤ l4 then
    fX4_membersOf_0b46 l3 σ
  else
    fX4_membersOf_0b18 K5 l1 l2 l3 l4 σ
noncomputable def fX4_membersOf_0b5 (K5 : Int32 → Int32 → Int32 → Int32 → ST → Int32) (l1 : Int32) (l2 : Int32) (l3 : Int32) (l4 : Int32) (σ : ST) : Int32 :=
  if l2 ≤ l4 then
    fX4_membersOf_0b46 l3 σ
  else
    fX4_membersOf_0b11 K5 l1 l2 l3 l4 σ
noncomputable def fX4_membersOf_0l5 : Nat → Int32 → Int32 → Int32 → Int32 → ST → Int32
  | 0, _, _, _, _, σ => 0
  | fu + 1, l1, l2, l3, l4, σ => fX4_membersOf_0b5 (fX4_membersOf_0l5 fu) l1 l2 l3 l4 σ
noncomputable def fX4_membersOf_0b0 (l1 : Int32) (l2 : Int32) (σ : ST) : Int32 :=
  fX4_membersOf_0l5 4096 l1 l2 0 0 σ
noncomputable def fX4_membersOf_0 (p1 : Int32) (p2 : Int32) (σ : ST) : Int32 := fX4_membersOf_0b0 p1 p2 σ
noncomputable def fX11_off_3b24 (σ : ST) : Int32 :=
  0
noncomputable def fX11_off_3b65 (l4 : Int32) (σ : ST) : Int32 :=
  l4
noncomputable def fX11_off_3b38 (K32 : Int32 → Int32 → Int32 → Int32 → ST → Int32) (l1 : Int32) (l3 : Int32) (l4 : Int32) (l5 : Int32) (σ : ST) : Int32 :=
  bd (l1 + l5) fun v44 =>
  bd (σ.2.2 15 v44.toNatClampNeg) fun v45 =>
  bd (l3 + l5) fun v50 =>
  bd (σ.2.2 50 v50.toNatClampNeg) fun v51 =>
  bd (v45 - v51) fun v52 =>
  bd (if 0 ≤ v52 then v52 else 0 - v52) fun v53 =>
  bd (l4 + v53) fun v56 =>
  bd (l5 + 1) fun v59 =>
  K32 l1 l3 v56 v59 σ
noncomputable def fX11_off_3b32 (K32 : Int32 → Int32 → Int32 → Int32 → ST → Int32) (l1 : Int32) (l3 : Int32) (l4 : Int32) (l5 : Int32) (σ : ST) : Int32 :=
  if 4 ≤ l5 then
    fX11_off_3b65 l4 σ
  else
    fX11_off_3b38 K32 l1 l3 l4 l5 σ
noncomputable def fX11_off_3l32 : Nat → Int32 → Int32 → Int32 → Int32 → ST → Int32
  | 0, _, _, _, _, σ => 0
  | fu + 1, l1, l3, l4, l5, σ => fX11_off_3b32 (fX11_off_3l32 fu) l1 l3 l4 l5 σ
noncomputable def fX11_off_3b26 (l1 : Int32) (l3 : Int32) (σ : ST) : Int32 :=
  fX11_off_3l32 4096 l1 l3 0 0 σ
noncomputable def fX11_off_3b16 (l1 : Int32) (l3 : Int32) (σ : ST) : Int32 :=
  bd ((24 : Int32) - 4) fun v20 =>
  if l3 ≤ v20 then
    fX11_off_3b26 l1 l3 σ
  else
    fX11_off_3b24 σ
noncomputable def fX11_off_3b12 (l1 : Int32) (l3 : Int32) (σ : ST) : Int32 :=
  if l3 < 0 then
    fX11_off_3b24 σ
  else
    fX11_off_3b16 l1 l3 σ
noncomputable def fX11_off_3b4 (l1 : Int32) (l3 : Int32) (σ : ST) : Int32 :=
  bd ((192 : Int32) - 4) fun v8 =>
  if v8 < l1 then
    fX11_off_3b24 σ
  else
    fX11_off_3b12 l1 l3 σ
noncomputable def fX11_off_3b0 (l1 : Int32) (l3 : Int32) (σ : ST) : Int32 :=
  if l1 < 0 then
    fX11_off_3b24 σ
  else
    fX11_off_3b4 l1 l3 σ
noncomputable def fX11_off_3 (p1 : Int32) (p3 : Int32) (σ : ST) : Int32 := fX11_off_3b0 p1 p3 σ
noncomputable def fX5_fillOffs_0b84 (σ : ST) : ST :=
  σ
noncomputable def fX5_fillOffs_0b78 (K10 : Int32 → Int32 → Int32 → ST → ST) (l2 : Int32) (l3 : Int32) (l4 : Int32) (σ : ST) : ST :=
  bd (l4 + 1) fun v78 =>
  K10 l2 l3 v78 σ
noncomputable def fX5_fillOffs_0b52 (K10 : Int32 → Int32 → Int32 → ST → ST) (K45 : Int32 → Int32 → Int32 → Int32 → Int32 → Int32 → ST → ST) (l2 : Int32) (l3 : Int32) (l4 : Int32) (l5 : Int32) (l6 : Int32) (l7 : Int32) (σ : ST) : ST :=
  bd (l6 ||| l7) fun v60 =>
  bd (σ.2.2 51 l7.toNatClampNeg) fun v67 =>
  bd (v67 + l5) fun v70 =>
  bd (sA σ 51 (upd (σ.2.2 51) v60.toNatClampNeg v70)) fun s71 =>
  bd (l7 + 1) fun v72 =>
  K45 l2 l3 l4 l5 l6 v72 s71
noncomputable def fX5_fillOffs_0b45 (K10 : Int32 → Int32 → Int32 → ST → ST) (K45 : Int32 → Int32 → Int32 → Int32 → Int32 → Int32 → ST → ST) (l2 : Int32) (l3 : Int32) (l4 : Int32) (l5 : Int32) (l6 : Int32) (l7 : Int32) (σ : ST) : ST :=
  if l6 ≤ l7 then
    fX5_fillOffs_0b78 K10 l2 l3 l4 σ
  else
    fX5_fillOffs_0b52 K10 K45 l2 l3 l4 l5 l6 l7 σ
noncomputable def fX5_fillOffs_0l45 (K10 : Int32 → Int32 → Int32 → ST → ST) : Nat → Int32 → Int32 → Int32 → Int32 → Int32 → Int32 → ST → ST
  | 0, _, _, _, _, _, _, σ => σ
  | fu + 1, l2, l3, l4, l5, l6, l7, σ => fX5_fillOffs_0b45 K10 (fX5_fillOffs_0l45 K10 fu) l2 l3 l4 l5 l6 l7 σ
noncomputable def fX5_fillOffs_0b16 (K10 : Int32 → Int32 → Int32 → ST → ST) (l2 : Int32) (l3 : Int32) (l4 : Int32) (σ : ST) : ST :=
  bd (l4 * 4) fun v23 =>
  bd (l3 * 4) fun v30 =>
  bd (fX11_off_3 v23 v30 σ) fun v31 =>
  bd ((1 : Int32) <<< (l4 &&& 31)) fun v39 =>
  fX5_fillOffs_0l45 K10 4096 l2 l3 l4 v31 v39 0 σ
noncomputable def fX5_fillOffs_0b10 (K10 : Int32 → Int32 → Int32 → ST → ST) (l2 : Int32) (l3 : Int32) (l4 : Int32) (σ : ST) : ST :=
  if l2 ≤ l4 then
    fX5_fillOffs_0b84 σ
  else
    fX5_fillOffs_0b16 K10 l2 l3 l4 σ
noncomputable def fX5_fillOffs_0l10 : Nat → Int32 → Int32 → Int32 → ST → ST
  | 0, _, _, _, σ => σ
  | fu + 1, l2, l3, l4, σ => fX5_fillOffs_0b10 (fX5_fillOffs_0l10 fu) l2 l3 l4 σ
noncomputable def fX5_fillOffs_0b0 (l2 : Int32) (l3 : Int32) (σ : ST) : ST :=
  bd (sA σ 51 (upd (σ.2.2 51) (0 : Int32).toNatClampNeg 0)) fun s6 =>
  fX5_fillOffs_0l10 4096 l2 l3 0 s6
noncomputable def fX5_fillOffs_0 (p2 : Int32) (p3 : Int32) (σ : ST) : ST := fX5_fillOffs_0b0 p2 p3 σ
noncomputable def fJ6_bitCount_0f7a4_0b0 (l0 : Int32) (σ : ST) : Int32 :=
  bd ((l0.toUInt32 >>> ((1 : Int32).toUInt32 &&& Int32.toUInt32 31)).toInt32) fun v3 =>
  bd (v3 &&& 1431655765) fun v7 =>
  bd (l0 - v7) fun v8 =>
  bd (v8 &&& 858993459) fun v14 =>
  bd ((v8.toUInt32 >>> ((2 : Int32).toUInt32 &&& Int32.toUInt32 31)).toInt32) fun v17 =>
  bd (v17 &&& 858993459) fun v21 =>
  bd (v14 + v21) fun v22 =>
  bd ((v22.toUInt32 >>> ((4 : Int32).toUInt32 &&& Int32.toUInt32 31)).toInt32) fun v27 =>
  bd (v22 + v27) fun v28 =>
  bd (v28 &&& 252645135) fun v32 =>
  bd ((v32.toUInt32 >>> ((8 : Int32).toUInt32 &&& Int32.toUInt32 31)).toInt32) fun v38 =>
  bd (v32 + v38) fun v39 =>
  bd ((v39.toUInt32 >>> ((16 : Int32).toUInt32 &&& Int32.toUInt32 31)).toInt32) fun v45 =>
  bd (v39 + v45) fun v46 =>
  bd (v46 &&& 63) fun v51 =>
  v51
noncomputable def fJ6_bitCount_0f7a4_0 (p0 : Int32) (σ : ST) : Int32 := fJ6_bitCount_0f7a4_0b0 p0 σ
noncomputable def fX5_dealsOf_0b31 (σ : ST) : (Int32 × ST) :=
  (0, σ)
noncomputable def fX5_dealsOf_0b94 (l7 : Int32) (σ : ST) : (Int32 × ST) :=
  (l7, σ)
noncomputable def fX5_dealsOf_0b88 (K45 : Int32 → Int32 → Int32 → Int32 → Int32 → Int32 → ST → (Int32 × ST)) (l2 : Int32) (l4 : Int32) (l5 : Int32) (l6 : Int32) (l7 : Int32) (l8 : Int32) (σ : ST) : (Int32 × ST) :=
  bd (l8 + 1) fun v88 =>
  K45 l2 l4 l5 l6 l7 v88 σ
noncomputable def fX5_dealsOf_0b85 (K45 : Int32 → Int32 → Int32 → Int32 → Int32 → Int32 → ST → (Int32 × ST)) (l2 : Int32) (l4 : Int32) (l5 : Int32) (l6 : Int32) (l7 : Int32) (l8 : Int32) (σ : ST) : (Int32 × ST) :=
  bd (l7 + 1) fun v85 =>
  fX5_dealsOf_0b88 K45 l2 l4 l5 l6 v85 l8 σ
noncomputable def fX5_dealsOf_0b69 (K45 : Int32 → Int32 → Int32 → Int32 → Int32 → Int32 → ST → (Int32 × ST)) (l2 : Int32) (l4 : Int32) (l5 : Int32) (l6 : Int32) (l7 : Int32) (l8 : Int32) (σ : ST) : (Int32 × ST) :=
  bd (σ.2.2 51 l8.toNatClampNeg) fun v75 =>
  bd (σ.2.2 51 l2.toNatClampNeg) fun v81 =>
  if v81 < v75 then
    fX5_dealsOf_0b88 K45 l2 l4 l5 l6 l7 l8 σ
  else
    fX5_dealsOf_0b85 K45 l2 l4 l5 l6 l7 l8 σ
noncomputable def fX5_dealsOf_0b64 (K45 : Int32 → Int32 → Int32 → Int32 → Int32 → Int32 → ST → (Int32 × ST)) (l2 : Int32) (l4 : Int32) (l5 : Int32) (l6 : Int32) (l7 : Int32) (l8 : Int32) (σ : ST) : (Int32 × ST) :=
  if l4 = 0 then
    fX5_dealsOf_0b69 K45 l2 l4 l5 l6 l7 l8 σ
  else
    fX5_dealsOf_0b85 K45 l2 l4 l5 l6 l7 l8 σ
noncomputable def fX5_dealsOf_0b54 (K45 : Int32 → Int32 → Int32 → Int32 → Int32 → Int32 → ST → (Int32 × ST)) (l2 : Int32) (l4 : Int32) (l5 : Int32) (l6 : Int32) (l7 : Int32) (l8 : Int32) (σ : ST) : (Int32 × ST) :=
  bd (fJ6_bitCount_0f7a4_0 l8 σ) fun v56 =>
  if v56 = l6 then
    fX5_dealsOf_0b64 K45 l2 l4 l5 l6 l7 l8 σ
  else
    fX5_dealsOf_0b88 K45 l2 l4 l5 l6 l7 l8 σ
noncomputable def fX5_dealsOf_0b45 (K45 : Int32 → Int32 → Int32 → Int32 → Int32 → Int32 → ST → (Int32 × ST)) (l2 : Int32) (l4 : Int32) (l5 : Int32) (l6 : Int32) (l7 : Int32) (l8 : Int32) (σ : ST) : (Int32 × ST) :=
  bd ((1 : Int32) <<< (l5 &&& 31)) fun v50 =>
  if v50 ≤ l8 then
    fX5_dealsOf_0b94 l7 σ
  else
    fX5_dealsOf_0b54 K45 l2 l4 l5 l6 l7 l8 σ
noncomputable def fX5_dealsOf_0l45 : Nat → Int32 → Int32 → Int32 → Int32 → Int32 → Int32 → ST → (Int32 × ST)
  | 0, _, _, _, _, _, _, σ => (0, σ)
  | fu + 1, l2, l4, l5, l6, l7, l8, σ => fX5_dealsOf_0b45 (fX5_dealsOf_0l45 fu) l2 l4 l5 l6 l7 l8 σ
noncomputable def fX5_dealsOf_0b33 (l2 : Int32) (l4 : Int32) (l5 : Int32) (σ : ST) : (Int32 × ST) :=
  bd (fJ6_bitCount_0f7a4_0 l2 σ) fun v34 =>
  fX5_dealsOf_0l45 4096 l2 l4 l5 v34 0 0 σ
noncomputable def fX5_dealsOf_0b23 (l2 : Int32) (l4 : Int32) (l5 : Int32) (σ : ST) : (Int32 × ST) :=
  bd ((1 : Int32) <<< (l5 &&& 31)) fun v27 =>
  if l2 < v27 then
    fX5_dealsOf_0b33 l2 l4 l5 σ
  else
    fX5_dealsOf_0b31 σ
noncomputable def fX5_dealsOf_0b0 (l2 : Int32) (l3 : Int32) (l4 : Int32) (σ : ST) : (Int32 × ST) :=
  bd (σ.1 5) fun v1 =>
  bd (if 9 < v1 then 9 else v1) fun v6 =>
  bd (fX5_fillOffs_0 v6 l3 σ) fun s16 =>
  if l2 < 0 then
    fX5_dealsOf_0b31 s16
  else
    fX5_dealsOf_0b23 l2 l4 v6 s16
noncomputable def fX5_dealsOf_0 (p2 : Int32) (p3 : Int32) (p4 : Int32) (σ : ST) : (Int32 × ST) := fX5_dealsOf_0b0 p2 p3 p4 σ
noncomputable def fX11_odds_0b27 (σ : ST) : (Int32 × ST) :=
  ((-1), σ)
noncomputable def fX11_odds_0b81 (t0 : Int32) (t1 : Int32) (t2 : Int32) (σ : ST) : (Int32 × ST) :=
  bp (fX5_dealsOf_0 t2 t1 t0 σ) fun v81 s81 =>
  (v81, s81)
noncomputable def fX11_odds_0b80 (t0 : Int32) (t1 : Int32) (σ : ST) : (Int32 × ST) :=
  fX11_odds_0b81 0 t0 t1 σ
noncomputable def fX11_odds_0b76 (t0 : Int32) (t1 : Int32) (σ : ST) : (Int32 × ST) :=
  fX11_odds_0b81 1 t0 t1 σ
noncomputable def fX11_odds_0b44 (l1 : Int32) (l2 : Int32) (l3 : Int32) (σ : ST) : (Int32 × ST) :=
  bd (σ.1 5) fun v64 =>
  bd (fX4_membersOf_0 l1 v64 σ) fun v67 =>
  if l3 = 1 then
    fX11_odds_0b76 l2 v67 σ
  else
    fX11_odds_0b80 l2 v67 σ
noncomputable def fX11_odds_0b41 (l4 : Int32) (σ : ST) : (Int32 × ST) :=
  (l4, σ)
noncomputable def fX11_odds_0b29 (l1 : Int32) (l2 : Int32) (l3 : Int32) (σ : ST) : (Int32 × ST) :=
  bp (fX11_refusedHeap_0 l1 σ) fun v31 s31 =>
  if 0 ≤ v31 then
    fX11_odds_0b44 l1 l2 l3 s31
  else
    fX11_odds_0b41 v31 s31
noncomputable def fX11_odds_0b18 (l1 : Int32) (l2 : Int32) (l3 : Int32) (σ : ST) : (Int32 × ST) :=
  bd (fX11_within_0 l3 0 1 σ) fun v21 =>
  if v21 = 0 then
    fX11_odds_0b27 σ
  else
    fX11_odds_0b29 l1 l2 l3 σ
noncomputable def fX11_odds_0b7 (l1 : Int32) (l2 : Int32) (l3 : Int32) (σ : ST) : (Int32 × ST) :=
  bd (fX5_has_0 l2 σ) fun v12 =>
  if v12 = 0 then
    fX11_odds_0b27 σ
  else
    fX11_odds_0b18 l1 l2 l3 σ
noncomputable def fX11_odds_0b0 (l1 : Int32) (l2 : Int32) (l3 : Int32) (σ : ST) : (Int32 × ST) :=
  bd (fX11_isHeapNumber_0 l1 σ) fun v1 =>
  if v1 = 0 then
    fX11_odds_0b27 σ
  else
    fX11_odds_0b7 l1 l2 l3 σ
noncomputable def fX11_odds_0 (p1 : Int32) (p2 : Int32) (p3 : Int32) (σ : ST) : (Int32 × ST) := fX11_odds_0b0 p1 p2 p3 σ
noncomputable def fX11_heapOfRow_0b37 (t0 : Int32) (σ : ST) : Int32 :=
  t0
noncomputable def fX11_heapOfRow_0b35 (σ : ST) : Int32 :=
  fX11_heapOfRow_0b37 (-9) σ
noncomputable def fX11_heapOfRow_0b20 (l2 : Int32) (σ : ST) : Int32 :=
  bd (σ.2.2 41 l2.toNatClampNeg) fun v31 =>
  fX11_heapOfRow_0b37 v31 σ
noncomputable def fX11_heapOfRow_0b0 (l1 : Int32) (σ : ST) : Int32 :=
  bd (σ.2.2 17 l1.toNatClampNeg) fun v8 =>
  bd (fX11_within_0 v8 0 8 σ) fun v14 =>
  if v14 = 0 then
    fX11_heapOfRow_0b35 σ
  else
    fX11_heapOfRow_0b20 v8 σ
noncomputable def fX11_heapOfRow_0 (p1 : Int32) (σ : ST) : Int32 := fX11_heapOfRow_0b0 p1 σ
noncomputable def fX11_show_0b40 (σ : ST) : (Int32 × ST) :=
  bd (σ.1 2) fun v45 =>
  bd (sI σ 21 v45) fun s48 =>
  bd (s48.1 21) fun v52 =>
  (v52, s48)
noncomputable def fX11_show_0b23 (K12 : Int32 → ST → (Int32 × ST)) (l1 : Int32) (σ : ST) : (Int32 × ST) :=
  bd (fX11_heapOfRow_0 l1 σ) fun v30 =>
  bd (sA σ 65 (upd (σ.2.2 65) l1.toNatClampNeg v30)) fun s33 =>
  bd (l1 + 1) fun v34 =>
  K12 v34 s33
noncomputable def fX11_show_0b12 (K12 : Int32 → ST → (Int32 × ST)) (l1 : Int32) (σ : ST) : (Int32 × ST) :=
  bd (σ.1 2) fun v17 =>
  if v17 ≤ l1 then
    fX11_show_0b40 σ
  else
    fX11_show_0b23 K12 l1 σ
noncomputable def fX11_show_0l12 : Nat → Int32 → ST → (Int32 × ST)
  | 0, _, σ => (0, σ)
  | fu + 1, l1, σ => fX11_show_0b12 (fX11_show_0l12 fu) l1 σ
noncomputable def fX11_show_0b10 (σ : ST) : (Int32 × ST) :=
  fX11_show_0l12 4096 0 σ
noncomputable def fX11_show_0b7 (σ : ST) : (Int32 × ST) :=
  ((-2), σ)
noncomputable def fX11_show_0b0 (σ : ST) : (Int32 × ST) :=
  bp (fX11_heapNow_0 σ) fun v1 s1 =>
  if v1 = 0 then
    fX11_show_0b7 s1
  else
    fX11_show_0b10 s1
noncomputable def fX11_show_0  (σ : ST) : (Int32 × ST) := fX11_show_0b0  σ
noncomputable def fX11_otherwise_0b15 (σ : ST) : (Int32 × ST) :=
  ((-2), σ)
noncomputable def fX11_otherwise_0b64 (l1 : Int32) (σ : ST) : (Int32 × ST) :=
  (l1, σ)
noncomputable def fX11_otherwise_0b58 (K22 : Int32 → Int32 → ST → (Int32 × ST)) (l1 : Int32) (l2 : Int32) (σ : ST) : (Int32 × ST) :=
  bd (l2 + 1) fun v58 =>
  K22 l1 v58 σ
noncomputable def fX11_otherwise_0b55 (K22 : Int32 → Int32 → ST → (Int32 × ST)) (l1 : Int32) (l2 : Int32) (σ : ST) : (Int32 × ST) :=
  bd (l1 + 1) fun v55 =>
  fX11_otherwise_0b58 K22 v55 l2 σ
noncomputable def fX11_otherwise_0b41 (K22 : Int32 → Int32 → ST → (Int32 × ST)) (l1 : Int32) (l2 : Int32) (σ : ST) : (Int32 × ST) :=
  bd (fX11_heapOfRow_0 l2 σ) fun v43 =>
  bd (σ.2.2 65 l2.toNatClampNeg) fun v51 =>
  if v43 = v51 then
    fX11_otherwise_0b58 K22 l1 l2 σ
  else
    fX11_otherwise_0b55 K22 l1 l2 σ
noncomputable def fX11_otherwise_0b30 (K22 : Int32 → Int32 → ST → (Int32 × ST)) (l1 : Int32) (l2 : Int32) (σ : ST) : (Int32 × ST) :=
  bd (σ.1 2) fun v35 =>
  if v35 ≤ l2 then
    fX11_otherwise_0b64 l1 σ
  else
    fX11_otherwise_0b41 K22 l1 l2 σ
noncomputable def fX11_otherwise_0b22 (K22 : Int32 → Int32 → ST → (Int32 × ST)) (l1 : Int32) (l2 : Int32) (σ : ST) : (Int32 × ST) :=
  bd (σ.1 21) fun v24 =>
  if v24 ≤ l2 then
    fX11_otherwise_0b64 l1 σ
  else
    fX11_otherwise_0b30 K22 l1 l2 σ
noncomputable def fX11_otherwise_0l22 : Nat → Int32 → Int32 → ST → (Int32 × ST)
  | 0, _, _, σ => (0, σ)
  | fu + 1, l1, l2, σ => fX11_otherwise_0b22 (fX11_otherwise_0l22 fu) l1 l2 σ
noncomputable def fX11_otherwise_0b18 (σ : ST) : (Int32 × ST) :=
  fX11_otherwise_0l22 4096 0 0 σ
noncomputable def fX11_otherwise_0b8 (σ : ST) : (Int32 × ST) :=
  bp (fX11_heapNow_0 σ) fun v9 s9 =>
  if v9 = 0 then
    fX11_otherwise_0b15 s9
  else
    fX11_otherwise_0b18 s9
noncomputable def fX11_otherwise_0b0 (σ : ST) : (Int32 × ST) :=
  bd (σ.1 21) fun v1 =>
  if v1 = (-1) then
    fX11_otherwise_0b15 σ
  else
    fX11_otherwise_0b8 σ
noncomputable def fX11_otherwise_0  (σ : ST) : (Int32 × ST) := fX11_otherwise_0b0  σ
noncomputable def fX10_add_0b12 (l1 : Int32) (l2 : Int32) (σ : ST) : (Int32 × ST) :=
  bd (σ.1 20) fun v17 =>
  bd (sA σ 52 (upd (σ.2.2 52) v17.toNatClampNeg l1)) fun s21 =>
  bd (s21.1 20) fun v27 =>
  bd (sA s21 53 (upd (s21.2.2 53) v27.toNatClampNeg l2)) fun s31 =>
  bd (s31.1 20) fun v34 =>
  bd (v34 + 1) fun v38 =>
  bd (sI s31 20 v38) fun s39 =>
  bd (s39.1 20) fun v43 =>
  bd (v43 - 1) fun v47 =>
  (v47, s39)
noncomputable def fX10_add_0b9 (σ : ST) : (Int32 × ST) :=
  ((-3), σ)
noncomputable def fX10_add_0b0 (l1 : Int32) (l2 : Int32) (σ : ST) : (Int32 × ST) :=
  bd (σ.1 20) fun v1 =>
  if v1 < 12 then
    fX10_add_0b12 l1 l2 σ
  else
    fX10_add_0b9 σ
noncomputable def fX10_add_0 (p1 : Int32) (p2 : Int32) (σ : ST) : (Int32 × ST) := fX10_add_0b0 p1 p2 σ
noncomputable def fX11_word_0b22 (t0 : Int32) (σ : ST) : (Int32 × ST) :=
  (t0, σ)
noncomputable def fX11_word_0b21 (σ : ST) : (Int32 × ST) :=
  fX11_word_0b22 (-1) σ
noncomputable def fX11_word_0b9 (l1 : Int32) (l2 : Int32) (σ : ST) : (Int32 × ST) :=
  bp (fX10_add_0 l1 l2 σ) fun v15 s15 =>
  fX11_word_0b22 v15 s15
noncomputable def fX11_word_0b0 (l1 : Int32) (l2 : Int32) (σ : ST) : (Int32 × ST) :=
  bd (fX11_areRows_0 l1 l2 σ) fun v3 =>
  if v3 = 0 then
    fX11_word_0b21 σ
  else
    fX11_word_0b9 l1 l2 σ
noncomputable def fX11_word_0 (p1 : Int32) (p2 : Int32) (σ : ST) : (Int32 × ST) := fX11_word_0b0 p1 p2 σ
noncomputable def fX10_sharedRows_0b0 (l2 : Int32) (l3 : Int32) (σ : ST) : Int32 :=
  bd (σ.2.2 52 l2.toNatClampNeg) fun v5 =>
  bd (σ.2.2 12 l3.toNatClampNeg) fun v11 =>
  bd (if v5 < v11 then v11 else v5) fun v12 =>
  bd (σ.2.2 53 l2.toNatClampNeg) fun v22 =>
  bd (σ.2.2 12 l3.toNatClampNeg) fun v28 =>
  bd (σ.2.2 13 l3.toNatClampNeg) fun v34 =>
  bd (v28 + v34) fun v35 =>
  bd (v35 - 1) fun v37 =>
  bd (if v37 < v22 then v37 else v22) fun v38 =>
  bd (v38 - v12) fun v48 =>
  bd (v48 + 1) fun v50 =>
  bd (if (0 : Int32) < v50 then v50 else (0 : Int32)) fun v51 =>
  v51
noncomputable def fX10_sharedRows_0 (p2 : Int32) (p3 : Int32) (σ : ST) : Int32 := fX10_sharedRows_0b0 p2 p3 σ
noncomputable def fX10_piecesWithSome_0b39 (l3 : Int32) (σ : ST) : Int32 :=
  l3
noncomputable def fX10_piecesWithSome_0b31 (K5 : Int32 → Int32 → Int32 → ST → Int32) (l2 : Int32) (l4 : Int32) (t0 : Int32) (t1 : Int32) (σ : ST) : Int32 :=
  bd (t1 + t0) fun v31 =>
  bd (l4 + 1) fun v33 =>
  K5 l2 v31 v33 σ
noncomputable def fX10_piecesWithSome_0b30 (K5 : Int32 → Int32 → Int32 → ST → Int32) (l2 : Int32) (l4 : Int32) (t0 : Int32) (σ : ST) : Int32 :=
  fX10_piecesWithSome_0b31 K5 l2 l4 0 t0 σ
noncomputable def fX10_piecesWithSome_0b26 (K5 : Int32 → Int32 → Int32 → ST → Int32) (l2 : Int32) (l4 : Int32) (t0 : Int32) (σ : ST) : Int32 :=
  fX10_piecesWithSome_0b31 K5 l2 l4 1 t0 σ
noncomputable def fX10_piecesWithSome_0b14 (K5 : Int32 → Int32 → Int32 → ST → Int32) (l2 : Int32) (l3 : Int32) (l4 : Int32) (σ : ST) : Int32 :=
  bd (fX10_sharedRows_0 l2 l4 σ) fun v20 =>
  if v20 ≤ 0 then
    fX10_piecesWithSome_0b30 K5 l2 l4 l3 σ
  else
    fX10_piecesWithSome_0b26 K5 l2 l4 l3 σ
noncomputable def fX10_piecesWithSome_0b5 (K5 : Int32 → Int32 → Int32 → ST → Int32) (l2 : Int32) (l3 : Int32) (l4 : Int32) (σ : ST) : Int32 :=
  bd (σ.1 5) fun v8 =>
  if v8 ≤ l4 then
    fX10_piecesWithSome_0b39 l3 σ
  else
    fX10_piecesWithSome_0b14 K5 l2 l3 l4 σ
noncomputable def fX10_piecesWithSome_0l5 : Nat → Int32 → Int32 → Int32 → ST → Int32
  | 0, _, _, _, σ => 0
  | fu + 1, l2, l3, l4, σ => fX10_piecesWithSome_0b5 (fX10_piecesWithSome_0l5 fu) l2 l3 l4 σ
noncomputable def fX10_piecesWithSome_0b0 (l2 : Int32) (σ : ST) : Int32 :=
  fX10_piecesWithSome_0l5 4096 l2 0 0 σ
noncomputable def fX10_piecesWithSome_0 (p2 : Int32) (σ : ST) : Int32 := fX10_piecesWithSome_0b0 p2 σ
noncomputable def fX10_pieceWithMost_0b48 (l3 : Int32) (σ : ST) : Int32 :=
  l3
noncomputable def fX10_pieceWithMost_0b42 (K9 : Int32 → Int32 → Int32 → Int32 → ST → Int32) (l2 : Int32) (l3 : Int32) (l4 : Int32) (l5 : Int32) (σ : ST) : Int32 :=
  bd (l5 + 1) fun v42 =>
  K9 l2 l3 l4 v42 σ
noncomputable def fX10_pieceWithMost_0b35 (K9 : Int32 → Int32 → Int32 → Int32 → ST → Int32) (l2 : Int32) (l5 : Int32) (l6 : Int32) (σ : ST) : Int32 :=
  fX10_pieceWithMost_0b42 K9 l2 l5 l6 l5 σ
noncomputable def fX10_pieceWithMost_0b18 (K9 : Int32 → Int32 → Int32 → Int32 → ST → Int32) (l2 : Int32) (l3 : Int32) (l4 : Int32) (l5 : Int32) (σ : ST) : Int32 :=
  bd (fX10_sharedRows_0 l2 l5 σ) fun v23 =>
  if v23 ≤ l4 then
    fX10_pieceWithMost_0b42 K9 l2 l3 l4 l5 σ
  else
    fX10_pieceWithMost_0b35 K9 l2 l5 v23 σ
noncomputable def fX10_pieceWithMost_0b9 (K9 : Int32 → Int32 → Int32 → Int32 → ST → Int32) (l2 : Int32) (l3 : Int32) (l4 : Int32) (l5 : Int32) (σ : ST) : Int32 :=
  bd (σ.1 5) fun v12 =>
  if v12 ≤ l5 then
    fX10_pieceWithMost_0b48 l3 σ
  else
    fX10_pieceWithMost_0b18 K9 l2 l3 l4 l5 σ
noncomputable def fX10_pieceWithMost_0l9 : Nat → Int32 → Int32 → Int32 → Int32 → ST → Int32
  | 0, _, _, _, _, σ => 0
  | fu + 1, l2, l3, l4, l5, σ => fX10_pieceWithMost_0b9 (fX10_pieceWithMost_0l9 fu) l2 l3 l4 l5 σ
noncomputable def fX10_pieceWithMost_0b0 (l2 : Int32) (σ : ST) : Int32 :=
  fX10_pieceWithMost_0l9 4096 l2 (-9) 0 0 σ
noncomputable def fX10_pieceWithMost_0 (p2 : Int32) (σ : ST) : Int32 := fX10_pieceWithMost_0b0 p2 σ
noncomputable def fX11_hung_0b26 (σ : ST) : (Int32 × ST) :=
  ((-1), σ)
noncomputable def fX11_hung_0b63 (t0 : Int32) (σ : ST) : (Int32 × ST) :=
  (t0, σ)
noncomputable def fX11_hung_0b51 (l1 : Int32) (σ : ST) : (Int32 × ST) :=
  bd (fX10_piecesWithSome_0 l1 σ) fun v60 =>
  fX11_hung_0b63 v60 σ
noncomputable def fX11_hung_0b36 (l1 : Int32) (σ : ST) : (Int32 × ST) :=
  bd (fX10_pieceWithMost_0 l1 σ) fun v45 =>
  fX11_hung_0b63 v45 σ
noncomputable def fX11_hung_0b28 (l1 : Int32) (l2 : Int32) (σ : ST) : (Int32 × ST) :=
  bd (fX11_cutNow_0 σ) fun s29 =>
  if l2 = 0 then
    fX11_hung_0b36 l1 s29
  else
    fX11_hung_0b51 l1 s29
noncomputable def fX11_hung_0b17 (l1 : Int32) (l2 : Int32) (σ : ST) : (Int32 × ST) :=
  bd (fX11_within_0 l2 0 1 σ) fun v20 =>
  if v20 = 0 then
    fX11_hung_0b26 σ
  else
    fX11_hung_0b28 l1 l2 σ
noncomputable def fX11_hung_0b0 (l1 : Int32) (l2 : Int32) (σ : ST) : (Int32 × ST) :=
  bd (σ.1 20) fun v6 =>
  bd (v6 - 1) fun v10 =>
  bd (fX11_within_0 l1 0 v10 σ) fun v11 =>
  if v11 = 0 then
    fX11_hung_0b26 σ
  else
    fX11_hung_0b17 l1 l2 σ
noncomputable def fX11_hung_0 (p1 : Int32) (p2 : Int32) (σ : ST) : (Int32 × ST) := fX11_hung_0b0 p1 p2 σ
noncomputable def fX7_setTruth_0b53 (l4 : Int32) (σ : ST) : (Int32 × ST) :=
  (l4, σ)
noncomputable def fX7_setTruth_0b47 (K10 : Int32 → Int32 → Int32 → Int32 → ST → (Int32 × ST)) (l2 : Int32) (l3 : Int32) (l4 : Int32) (l5 : Int32) (σ : ST) : (Int32 × ST) :=
  bd (l5 + 1) fun v47 =>
  K10 l2 l3 l4 v47 σ
noncomputable def fX7_setTruth_0b36 (K10 : Int32 → Int32 → Int32 → Int32 → ST → (Int32 × ST)) (l2 : Int32) (l3 : Int32) (l4 : Int32) (l5 : Int32) (σ : ST) : (Int32 × ST) :=
  bd (sA σ 6 (upd (σ.2.2 6) l5.toNatClampNeg l3)) fun s43 =>
  bd (l4 + 1) fun v44 =>
  fX7_setTruth_0b47 K10 l2 l3 v44 l5 s43
noncomputable def fX7_setTruth_0b25 (K10 : Int32 → Int32 → Int32 → Int32 → ST → (Int32 × ST)) (l2 : Int32) (l3 : Int32) (l4 : Int32) (l5 : Int32) (σ : ST) : (Int32 × ST) :=
  bd (σ.2.2 6 l5.toNatClampNeg) fun v31 =>
  if v31 = l3 then
    fX7_setTruth_0b47 K10 l2 l3 l4 l5 σ
  else
    fX7_setTruth_0b36 K10 l2 l3 l4 l5 σ
noncomputable def fX7_setTruth_0b16 (K10 : Int32 → Int32 → Int32 → Int32 → ST → (Int32 × ST)) (l2 : Int32) (l3 : Int32) (l4 : Int32) (l5 : Int32) (σ : ST) : (Int32 × ST) :=
  bd (σ.1 2) fun v19 =>
  if v19 ≤ l5 then
    fX7_setTruth_0b53 l4 σ
  else
    fX7_setTruth_0b25 K10 l2 l3 l4 l5 σ
noncomputable def fX7_setTruth_0b10 (K10 : Int32 → Int32 → Int32 → Int32 → ST → (Int32 × ST)) (l2 : Int32) (l3 : Int32) (l4 : Int32) (l5 : Int32) (σ : ST) : (Int32 × ST) :=
  if l2 < l5 then
    fX7_setTruth_0b53 l4 σ
  else
    fX7_setTruth_0b16 K10 l2 l3 l4 l5 σ
noncomputable def fX7_setTruth_0l10 : Nat → Int32 → Int32 → Int32 → Int32 → ST → (Int32 × ST)
  | 0, _, _, _, _, σ => (0, σ)
  | fu + 1, l2, l3, l4, l5, σ => fX7_setTruth_0b10 (fX7_setTruth_0l10 fu) l2 l3 l4 l5 σ
noncomputable def fX7_setTruth_0b0 (l1 : Int32) (l2 : Int32) (l3 : Int32) (σ : ST) : (Int32 × ST) :=
  bd (if l1 < 0 then 0 else l1) fun v5 =>
  fX7_setTruth_0l10 4096 l2 l3 0 v5 σ
noncomputable def fX7_setTruth_0 (p1 : Int32) (p2 : Int32) (p3 : Int32) (σ : ST) : (Int32 × ST) := fX7_setTruth_0b0 p1 p2 p3 σ
noncomputable def fX11_truth_0b32 (t0 : Int32) (σ : ST) : (Int32 × ST) :=
  (t0, σ)
noncomputable def fX11_truth_0b31 (σ : ST) : (Int32 × ST) :=
  fX11_truth_0b32 (-1) σ
noncomputable def fX11_truth_0b18 (l1 : Int32) (l2 : Int32) (l3 : Int32) (σ : ST) : (Int32 × ST) :=
  bp (fX7_setTruth_0 l1 l2 l3 σ) fun v25 s25 =>
  fX11_truth_0b32 v25 s25
noncomputable def fX11_truth_0b9 (l1 : Int32) (l2 : Int32) (l3 : Int32) (σ : ST) : (Int32 × ST) :=
  bd (fX11_within_0 l3 0 5 σ) fun v12 =>
  if v12 = 0 then
    fX11_truth_0b31 σ
  else
    fX11_truth_0b18 l1 l2 l3 σ
noncomputable def fX11_truth_0b0 (l1 : Int32) (l2 : Int32) (l3 : Int32) (σ : ST) : (Int32 × ST) :=
  bd (fX11_areRows_0 l1 l2 σ) fun v3 =>
  if v3 = 0 then
    fX11_truth_0b31 σ
  else
    fX11_truth_0b9 l1 l2 l3 σ
noncomputable def fX11_truth_0 (p1 : Int32) (p2 : Int32) (p3 : Int32) (σ : ST) : (Int32 × ST) := fX11_truth_0b0 p1 p2 p3 σ
noncomputable def fX9_countTogether_0b113 (l4 : Int32) (σ : ST) : (Int32 × ST) :=
  (l4, σ)
noncomputable def fX9_countTogether_0b107 (K33 : Int32 → Int32 → ST → (Int32 × ST)) (l4 : Int32) (l5 : Int32) (σ : ST) : (Int32 × ST) :=
  bd (l5 + 1) fun v107 =>
  K33 l4 v107 σ
noncomputable def fX9_countTogether_0b85 (K33 : Int32 → Int32 → ST → (Int32 × ST)) (l4 : Int32) (l5 : Int32) (l6 : Int32) (l7 : Int32) (σ : ST) : (Int32 × ST) :=
  bd (σ.2.2 41 l6.toNatClampNeg) fun v95 =>
  bd (v95.toNatClampNeg) fun v96 =>
  bd (σ.2.2 (55 + v96) l7.toNatClampNeg) fun v100 =>
  bd (v100 + 1) fun v102 =>
  bd (sA σ (55 + v96) (upd (σ.2.2 (55 + v96)) l7.toNatClampNeg v102)) fun s103 =>
  bd (l4 + 1) fun v104 =>
  fX9_countTogether_0b107 K33 v104 l5 s103
noncomputable def fX9_countTogether_0b79 (K33 : Int32 → Int32 → ST → (Int32 × ST)) (l4 : Int32) (l5 : Int32) (l6 : Int32) (l7 : Int32) (σ : ST) : (Int32 × ST) :=
  if 5 ≤ l7 then
    fX9_countTogether_0b107 K33 l4 l5 σ
  else
    fX9_countTogether_0b85 K33 l4 l5 l6 l7 σ
noncomputable def fX9_countTogether_0b74 (K33 : Int32 → Int32 → ST → (Int32 × ST)) (l4 : Int32) (l5 : Int32) (l6 : Int32) (l7 : Int32) (σ : ST) : (Int32 × ST) :=
  if l7 < 0 then
    fX9_countTogether_0b107 K33 l4 l5 σ
  else
    fX9_countTogether_0b79 K33 l4 l5 l6 l7 σ
noncomputable def fX9_countTogether_0b67 (K33 : Int32 → Int32 → ST → (Int32 × ST)) (l4 : Int32) (l5 : Int32) (l6 : Int32) (l7 : Int32) (σ : ST) : (Int32 × ST) :=
  if 9 ≤ l6 then
    fX9_countTogether_0b107 K33 l4 l5 σ
  else
    fX9_countTogether_0b74 K33 l4 l5 l6 l7 σ
noncomputable def fX9_countTogether_0b42 (K33 : Int32 → Int32 → ST → (Int32 × ST)) (l4 : Int32) (l5 : Int32) (σ : ST) : (Int32 × ST) :=
  bd (σ.2.2 17 l5.toNatClampNeg) fun v48 =>
  bd (σ.2.2 6 l5.toNatClampNeg) fun v57 =>
  bd (v57 - 1) fun v59 =>
  if v48 < 0 then
    fX9_countTogether_0b107 K33 l4 l5 σ
  else
    fX9_countTogether_0b67 K33 l4 l5 v48 v59 σ
noncomputable def fX9_countTogether_0b33 (K33 : Int32 → Int32 → ST → (Int32 × ST)) (l4 : Int32) (l5 : Int32) (σ : ST) : (Int32 × ST) :=
  bd (σ.1 2) fun v36 =>
  if v36 ≤ l5 then
    fX9_countTogether_0b113 l4 σ
  else
    fX9_countTogether_0b42 K33 l4 l5 σ
noncomputable def fX9_countTogether_0l33 : Nat → Int32 → Int32 → ST → (Int32 × ST)
  | 0, _, _, σ => (0, σ)
  | fu + 1, l4, l5, σ => fX9_countTogether_0b33 (fX9_countTogether_0l33 fu) l4 l5 σ
noncomputable def fX9_countTogether_0b27 (σ : ST) : (Int32 × ST) :=
  fX9_countTogether_0l33 4096 0 0 σ
noncomputable def fX9_countTogether_0b10 (K3 : Int32 → ST → (Int32 × ST)) (l4 : Int32) (σ : ST) : (Int32 × ST) :=
  bd (l4.toNatClampNeg) fun v16 =>
  bd (sA σ (55 + v16) (fun j => if j < 5 then 0 else σ.2.2 (55 + v16) j)) fun s18 =>
  bd (l4 + 1) fun v21 =>
  K3 v21 s18
noncomputable def fX9_countTogether_0b3 (K3 : Int32 → ST → (Int32 × ST)) (l4 : Int32) (σ : ST) : (Int32 × ST) :=
  if 9 ≤ l4 then
    fX9_countTogether_0b27 σ
  else
    fX9_countTogether_0b10 K3 l4 σ
noncomputable def fX9_countTogether_0l3 : Nat → Int32 → ST → (Int32 × ST)
  | 0, _, σ => (0, σ)
  | fu + 1, l4, σ => fX9_countTogether_0b3 (fX9_countTogether_0l3 fu) l4 σ
noncomputable def fX9_countTogether_0b0 (σ : ST) : (Int32 × ST) :=
  fX9_countTogether_0l3 4096 0 σ
noncomputable def fX9_countTogether_0  (σ : ST) : (Int32 × ST) := fX9_countTogether_0b0  σ
noncomputable def fX9_giveOne_0b54 (σ : ST) : ST :=
  σ
noncomputable def fX9_giveOne_0b48 (K2 : Int32 → Nat → Int32 → ST → ST) (l1 : Int32) (l2 : Nat) (l3 : Int32) (σ : ST) : ST :=
  bd (l3 + 1) fun v48 =>
  K2 l1 l2 v48 σ
noncomputable def fX9_giveOne_0b22 (K2 : Int32 → Nat → Int32 → ST → ST) (l1 : Int32) (l2 : Nat) (l3 : Int32) (l4 : Int32) (σ : ST) : ST :=
  bd (σ.2.2 64 l1.toNatClampNeg) fun v32 =>
  bd (σ.2.2 64 l4.toNatClampNeg) fun v39 =>
  bd (σ.2.2 (55 + l2) l3.toNatClampNeg) fun v42 =>
  bd (v39 + v42) fun v43 =>
  bd (if v32 < v43 then v43 else v32) fun v44 =>
  bd (sA σ 64 (upd (σ.2.2 64) l1.toNatClampNeg v44)) fun s47 =>
  fX9_giveOne_0b48 K2 l1 l2 l3 s47
noncomputable def fX9_giveOne_0b7 (K2 : Int32 → Nat → Int32 → ST → ST) (l1 : Int32) (l2 : Nat) (l3 : Int32) (σ : ST) : ST :=
  bd ((1 : Int32) <<< (l3 &&& 31)) fun v10 =>
  bd (v10 ^^^ (-1)) fun v12 =>
  bd (l1 &&& v12) fun v13 =>
  if v13 = l1 then
    fX9_giveOne_0b48 K2 l1 l2 l3 σ
  else
    fX9_giveOne_0b22 K2 l1 l2 l3 v13 σ
noncomputable def fX9_giveOne_0b2 (K2 : Int32 → Nat → Int32 → ST → ST) (l1 : Int32) (l2 : Nat) (l3 : Int32) (σ : ST) : ST :=
  if 5 ≤ l3 then
    fX9_giveOne_0b54 σ
  else
    fX9_giveOne_0b7 K2 l1 l2 l3 σ
noncomputable def fX9_giveOne_0l2 : Nat → Int32 → Nat → Int32 → ST → ST
  | 0, _, _, _, σ => σ
  | fu + 1, l1, l2, l3, σ => fX9_giveOne_0b2 (fX9_giveOne_0l2 fu) l1 l2 l3 σ
noncomputable def fX9_giveOne_0b0 (l1 : Int32) (l2 : Nat) (σ : ST) : ST :=
  fX9_giveOne_0l2 4096 l1 l2 0 σ
noncomputable def fX9_giveOne_0 (p1 : Int32) (p2 : Nat) (σ : ST) : ST := fX9_giveOne_0b0 p1 p2 σ
noncomputable def fX9_wrong_0b75 (l4 : Int32) (σ : ST) : (Int32 × ST) :=
  bd ((32 : Int32) - 1) fun v87 =>
  bd (σ.2.2 64 v87.toNatClampNeg) fun v88 =>
  bd (l4 - v88) fun v89 =>
  (v89, σ)
noncomputable def fX9_wrong_0b69 (K20 : Int32 → Int32 → ST → (Int32 × ST)) (l4 : Int32) (l5 : Int32) (σ : ST) : (Int32 × ST) :=
  bd (l5 + 1) fun v69 =>
  K20 l4 v69 σ
noncomputable def fX9_wrong_0b50 (K20 : Int32 → Int32 → ST → (Int32 × ST)) (K45 : Int32 → Int32 → Int32 → ST → (Int32 × ST)) (l4 : Int32) (l5 : Int32) (l6 : Int32) (σ : ST) : (Int32 × ST) :=
  bd (l5.toNatClampNeg) fun v59 =>
  bd (fX9_giveOne_0 l6 v59 σ) fun s60 =>
  bd (l6 + (-1)) fun v63 =>
  K45 l4 l5 v63 s60
noncomputable def fX9_wrong_0b45 (K20 : Int32 → Int32 → ST → (Int32 × ST)) (K45 : Int32 → Int32 → Int32 → ST → (Int32 × ST)) (l4 : Int32) (l5 : Int32) (l6 : Int32) (σ : ST) : (Int32 × ST) :=
  if l6 ≤ 0 then
    fX9_wrong_0b69 K20 l4 l5 σ
  else
    fX9_wrong_0b50 K20 K45 l4 l5 l6 σ
noncomputable def fX9_wrong_0l45 (K20 : Int32 → Int32 → ST → (Int32 × ST)) : Nat → Int32 → Int32 → Int32 → ST → (Int32 × ST)
  | 0, _, _, _, σ => (0, σ)
  | fu + 1, l4, l5, l6, σ => fX9_wrong_0b45 K20 (fX9_wrong_0l45 K20 fu) l4 l5 l6 σ
noncomputable def fX9_wrong_0b36 (K20 : Int32 → Int32 → ST → (Int32 × ST)) (l4 : Int32) (l5 : Int32) (σ : ST) : (Int32 × ST) :=
  bd ((32 : Int32) - 1) fun v42 =>
  fX9_wrong_0l45 K20 4096 l4 l5 v42 σ
noncomputable def fX9_wrong_0b29 (K20 : Int32 → Int32 → ST → (Int32 × ST)) (l4 : Int32) (l5 : Int32) (σ : ST) : (Int32 × ST) :=
  if 9 ≤ l5 then
    fX9_wrong_0b75 l4 σ
  else
    fX9_wrong_0b36 K20 l4 l5 σ
noncomputable def fX9_wrong_0b20 (K20 : Int32 → Int32 → ST → (Int32 × ST)) (l4 : Int32) (l5 : Int32) (σ : ST) : (Int32 × ST) :=
  bd (σ.1 10) fun v23 =>
  if v23 ≤ l5 then
    fX9_wrong_0b75 l4 σ
  else
    fX9_wrong_0b29 K20 l4 l5 σ
noncomputable def fX9_wrong_0l20 : Nat → Int32 → Int32 → ST → (Int32 × ST)
  | 0, _, _, σ => (0, σ)
  | fu + 1, l4, l5, σ => fX9_wrong_0b20 (fX9_wrong_0l20 fu) l4 l5 σ
noncomputable def fX9_wrong_0b0 (σ : ST) : (Int32 × ST) :=
  bp (fX9_countTogether_0 σ) fun v4 s4 =>
  bd (sA s4 64 (fun j => if j < 32 then 0 else s4.2.2 64 j)) fun s14 =>
  fX9_wrong_0l20 4096 v4 0 s14
noncomputable def fX9_wrong_0  (σ : ST) : (Int32 × ST) := fX9_wrong_0b0  σ
noncomputable def fX9_madeUp_0b50 (l3 : Int32) (σ : ST) : Int32 :=
  l3
noncomputable def fX9_madeUp_0b42 (K5 : Int32 → Int32 → ST → Int32) (l4 : Int32) (t0 : Int32) (t1 : Int32) (σ : ST) : Int32 :=
  bd (t1 + t0) fun v42 =>
  bd (l4 + 1) fun v44 =>
  K5 v42 v44 σ
noncomputable def fX9_madeUp_0b41 (K5 : Int32 → Int32 → ST → Int32) (l4 : Int32) (t0 : Int32) (σ : ST) : Int32 :=
  fX9_madeUp_0b42 K5 l4 0 t0 σ
noncomputable def fX9_madeUp_0b37 (K5 : Int32 → Int32 → ST → Int32) (l4 : Int32) (t0 : Int32) (σ : ST) : Int32 :=
  fX9_madeUp_0b42 K5 l4 1 t0 σ
noncomputable def fX9_madeUp_0b25 (K5 : Int32 → Int32 → ST → Int32) (l4 : Int32) (t0 : Int32) (σ : ST) : Int32 :=
  bd (σ.2.2 17 l4.toNatClampNeg) fun v31 =>
  if v31 = (-9) then
    fX9_madeUp_0b41 K5 l4 t0 σ
  else
    fX9_madeUp_0b37 K5 l4 t0 σ
noncomputable def fX9_madeUp_0b14 (K5 : Int32 → Int32 → ST → Int32) (l3 : Int32) (l4 : Int32) (σ : ST) : Int32 :=
  bd (σ.2.2 6 l4.toNatClampNeg) fun v21 =>
  if v21 = 0 then
    fX9_madeUp_0b25 K5 l4 l3 σ
  else
    fX9_madeUp_0b41 K5 l4 l3 σ
noncomputable def fX9_madeUp_0b5 (K5 : Int32 → Int32 → ST → Int32) (l3 : Int32) (l4 : Int32) (σ : ST) : Int32 :=
  bd (σ.1 2) fun v8 =>
  if v8 ≤ l4 then
    fX9_madeUp_0b50 l3 σ
  else
    fX9_madeUp_0b14 K5 l3 l4 σ
noncomputable def fX9_madeUp_0l5 : Nat → Int32 → Int32 → ST → Int32
  | 0, _, _, σ => 0
  | fu + 1, l3, l4, σ => fX9_madeUp_0b5 (fX9_madeUp_0l5 fu) l3 l4 σ
noncomputable def fX9_madeUp_0b0 (σ : ST) : Int32 :=
  fX9_madeUp_0l5 4096 0 0 σ
noncomputable def fX9_madeUp_0  (σ : ST) : Int32 := fX9_madeUp_0b0  σ
noncomputable def fX9_missed_0b50 (l3 : Int32) (σ : ST) : Int32 :=
  l3
noncomputable def fX9_missed_0b42 (K5 : Int32 → Int32 → ST → Int32) (l4 : Int32) (t0 : Int32) (t1 : Int32) (σ : ST) : Int32 :=
  bd (t1 + t0) fun v42 =>
  bd (l4 + 1) fun v44 =>
  K5 v42 v44 σ
noncomputable def fX9_missed_0b41 (K5 : Int32 → Int32 → ST → Int32) (l4 : Int32) (t0 : Int32) (σ : ST) : Int32 :=
  fX9_missed_0b42 K5 l4 0 t0 σ
noncomputable def fX9_missed_0b37 (K5 : Int32 → Int32 → ST → Int32) (l4 : Int32) (t0 : Int32) (σ : ST) : Int32 :=
  fX9_missed_0b42 K5 l4 1 t0 σ
noncomputable def fX9_missed_0b25 (K5 : Int32 → Int32 → ST → Int32) (l4 : Int32) (t0 : Int32) (σ : ST) : Int32 :=
  bd (σ.2.2 17 l4.toNatClampNeg) fun v31 =>
  if v31 = (-9) then
    fX9_missed_0b37 K5 l4 t0 σ
  else
    fX9_missed_0b41 K5 l4 t0 σ
noncomputable def fX9_missed_0b14 (K5 : Int32 → Int32 → ST → Int32) (l3 : Int32) (l4 : Int32) (σ : ST) : Int32 :=
  bd (σ.2.2 6 l4.toNatClampNeg) fun v21 =>
  if v21 ≤ 0 then
    fX9_missed_0b41 K5 l4 l3 σ
  else
    fX9_missed_0b25 K5 l4 l3 σ
noncomputable def fX9_missed_0b5 (K5 : Int32 → Int32 → ST → Int32) (l3 : Int32) (l4 : Int32) (σ : ST) : Int32 :=
  bd (σ.1 2) fun v8 =>
  if v8 ≤ l4 then
    fX9_missed_0b50 l3 σ
  else
    fX9_missed_0b14 K5 l3 l4 σ
noncomputable def fX9_missed_0l5 : Nat → Int32 → Int32 → ST → Int32
  | 0, _, _, σ => 0
  | fu + 1, l3, l4, σ => fX9_missed_0b5 (fX9_missed_0l5 fu) l3 l4 σ
noncomputable def fX9_missed_0b0 (σ : ST) : Int32 :=
  fX9_missed_0l5 4096 0 0 σ
noncomputable def fX9_missed_0  (σ : ST) : Int32 := fX9_missed_0b0  σ
noncomputable def fX11_errors_0b90 (t0 : Int32) (σ : ST) : (Int32 × ST) :=
  (t0, σ)
noncomputable def fX11_errors_0b88 (σ : ST) : (Int32 × ST) :=
  fX11_errors_0b90 (-2) σ
noncomputable def fX11_errors_0b63 (σ : ST) : (Int32 × ST) :=
  bp (fX9_wrong_0 σ) fun v82 s82 =>
  fX11_errors_0b90 v82 s82
noncomputable def fX11_errors_0b56 (σ : ST) : (Int32 × ST) :=
  bp (fX11_heapNow_0 σ) fun v57 s57 =>
  if v57 = 0 then
    fX11_errors_0b88 s57
  else
    fX11_errors_0b63 s57
noncomputable def fX11_errors_0b40 (σ : ST) : (Int32 × ST) :=
  bd (fX9_madeUp_0 σ) fun v52 =>
  (v52, σ)
noncomputable def fX11_errors_0b35 (l1 : Int32) (σ : ST) : (Int32 × ST) :=
  if l1 = 1 then
    fX11_errors_0b40 σ
  else
    fX11_errors_0b56 σ
noncomputable def fX11_errors_0b19 (σ : ST) : (Int32 × ST) :=
  bd (fX9_missed_0 σ) fun v31 =>
  (v31, σ)
noncomputable def fX11_errors_0b11 (l1 : Int32) (σ : ST) : (Int32 × ST) :=
  bd (fX11_cutNow_0 σ) fun s12 =>
  if l1 = 0 then
    fX11_errors_0b19 s12
  else
    fX11_errors_0b35 l1 s12
noncomputable def fX11_errors_0b9 (σ : ST) : (Int32 × ST) :=
  ((-1), σ)
noncomputable def fX11_errors_0b0 (l1 : Int32) (σ : ST) : (Int32 × ST) :=
  bd (fX11_within_0 l1 0 2 σ) fun v3 =>
  if v3 = 0 then
    fX11_errors_0b9 σ
  else
    fX11_errors_0b11 l1 σ
noncomputable def fX11_errors_0 (p1 : Int32) (σ : ST) : (Int32 × ST) := fX11_errors_0b0 p1 σ
noncomputable def fX6_span_0b0 (l2 : Int32) (σ : ST) : (Int32 × ST) :=
  bd (σ.2.1 2) fun v2 =>
  bd (v2 + (1 : Int64)) fun v6 =>
  bd (sL σ 2 v6) fun s7 =>
  bd (s7.2.2 13 l2.toNatClampNeg) fun v15 =>
  (v15, s7)
noncomputable def fX6_span_0 (p2 : Int32) (σ : ST) : (Int32 × ST) := fX6_span_0b0 p2 σ
noncomputable def fX6_voice_0b0 (l2 : Int32) (σ : ST) : (Int32 × ST) :=
  bd (σ.2.1 2) fun v2 =>
  bd (v2 + (10 : Int64)) fun v8 =>
  bd (sL σ 2 v8) fun s9 =>
  bp (fX6_span_0 l2 s9) fun v15 s15 =>
  bd (fX2_middleOf_0 l2 0 s15) fun v21 =>
  bd (v15 + v21) fun v24 =>
  (v24, s15)
noncomputable def fX6_voice_0 (p2 : Int32) (σ : ST) : (Int32 × ST) := fX6_voice_0b0 p2 σ
noncomputable def fX6_talk_0b0 (l2 : Int32) (σ : ST) : (Int32 × ST) :=
  bd (σ.2.1 2) fun v2 =>
  bd (v2 + (100 : Int64)) fun v8 =>
  bd (sL σ 2 v8) fun s9 =>
  bp (fX6_voice_0 l2 s9) fun v15 s15 =>
  bd (s15.2.2 14 l2.toNatClampNeg) fun v23 =>
  bd (v15 + v23) fun v24 =>
  (v24, s15)
noncomputable def fX6_talk_0 (p2 : Int32) (σ : ST) : (Int32 × ST) := fX6_talk_0b0 p2 σ
noncomputable def fX6_two_0b0 (l2 : Int32) (σ : ST) : (Int32 × ST) :=
  bd (σ.2.1 2) fun v2 =>
  bd (v2 + (1000 : Int64)) fun v8 =>
  bd (sL σ 2 v8) fun s9 =>
  bp (fX6_talk_0 l2 s9) fun v15 s15 =>
  bd (v15 + 1) fun v19 =>
  bd (v19 / 2) fun v21 =>
  (v21, s15)
noncomputable def fX6_two_0 (p2 : Int32) (σ : ST) : (Int32 × ST) := fX6_two_0b0 p2 σ
noncomputable def fX6_brief_0b0 (l2 : Int32) (σ : ST) : (Int32 × ST) :=
  bd (σ.2.1 2) fun v2 =>
  bd (v2 + (10000 : Int64)) fun v8 =>
  bd (sL σ 2 v8) fun s9 =>
  bp (fX6_talk_0 l2 s9) fun v16 s16 =>
  bd (v16 - 3) fun v20 =>
  bd (if (0 : Int32) < v20 then v20 else (0 : Int32)) fun v21 =>
  (v21, s16)
noncomputable def fX6_brief_0 (p2 : Int32) (σ : ST) : (Int32 × ST) := fX6_brief_0b0 p2 σ
noncomputable def fX6_far_0b0 (l2 : Int32) (σ : ST) : (Int32 × ST) :=
  bd (σ.2.1 2) fun v2 =>
  bd (v2 + (100000 : Int64)) fun v8 =>
  bd (sL σ 2 v8) fun s9 =>
  bp (fX6_voice_0 l2 s9) fun v15 s15 =>
  bd (v15 / 3) fun v19 =>
  (v19, s15)
noncomputable def fX6_far_0 (p2 : Int32) (σ : ST) : (Int32 × ST) := fX6_far_0b0 p2 σ
noncomputable def fX6_known_0b0 (l2 : Int32) (l3 : Int32) (σ : ST) : (Int32 × ST) :=
  bd (σ.2.1 2) fun v2 =>
  bd (v2 + (1000000 : Int64)) fun v8 =>
  bd (sL σ 2 v8) fun s9 =>
  bp (fX6_voice_0 l2 s9) fun v15 s15 =>
  bd ((7 : Int32) * l3) fun v21 =>
  bd (v15 + v21) fun v22 =>
  (v22, s15)
noncomputable def fX6_known_0 (p2 : Int32) (p3 : Int32) (σ : ST) : (Int32 × ST) := fX6_known_0b0 p2 p3 σ
noncomputable def fX6_noise_0b0 (l2 : Int32) (σ : ST) : (Int32 × ST) :=
  bd (σ.2.1 2) fun v2 =>
  bd (v2 + (10000000 : Int64)) fun v8 =>
  bd (sL σ 2 v8) fun s9 =>
  bp (fX6_span_0 l2 s9) fun v15 s15 =>
  bd (v15 * v15) fun v21 =>
  bd (v21 - v21 / 89 * 89) fun v24 =>
  (v24, s15)
noncomputable def fX6_noise_0 (p2 : Int32) (σ : ST) : (Int32 × ST) := fX6_noise_0b0 p2 σ
noncomputable def fX6_weigh_0b44 (l3 : Int32) (σ : ST) : (Int32 × ST) :=
  bp (fX6_span_0 l3 σ) fun v47 s47 =>
  (v47, s47)
noncomputable def fX6_weigh_0b51 (l3 : Int32) (σ : ST) : (Int32 × ST) :=
  bp (fX6_voice_0 l3 σ) fun v54 s54 =>
  (v54, s54)
noncomputable def fX6_weigh_0b58 (l3 : Int32) (σ : ST) : (Int32 × ST) :=
  bp (fX6_talk_0 l3 σ) fun v61 s61 =>
  (v61, s61)
noncomputable def fX6_weigh_0b65 (l3 : Int32) (σ : ST) : (Int32 × ST) :=
  bp (fX6_two_0 l3 σ) fun v68 s68 =>
  (v68, s68)
noncomputable def fX6_weigh_0b72 (l3 : Int32) (σ : ST) : (Int32 × ST) :=
  bp (fX6_brief_0 l3 σ) fun v75 s75 =>
  (v75, s75)
noncomputable def fX6_weigh_0b79 (l3 : Int32) (σ : ST) : (Int32 × ST) :=
  bp (fX6_far_0 l3 σ) fun v82 s82 =>
  (v82, s82)
noncomputable def fX6_weigh_0b86 (l3 : Int32) (l4 : Int32) (σ : ST) : (Int32 × ST) :=
  bp (fX6_known_0 l3 l4 σ) fun v91 s91 =>
  (v91, s91)
noncomputable def fX6_weigh_0b95 (l3 : Int32) (σ : ST) : (Int32 × ST) :=
  bp (fX6_noise_0 l3 σ) fun v98 s98 =>
  (v98, s98)
noncomputable def fX6_weigh_0b0 (l1 : Int32) (l3 : Int32) (l4 : Int32) (σ : ST) : (Int32 × ST) :=
  if l1 = 0 then fX6_weigh_0b44 l3 σ else
  if l1 = 1 then fX6_weigh_0b51 l3 σ else
  if l1 = 2 then fX6_weigh_0b58 l3 σ else
  if l1 = 3 then fX6_weigh_0b65 l3 σ else
  if l1 = 4 then fX6_weigh_0b72 l3 σ else
  if l1 = 5 then fX6_weigh_0b79 l3 σ else
  if l1 = 6 then fX6_weigh_0b86 l3 l4 σ else
  fX6_weigh_0b95 l3 σ
noncomputable def fX6_weigh_0 (p1 : Int32) (p3 : Int32) (p4 : Int32) (σ : ST) : (Int32 × ST) := fX6_weigh_0b0 p1 p3 p4 σ
noncomputable def fX11_weight_0b18 (σ : ST) : (Int32 × ST) :=
  ((-1), σ)
noncomputable def fX11_weight_0b20 (l1 : Int32) (l2 : Int32) (σ : ST) : (Int32 × ST) :=
  bd (σ.1 19) fun v34 =>
  bp (fX6_weigh_0 l1 l2 v34 σ) fun v37 s37 =>
  (v37, s37)
noncomputable def fX11_weight_0b10 (l1 : Int32) (l2 : Int32) (σ : ST) : (Int32 × ST) :=
  bp (fX11_isPiece_0 l2 σ) fun v12 s12 =>
  if v12 = 0 then
    fX11_weight_0b18 s12
  else
    fX11_weight_0b20 l1 l2 s12
noncomputable def fX11_weight_0b0 (l1 : Int32) (l2 : Int32) (σ : ST) : (Int32 × ST) :=
  bd (fX11_within_0 l1 0 7 σ) fun v4 =>
  if v4 = 0 then
    fX11_weight_0b18 σ
  else
    fX11_weight_0b10 l1 l2 σ
noncomputable def fX11_weight_0 (p1 : Int32) (p2 : Int32) (σ : ST) : (Int32 × ST) := fX11_weight_0b0 p1 p2 σ
noncomputable def fX7_deafRows_0b35 (l1 : Int32) (σ : ST) : Int32 :=
  l1
noncomputable def fX7_deafRows_0b27 (K4 : Int32 → Int32 → ST → Int32) (l2 : Int32) (t0 : Int32) (t1 : Int32) (σ : ST) : Int32 :=
  bd (t1 + t0) fun v27 =>
  bd (l2 + 1) fun v29 =>
  K4 v27 v29 σ
noncomputable def fX7_deafRows_0b26 (K4 : Int32 → Int32 → ST → Int32) (l2 : Int32) (t0 : Int32) (σ : ST) : Int32 :=
  fX7_deafRows_0b27 K4 l2 0 t0 σ
noncomputable def fX7_deafRows_0b22 (K4 : Int32 → Int32 → ST → Int32) (l2 : Int32) (t0 : Int32) (σ : ST) : Int32 :=
  fX7_deafRows_0b27 K4 l2 1 t0 σ
noncomputable def fX7_deafRows_0b12 (K4 : Int32 → Int32 → ST → Int32) (l1 : Int32) (l2 : Int32) (σ : ST) : Int32 :=
  bd (σ.2.2 4 l2.toNatClampNeg) fun v18 =>
  if v18 = 0 then
    fX7_deafRows_0b26 K4 l2 l1 σ
  else
    fX7_deafRows_0b22 K4 l2 l1 σ
noncomputable def fX7_deafRows_0b4 (K4 : Int32 → Int32 → ST → Int32) (l1 : Int32) (l2 : Int32) (σ : ST) : Int32 :=
  bd (σ.1 2) fun v6 =>
  if v6 ≤ l2 then
    fX7_deafRows_0b35 l1 σ
  else
    fX7_deafRows_0b12 K4 l1 l2 σ
noncomputable def fX7_deafRows_0l4 : Nat → Int32 → Int32 → ST → Int32
  | 0, _, _, σ => 0
  | fu + 1, l1, l2, σ => fX7_deafRows_0b4 (fX7_deafRows_0l4 fu) l1 l2 σ
noncomputable def fX7_deafRows_0b0 (σ : ST) : Int32 :=
  fX7_deafRows_0l4 4096 0 0 σ
noncomputable def fX7_deafRows_0  (σ : ST) : Int32 := fX7_deafRows_0b0  σ
noncomputable def fX7_outRows_0b35 (l1 : Int32) (σ : ST) : Int32 :=
  l1
noncomputable def fX7_outRows_0b27 (K4 : Int32 → Int32 → ST → Int32) (l2 : Int32) (t0 : Int32) (t1 : Int32) (σ : ST) : Int32 :=
  bd (t1 + t0) fun v27 =>
  bd (l2 + 1) fun v29 =>
  K4 v27 v29 σ
noncomputable def fX7_outRows_0b26 (K4 : Int32 → Int32 → ST → Int32) (l2 : Int32) (t0 : Int32) (σ : ST) : Int32 :=
  fX7_outRows_0b27 K4 l2 0 t0 σ
noncomputable def fX7_outRows_0b22 (K4 : Int32 → Int32 → ST → Int32) (l2 : Int32) (t0 : Int32) (σ : ST) : Int32 :=
  fX7_outRows_0b27 K4 l2 1 t0 σ
noncomputable def fX7_outRows_0b12 (K4 : Int32 → Int32 → ST → Int32) (l1 : Int32) (l2 : Int32) (σ : ST) : Int32 :=
  bd (σ.2.2 5 l2.toNatClampNeg) fun v18 =>
  if v18 = 0 then
    fX7_outRows_0b26 K4 l2 l1 σ
  else
    fX7_outRows_0b22 K4 l2 l1 σ
noncomputable def fX7_outRows_0b4 (K4 : Int32 → Int32 → ST → Int32) (l1 : Int32) (l2 : Int32) (σ : ST) : Int32 :=
  bd (σ.1 2) fun v6 =>
  if v6 ≤ l2 then
    fX7_outRows_0b35 l1 σ
  else
    fX7_outRows_0b12 K4 l1 l2 σ
noncomputable def fX7_outRows_0l4 : Nat → Int32 → Int32 → ST → Int32
  | 0, _, _, σ => 0
  | fu + 1, l1, l2, σ => fX7_outRows_0b4 (fX7_outRows_0l4 fu) l1 l2 σ
noncomputable def fX7_outRows_0b0 (σ : ST) : Int32 :=
  fX7_outRows_0l4 4096 0 0 σ
noncomputable def fX7_outRows_0  (σ : ST) : Int32 := fX7_outRows_0b0  σ
noncomputable def fX11_count_0b40 (σ : ST) : Int32 :=
  bd (σ.1 2) fun v44 =>
  v44
noncomputable def fX11_count_0b48 (σ : ST) : Int32 :=
  bd (fX7_deafRows_0 σ) fun v52 =>
  v52
noncomputable def fX11_count_0b56 (σ : ST) : Int32 :=
  bd (fX7_outRows_0 σ) fun v60 =>
  v60
noncomputable def fX11_count_0b64 (σ : ST) : Int32 :=
  bd (σ.1 19) fun v68 =>
  v68
noncomputable def fX11_count_0b72 (σ : ST) : Int32 :=
  bd (σ.1 20) fun v76 =>
  v76
noncomputable def fX11_count_0b80 (σ : ST) : Int32 :=
  bd (σ.1 0) fun v84 =>
  v84
noncomputable def fX11_count_0b88 (σ : ST) : Int32 :=
  (-1)
noncomputable def fX11_count_0b0 (l1 : Int32) (σ : ST) : Int32 :=
  if l1 = 0 then fX11_count_0b40 σ else
  if l1 = 1 then fX11_count_0b48 σ else
  if l1 = 2 then fX11_count_0b56 σ else
  if l1 = 3 then fX11_count_0b64 σ else
  if l1 = 4 then fX11_count_0b72 σ else
  if l1 = 5 then fX11_count_0b80 σ else
  fX11_count_0b88 σ
noncomputable def fX11_count_0 (p1 : Int32) (σ : ST) : Int32 := fX11_count_0b0 p1 σ
noncomputable def fX11_trace_0b0 (σ : ST) : Int64 :=
  bd (σ.2.1 2) fun v4 =>
  v4
noncomputable def fX11_trace_0  (σ : ST) : Int64 := fX11_trace_0b0  σ
noncomputable def fX12_in_0b15 (t0 : Int32) (σ : ST) : Int32 :=
  t0
noncomputable def fX12_in_0b14 (σ : ST) : Int32 :=
  fX12_in_0b15 0 σ
noncomputable def fX12_in_0b10 (σ : ST) : Int32 :=
  fX12_in_0b15 1 σ
noncomputable def fX12_in_0b5 (l0 : Int32) (l2 : Int32) (σ : ST) : Int32 :=
  if l2 < l0 then
    fX12_in_0b14 σ
  else
    fX12_in_0b10 σ
noncomputable def fX12_in_0b0 (l0 : Int32) (l1 : Int32) (l2 : Int32) (σ : ST) : Int32 :=
  if l0 < l1 then
    fX12_in_0b14 σ
  else
    fX12_in_0b5 l0 l2 σ
noncomputable def fX12_in_0 (p0 : Int32) (p1 : Int32) (p2 : Int32) (σ : ST) : Int32 := fX12_in_0b0 p0 p1 p2 σ
noncomputable def fX12_type_0b75 (σ : ST) : (Int32 × ST) :=
  bd (σ.1 25) fun v76 =>
  (v76, σ)
noncomputable def fX12_type_0b37 (K32 : Int64 → Int32 → ST → (Int32 × ST)) (l1 : Int64) (l4 : Int32) (σ : ST) : (Int32 × ST) :=
  bd (σ.1 25) fun v42 =>
  bd ((8 : Int32) * l4) fun v50 =>
  bd (l1 >>> (v50.toInt64 &&& 63)) fun v51 =>
  bd (v51 &&& (255 : Int64)) fun v55 =>
  bd (v55.toInt32) fun v56 =>
  bd (v56.toInt8.toInt32) fun v57 =>
  bd (sA σ 67 (upd (σ.2.2 67) v42.toNatClampNeg (vp_nar .byte v57))) fun s58 =>
  bd (s58.1 25) fun v61 =>
  bd (v61 + 1) fun v65 =>
  bd (sI s58 25 v65) fun s66 =>
  bd (l4 + (-1)) fun v69 =>
  K32 l1 v69 s66
noncomputable def fX12_type_0b32 (K32 : Int64 → Int32 → ST → (Int32 × ST)) (l1 : Int64) (l4 : Int32) (σ : ST) : (Int32 × ST) :=
  if l4 < 0 then
    fX12_type_0b75 σ
  else
    fX12_type_0b37 K32 l1 l4 σ
noncomputable def fX12_type_0l32 : Nat → Int64 → Int32 → ST → (Int32 × ST)
  | 0, _, _, σ => (0, σ)
  | fu + 1, l1, l4, σ => fX12_type_0b32 (fX12_type_0l32 fu) l1 l4 σ
noncomputable def fX12_type_0b27 (l1 : Int64) (l3 : Int32) (σ : ST) : (Int32 × ST) :=
  bd (l3 - 1) fun v29 =>
  fX12_type_0l32 4096 l1 v29 σ
noncomputable def fX12_type_0b24 (σ : ST) : (Int32 × ST) :=
  ((-3), σ)
noncomputable def fX12_type_0b12 (l1 : Int64) (l3 : Int32) (σ : ST) : (Int32 × ST) :=
  bd (σ.1 25) fun v13 =>
  bd (v13 + l3) fun v17 =>
  if v17 ≤ 200 then
    fX12_type_0b27 l1 l3 σ
  else
    fX12_type_0b24 σ
noncomputable def fX12_type_0b10 (σ : ST) : (Int32 × ST) :=
  ((-1), σ)
noncomputable def fX12_type_0b0 (l1 : Int64) (l3 : Int32) (σ : ST) : (Int32 × ST) :=
  bd (fX12_in_0 l3 1 8 σ) fun v4 =>
  if v4 = 0 then
    fX12_type_0b10 σ
  else
    fX12_type_0b12 l1 l3 σ
noncomputable def fX12_type_0 (p1 : Int64) (p2 : Int32) (σ : ST) : (Int32 × ST) := fX12_type_0b0 p1 p2 σ
noncomputable def fX12_clear_0b0 (σ : ST) : (Int32 × ST) :=
  bd (σ.1 25) fun v1 =>
  bd (sI σ 25 0) fun s7 =>
  (v1, s7)
noncomputable def fX12_clear_0  (σ : ST) : (Int32 × ST) := fX12_clear_0b0  σ
noncomputable def fX12_atFirst_0b0 (l1 : Int32) (σ : ST) : ST :=
  bd (l1 + 0) fun v6 =>
  bd (sA σ 66 (upd (σ.2.2 66) v6.toNatClampNeg 20)) fun s9 =>
  bd (l1 + 1) fun v16 =>
  bd (sA s9 66 (upd (s9.2.2 66) v16.toNatClampNeg 10)) fun s19 =>
  bd (l1 + 2) fun v26 =>
  bd (sA s19 66 (upd (s19.2.2 66) v26.toNatClampNeg 40)) fun s29 =>
  bd (l1 + 3) fun v36 =>
  bd (sA s29 66 (upd (s29.2.2 66) v36.toNatClampNeg 0)) fun s38 =>
  bd (l1 + 4) fun v45 =>
  bd (sA s38 66 (upd (s38.2.2 66) v45.toNatClampNeg 0)) fun s47 =>
  bd (l1 + 5) fun v54 =>
  bd (sA s47 66 (upd (s47.2.2 66) v54.toNatClampNeg 10)) fun s57 =>
  s57
noncomputable def fX12_atFirst_0 (p1 : Int32) (σ : ST) : ST := fX12_atFirst_0b0 p1 σ
noncomputable def fX12_here_0b28 (t0 : Int32) (σ : ST) : Int32 :=
  t0
noncomputable def fX12_here_0b27 (σ : ST) : Int32 :=
  fX12_here_0b28 (-1) σ
noncomputable def fX12_here_0b11 (σ : ST) : Int32 :=
  bd (σ.1 26) fun v16 =>
  bd (σ.2.2 67 v16.toNatClampNeg) fun v19 =>
  bd (v19 &&& 255) fun v23 =>
  fX12_here_0b28 v23 σ
noncomputable def fX12_here_0b0 (σ : ST) : Int32 :=
  bd (σ.1 26) fun v1 =>
  bd (σ.1 25) fun v5 =>
  if v5 ≤ v1 then
    fX12_here_0b27 σ
  else
    fX12_here_0b11 σ
noncomputable def fX12_here_0  (σ : ST) : Int32 := fX12_here_0b0  σ
noncomputable def fX12_more_0b22 (t0 : Int64) (σ : ST) : Int64 :=
  t0
noncomputable def fX12_more_0b8 (l0 : Int64) (l2 : Int32) (σ : ST) : Int64 :=
  bd (l0 * (27 : Int64)) fun v12 =>
  bd (l2.toInt64) fun v14 =>
  bd (v12 + v14) fun v15 =>
  bd (v15 - (97 : Int64)) fun v19 =>
  bd (v19 + (1 : Int64)) fun v21 =>
  fX12_more_0b22 v21 σ
noncomputable def fX12_more_0b4 (l0 : Int64) (σ : ST) : Int64 :=
  fX12_more_0b22 l0 σ
noncomputable def fX12_more_0b0 (l0 : Int64) (l2 : Int32) (σ : ST) : Int64 :=
  if l2 = 0 then
    fX12_more_0b4 l0 σ
  else
    fX12_more_0b8 l0 l2 σ
noncomputable def fX12_more_0 (p0 : Int64) (p1 : Int32) (σ : ST) : Int64 := fX12_more_0b0 p0 p1 σ
noncomputable def fX12_code_0b0 (l0 : Int32) (l1 : Int32) (l2 : Int32) (l3 : Int32) (l4 : Int32) (σ : ST) : Int64 :=
  bd (fX12_more_0 (0 : Int64) l0 σ) fun v2 =>
  bd (fX12_more_0 v2 l1 σ) fun v6 =>
  bd (fX12_more_0 v6 l2 σ) fun v10 =>
  bd (fX12_more_0 v10 l3 σ) fun v14 =>
  bd (fX12_more_0 v14 l4 σ) fun v19 =>
  v19
noncomputable def fX12_code_0 (p0 : Int32) (p1 : Int32) (p2 : Int32) (p3 : Int32) (p4 : Int32) (σ : ST) : Int64 := fX12_code_0b0 p0 p1 p2 p3 p4 σ
noncomputable def fX12_wordOf_0b208 (t0 : Int32) (σ : ST) : Int32 :=
  t0
noncomputable def fX12_wordOf_0b206 (l5 : Int32) (σ : ST) : Int32 :=
  fX12_wordOf_0b208 l5 σ
noncomputable def fX12_wordOf_0b201 (σ : ST) : Int32 :=
  fX12_wordOf_0b208 (-9) σ
noncomputable def fX12_wordOf_0b192 (l1 : Int32) (l2 : Int32) (t0 : Int32) (σ : ST) : Int32 :=
  bd (l2 - l1) fun v196 =>
  if v196 ≤ 5 then
    fX12_wordOf_0b206 t0 σ
  else
    fX12_wordOf_0b201 σ
noncomputable def fX12_wordOf_0b190 (l1 : Int32) (l2 : Int32) (l5 : Int32) (σ : ST) : Int32 :=
  fX12_wordOf_0b192 l1 l2 l5 σ
noncomputable def fX12_wordOf_0b186 (l1 : Int32) (l2 : Int32) (σ : ST) : Int32 :=
  fX12_wordOf_0b192 l1 l2 5 σ
noncomputable def fX12_wordOf_0b166 (l1 : Int32) (l2 : Int32) (l3 : Int64) (t0 : Int32) (σ : ST) : Int32 :=
  bd (fX12_code_0 116 119 105 99 101 σ) fun v179 =>
  bd (lg_cmp l3 v179) fun v182 =>
  if v182 = 0 then
    fX12_wordOf_0b186 l1 l2 σ
  else
    fX12_wordOf_0b190 l1 l2 t0 σ
noncomputable def fX12_wordOf_0b164 (l1 : Int32) (l2 : Int32) (l3 : Int64) (l5 : Int32) (σ : ST) : Int32 :=
  fX12_wordOf_0b166 l1 l2 l3 l5 σ
noncomputable def fX12_wordOf_0b160 (l1 : Int32) (l2 : Int32) (l3 : Int64) (σ : ST) : Int32 :=
  fX12_wordOf_0b166 l1 l2 l3 4 σ
noncomputable def fX12_wordOf_0b141 (l1 : Int32) (l2 : Int32) (l3 : Int64) (t0 : Int32) (σ : ST) : Int32 :=
  bd (fX12_code_0 116 117 114 110 0 σ) fun v153 =>
  bd (lg_cmp l3 v153) fun v156 =>
  if v156 = 0 then
    fX12_wordOf_0b160 l1 l2 l3 σ
  else
    fX12_wordOf_0b164 l1 l2 l3 t0 σ
noncomputable def fX12_wordOf_0b139 (l1 : Int32) (l2 : Int32) (l3 : Int64) (l5 : Int32) (σ : ST) : Int32 :=
  fX12_wordOf_0b141 l1 l2 l3 l5 σ
noncomputable def fX12_wordOf_0b135 (l1 : Int32) (l2 : Int32) (l3 : Int64) (σ : ST) : Int32 :=
  fX12_wordOf_0b141 l1 l2 l3 3 σ
noncomputable def fX12_wordOf_0b116 (l1 : Int32) (l2 : Int32) (l3 : Int64) (t0 : Int32) (σ : ST) : Int32 :=
  bd (fX12_code_0 110 101 97 114 0 σ) fun v128 =>
  bd (lg_cmp l3 v128) fun v131 =>
  if v131 = 0 then
    fX12_wordOf_0b135 l1 l2 l3 σ
  else
    fX12_wordOf_0b139 l1 l2 l3 t0 σ
noncomputable def fX12_wordOf_0b114 (l1 : Int32) (l2 : Int32) (l3 : Int64) (l5 : Int32) (σ : ST) : Int32 :=
  fX12_wordOf_0b116 l1 l2 l3 l5 σ
noncomputable def fX12_wordOf_0b110 (l1 : Int32) (l2 : Int32) (l3 : Int64) (σ : ST) : Int32 :=
  fX12_wordOf_0b116 l1 l2 l3 2 σ
noncomputable def fX12_wordOf_0b91 (l1 : Int32) (l2 : Int32) (l3 : Int64) (t0 : Int32) (σ : ST) : Int32 :=
  bd (fX12_code_0 108 105 107 101 0 σ) fun v103 =>
  bd (lg_cmp l3 v103) fun v106 =>
  if v106 = 0 then
    fX12_wordOf_0b110 l1 l2 l3 σ
  else
    fX12_wordOf_0b114 l1 l2 l3 t0 σ
noncomputable def fX12_wordOf_0b89 (l1 : Int32) (l2 : Int32) (l3 : Int64) (l5 : Int32) (σ : ST) : Int32 :=
  fX12_wordOf_0b91 l1 l2 l3 l5 σ
noncomputable def fX12_wordOf_0b85 (l1 : Int32) (l2 : Int32) (l3 : Int64) (σ : ST) : Int32 :=
  fX12_wordOf_0b91 l1 l2 l3 1 σ
noncomputable def fX12_wordOf_0b66 (l1 : Int32) (l2 : Int32) (l3 : Int64) (t0 : Int32) (σ : ST) : Int32 :=
  bd (fX12_code_0 104 117 115 104 0 σ) fun v78 =>
  bd (lg_cmp l3 v78) fun v81 =>
  if v81 = 0 then
    fX12_wordOf_0b85 l1 l2 l3 σ
  else
    fX12_wordOf_0b89 l1 l2 l3 t0 σ
noncomputable def fX12_wordOf_0b64 (l1 : Int32) (l2 : Int32) (l3 : Int64) (l5 : Int32) (σ : ST) : Int32 :=
  fX12_wordOf_0b66 l1 l2 l3 l5 σ
noncomputable def fX12_wordOf_0b60 (l1 : Int32) (l2 : Int32) (l3 : Int64) (σ : ST) : Int32 :=
  fX12_wordOf_0b66 l1 l2 l3 0 σ
noncomputable def fX12_wordOf_0b38 (l1 : Int32) (l2 : Int32) (l3 : Int64) (σ : ST) : Int32 :=
  bd (fX12_code_0 112 114 105 99 101 σ) fun v53 =>
  bd (lg_cmp l3 v53) fun v56 =>
  if v56 = 0 then
    fX12_wordOf_0b60 l1 l2 l3 σ
  else
    fX12_wordOf_0b64 l1 l2 l3 (-9) σ
noncomputable def fX12_wordOf_0b20 (K5 : Int32 → Int32 → Int64 → Int32 → ST → Int32) (l1 : Int32) (l2 : Int32) (l3 : Int64) (l5 : Int32) (σ : ST) : Int32 :=
  bd (σ.2.2 67 l5.toNatClampNeg) fun v27 =>
  bd (fX12_more_0 l3 v27 σ) fun v28 =>
  bd (l5 + 1) fun v32 =>
  K5 l1 l2 v28 v32 σ
noncomputable def fX12_wordOf_0b11 (K5 : Int32 → Int32 → Int64 → Int32 → ST → Int32) (l1 : Int32) (l2 : Int32) (l3 : Int64) (l5 : Int32) (σ : ST) : Int32 :=
  bd (l1 + 6) fun v16 =>
  if v16 ≤ l5 then
    fX12_wordOf_0b38 l1 l2 l3 σ
  else
    fX12_wordOf_0b20 K5 l1 l2 l3 l5 σ
noncomputable def fX12_wordOf_0b5 (K5 : Int32 → Int32 → Int64 → Int32 → ST → Int32) (l1 : Int32) (l2 : Int32) (l3 : Int64) (l5 : Int32) (σ : ST) : Int32 :=
  if l2 ≤ l5 then
    fX12_wordOf_0b38 l1 l2 l3 σ
  else
    fX12_wordOf_0b11 K5 l1 l2 l3 l5 σ
noncomputable def fX12_wordOf_0l5 : Nat → Int32 → Int32 → Int64 → Int32 → ST → Int32
  | 0, _, _, _, _, σ => 0
  | fu + 1, l1, l2, l3, l5, σ => fX12_wordOf_0b5 (fX12_wordOf_0l5 fu) l1 l2 l3 l5 σ
noncomputable def fX12_wordOf_0b0 (l1 : Int32) (l2 : Int32) (σ : ST) : Int32 :=
  fX12_wordOf_0l5 4096 l1 l2 (0 : Int64) l1 σ
noncomputable def fX12_wordOf_0 (p1 : Int32) (p2 : Int32) (σ : ST) : Int32 := fX12_wordOf_0b0 p1 p2 σ
noncomputable def fX12_next_0b267 (σ : ST) : ST :=
  σ
noncomputable def fX12_next_0b264 (t0 : Int32) (σ : ST) : ST :=
  bd (sI σ 28 t0) fun s264 =>
  fX12_next_0b267 s264
noncomputable def fX12_next_0b263 (σ : ST) : ST :=
  fX12_next_0b264 4 σ
noncomputable def fX12_next_0b259 (σ : ST) : ST :=
  fX12_next_0b264 3 σ
noncomputable def fX12_next_0b242 (l1 : Int32) (σ : ST) : ST :=
  bd (σ.1 26) fun v244 =>
  bd (v244 + 1) fun v248 =>
  bd (sI σ 26 v248) fun s249 =>
  if l1 = 59 then
    fX12_next_0b259 s249
  else
    fX12_next_0b263 s249
noncomputable def fX12_next_0b236 (t0 : Int32) (σ : ST) : ST :=
  bd (sI σ 28 t0) fun s236 =>
  fX12_next_0b267 s236
noncomputable def fX12_next_0b231 (σ : ST) : ST :=
  fX12_next_0b236 4 σ
noncomputable def fX12_next_0b235 (σ : ST) : ST :=
  fX12_next_0b236 2 σ
noncomputable def fX12_next_0b218 (σ : ST) : ST :=
  bd (σ.1 26) fun v219 =>
  bd (σ.1 27) fun v223 =>
  bd (v219 - v223) fun v226 =>
  if v226 ≤ 1 then
    fX12_next_0b235 σ
  else
    fX12_next_0b231 σ
noncomputable def fX12_next_0b212 (l1 : Int32) (σ : ST) : ST :=
  if l1 = 48 then
    fX12_next_0b218 σ
  else
    fX12_next_0b235 σ
noncomputable def fX12_next_0b201 (l1 : Int32) (σ : ST) : ST :=
  bd (σ.1 29) fun v203 =>
  if 9999 < v203 then
    fX12_next_0b231 σ
  else
    fX12_next_0b212 l1 σ
noncomputable def fX12_next_0b185 (K138 : Int32 → ST → ST) (l1 : Int32) (t0 : Int32) (σ : ST) : ST :=
  bd (sI σ 29 t0) fun s185 =>
  bd (s185.1 26) fun v190 =>
  bd (v190 + 1) fun v194 =>
  bd (sI s185 26 v194) fun s195 =>
  K138 l1 s195
noncomputable def fX12_next_0b170 (K138 : Int32 → ST → ST) (l1 : Int32) (σ : ST) : ST :=
  bd (σ.1 29) fun v173 =>
  bd ((10 : Int32) * v173) fun v176 =>
  bd (fX12_here_0 σ) fun v178 =>
  bd (v176 + v178) fun v181 =>
  bd (v181 - 48) fun v184 =>
  fX12_next_0b185 K138 l1 v184 σ
noncomputable def fX12_next_0b163 (K138 : Int32 → ST → ST) (l1 : Int32) (σ : ST) : ST :=
  bd (σ.1 29) fun v164 =>
  fX12_next_0b185 K138 l1 v164 σ
noncomputable def fX12_next_0b152 (K138 : Int32 → ST → ST) (l1 : Int32) (σ : ST) : ST :=
  bd (σ.1 29) fun v154 =>
  if v154 ≤ 9999 then
    fX12_next_0b170 K138 l1 σ
  else
    fX12_next_0b163 K138 l1 σ
noncomputable def fX12_next_0b138 (K138 : Int32 → ST → ST) (l1 : Int32) (σ : ST) : ST :=
  bd (fX12_here_0 σ) fun v139 =>
  bd (fX12_in_0 v139 48 57 σ) fun v146 =>
  if v146 = 0 then
    fX12_next_0b201 l1 σ
  else
    fX12_next_0b152 K138 l1 σ
noncomputable def fX12_next_0l138 : Nat → Int32 → ST → ST
  | 0, _, σ => σ
  | fu + 1, l1, σ => fX12_next_0b138 (fX12_next_0l138 fu) l1 σ
noncomputable def fX12_next_0b127 (l1 : Int32) (σ : ST) : ST :=
  bd (fX12_in_0 l1 48 57 σ) fun v132 =>
  if v132 = 0 then
    fX12_next_0b242 l1 σ
  else
    fX12_next_0l138 4096 l1 σ
noncomputable def fX12_next_0b121 (t0 : Int32) (σ : ST) : ST :=
  bd (sI σ 28 t0) fun s121 =>
  fX12_next_0b267 s121
noncomputable def fX12_next_0b120 (σ : ST) : ST :=
  fX12_next_0b121 1 σ
noncomputable def fX12_next_0b116 (σ : ST) : ST :=
  fX12_next_0b121 4 σ
noncomputable def fX12_next_0b90 (σ : ST) : ST :=
  bd (σ.1 27) fun v93 =>
  bd (σ.1 26) fun v97 =>
  bd (fX12_wordOf_0 v93 v97 σ) fun v100 =>
  bd (sI σ 29 v100) fun s103 =>
  bd (s103.1 29) fun v108 =>
  if v108 = (-9) then
    fX12_next_0b116 s103
  else
    fX12_next_0b120 s103
noncomputable def fX12_next_0b77 (K63 : ST → ST) (σ : ST) : ST :=
  bd (σ.1 26) fun v79 =>
  bd (v79 + 1) fun v83 =>
  bd (sI σ 26 v83) fun s84 =>
  K63 s84
noncomputable def fX12_next_0b63 (K63 : ST → ST) (σ : ST) : ST :=
  bd (fX12_here_0 σ) fun v64 =>
  bd (fX12_in_0 v64 97 122 σ) fun v71 =>
  if v71 = 0 then
    fX12_next_0b90 σ
  else
    fX12_next_0b77 K63 σ
noncomputable def fX12_next_0l63 : Nat → ST → ST
  | 0, σ => σ
  | fu + 1, σ => fX12_next_0b63 (fX12_next_0l63 fu) σ
noncomputable def fX12_next_0b52 (l1 : Int32) (σ : ST) : ST :=
  bd (fX12_in_0 l1 97 122 σ) fun v57 =>
  if v57 = 0 then
    fX12_next_0b127 l1 σ
  else
    fX12_next_0l63 4096 σ
noncomputable def fX12_next_0b44 (σ : ST) : ST :=
  bd (sI σ 28 0) fun s46 =>
  fX12_next_0b267 s46
noncomputable def fX12_next_0b22 (σ : ST) : ST :=
  bd (σ.1 26) fun v24 =>
  bd (sI σ 27 v24) fun s27 =>
  bd (sI s27 29 0) fun s32 =>
  bd (fX12_here_0 s32) fun v36 =>
  if 0 ≤ v36 then
    fX12_next_0b52 v36 s32
  else
    fX12_next_0b44 s32
noncomputable def fX12_next_0b9 (K0 : ST → ST) (σ : ST) : ST :=
  bd (σ.1 26) fun v11 =>
  bd (v11 + 1) fun v15 =>
  bd (sI σ 26 v15) fun s16 =>
  K0 s16
noncomputable def fX12_next_0b0 (K0 : ST → ST) (σ : ST) : ST :=
  bd (fX12_here_0 σ) fun v1 =>
  if v1 = 32 then
    fX12_next_0b9 K0 σ
  else
    fX12_next_0b22 σ
noncomputable def fX12_next_0l0 : Nat → ST → ST
  | 0, σ => σ
  | fu + 1, σ => fX12_next_0b0 (fX12_next_0l0 fu) σ
noncomputable def fX12_next_0  (σ : ST) : ST := fX12_next_0l0 4096  σ
noncomputable def fX12_due_0b33 (l2 : Int32) (σ : ST) : (Int32 × ST) :=
  (l2, σ)
noncomputable def fX12_due_0b25 (l2 : Int32) (σ : ST) : (Int32 × ST) :=
  bd (σ.1 27) fun v27 =>
  bd (sI σ 30 v27) fun s30 =>
  fX12_due_0b33 l2 s30
noncomputable def fX12_due_0b18 (l2 : Int32) (σ : ST) : (Int32 × ST) :=
  bd (fX12_next_0 σ) fun s19 =>
  fX12_due_0b33 l2 s19
noncomputable def fX12_due_0b14 (l1 : Int32) (l2 : Int32) (σ : ST) : (Int32 × ST) :=
  if l1 = 0 then
    fX12_due_0b25 l2 σ
  else
    fX12_due_0b18 l2 σ
noncomputable def fX12_due_0b0 (l1 : Int32) (σ : ST) : (Int32 × ST) :=
  bd (σ.1 29) fun v1 =>
  bd (σ.1 30) fun v6 =>
  if v6 = (-9) then
    fX12_due_0b14 l1 v1 σ
  else
    fX12_due_0b33 v1 σ
noncomputable def fX12_due_0 (p1 : Int32) (σ : ST) : (Int32 × ST) := fX12_due_0b0 p1 σ
noncomputable def fX12_most_0b29 (t0 : Int32) (σ : ST) : Int32 :=
  t0
noncomputable def fX12_most_0b9 (σ : ST) : Int32 :=
  fX12_most_0b29 999 σ
noncomputable def fX12_most_0b26 (σ : ST) : Int32 :=
  fX12_most_0b29 399 σ
noncomputable def fX12_most_0b20 (σ : ST) : Int32 :=
  fX12_most_0b29 9999 σ
noncomputable def fX12_most_0b15 (l0 : Int32) (σ : ST) : Int32 :=
  if l0 = 3 then
    fX12_most_0b20 σ
  else
    fX12_most_0b26 σ
noncomputable def fX12_most_0b4 (l0 : Int32) (σ : ST) : Int32 :=
  if l0 = 4 then
    fX12_most_0b9 σ
  else
    fX12_most_0b15 l0 σ
noncomputable def fX12_most_0b0 (l0 : Int32) (σ : ST) : Int32 :=
  if l0 = 0 then
    fX12_most_0b9 σ
  else
    fX12_most_0b4 l0 σ
noncomputable def fX12_most_0 (p0 : Int32) (σ : ST) : Int32 := fX12_most_0b0 p0 σ
noncomputable def fX12_rules_0b196 (l2 : Int32) (σ : ST) : (Int32 × ST) :=
  bd (sI σ 25 0) fun s198 =>
  (l2, s198)
noncomputable def fX12_rules_0b175 (K169 : Int32 → Int32 → ST → (Int32 × ST)) (l2 : Int32) (l3 : Int32) (σ : ST) : (Int32 × ST) :=
  bd ((6 : Int32) + l3) fun v187 =>
  bd (σ.2.2 66 v187.toNatClampNeg) fun v188 =>
  bd (sA σ 66 (upd (σ.2.2 66) l3.toNatClampNeg v188)) fun s189 =>
  bd (l3 + 1) fun v190 =>
  K169 l2 v190 s189
noncomputable def fX12_rules_0b169 (K169 : Int32 → Int32 → ST → (Int32 × ST)) (l2 : Int32) (l3 : Int32) (σ : ST) : (Int32 × ST) :=
  if 6 ≤ l3 then
    fX12_rules_0b196 l2 σ
  else
    fX12_rules_0b175 K169 l2 l3 σ
noncomputable def fX12_rules_0l169 : Nat → Int32 → Int32 → ST → (Int32 × ST)
  | 0, _, _, σ => (0, σ)
  | fu + 1, l2, l3, σ => fX12_rules_0b169 (fX12_rules_0l169 fu) l2 l3 σ
noncomputable def fX12_rules_0b167 (l2 : Int32) (σ : ST) : (Int32 × ST) :=
  fX12_rules_0l169 4096 l2 0 σ
noncomputable def fX12_rules_0b159 (σ : ST) : (Int32 × ST) :=
  bd (σ.1 30) fun v162 =>
  bd ((-10 : Int32) - v162) fun v165 =>
  (v165, σ)
noncomputable def fX12_rules_0b150 (l2 : Int32) (σ : ST) : (Int32 × ST) :=
  bd (σ.1 30) fun v151 =>
  if v151 = (-9) then
    fX12_rules_0b167 l2 σ
  else
    fX12_rules_0b159 σ
noncomputable def fX12_rules_0b147 (K25 : Int32 → Int32 → ST → (Int32 × ST)) (l1 : Int32) (l2 : Int32) (σ : ST) : (Int32 × ST) :=
  K25 l1 l2 σ
noncomputable def fX12_rules_0b129 (K25 : Int32 → Int32 → ST → (Int32 × ST)) (l1 : Int32) (l2 : Int32) (l3 : Int32) (l4 : Int32) (t0 : Int32) (σ : ST) : (Int32 × ST) :=
  bp (fX12_due_0 t0 σ) fun v129 s129 =>
  bd ((6 : Int32) + l3) fun v140 =>
  bd (sA s129 66 (upd (s129.2.2 66) v140.toNatClampNeg l4)) fun s143 =>
  bd (l2 + 1) fun v144 =>
  fX12_rules_0b147 K25 l1 v144 s143
noncomputable def fX12_rules_0b128 (K25 : Int32 → Int32 → ST → (Int32 × ST)) (l1 : Int32) (l2 : Int32) (l3 : Int32) (l4 : Int32) (σ : ST) : (Int32 × ST) :=
  fX12_rules_0b129 K25 l1 l2 l3 l4 0 σ
noncomputable def fX12_rules_0b124 (K25 : Int32 → Int32 → ST → (Int32 × ST)) (l1 : Int32) (l2 : Int32) (l3 : Int32) (l4 : Int32) (σ : ST) : (Int32 × ST) :=
  fX12_rules_0b129 K25 l1 l2 l3 l4 1 σ
noncomputable def fX12_rules_0b110 (K25 : Int32 → Int32 → ST → (Int32 × ST)) (l1 : Int32) (l2 : Int32) (l3 : Int32) (t0 : Int32) (σ : ST) : (Int32 × ST) :=
  bp (fX12_due_0 t0 σ) fun v110 s110 =>
  bd (s110.1 28) fun v117 =>
  if v117 = 3 then
    fX12_rules_0b124 K25 l1 l2 l3 v110 s110
  else
    fX12_rules_0b128 K25 l1 l2 l3 v110 s110
noncomputable def fX12_rules_0b109 (K25 : Int32 → Int32 → ST → (Int32 × ST)) (l1 : Int32) (l2 : Int32) (l3 : Int32) (σ : ST) : (Int32 × ST) :=
  fX12_rules_0b110 K25 l1 l2 l3 0 σ
noncomputable def fX12_rules_0b105 (K25 : Int32 → Int32 → ST → (Int32 × ST)) (l1 : Int32) (l2 : Int32) (l3 : Int32) (σ : ST) : (Int32 × ST) :=
  fX12_rules_0b110 K25 l1 l2 l3 1 σ
noncomputable def fX12_rules_0b94 (K25 : Int32 → Int32 → ST → (Int32 × ST)) (l1 : Int32) (l2 : Int32) (l3 : Int32) (σ : ST) : (Int32 × ST) :=
  bd (σ.1 29) fun v95 =>
  bd (fX12_most_0 l3 σ) fun v99 =>
  if v99 < v95 then
    fX12_rules_0b109 K25 l1 l2 l3 σ
  else
    fX12_rules_0b105 K25 l1 l2 l3 σ
noncomputable def fX12_rules_0b79 (K25 : Int32 → Int32 → ST → (Int32 × ST)) (l1 : Int32) (l2 : Int32) (l3 : Int32) (σ : ST) : (Int32 × ST) :=
  bd ((1 : Int32) <<< (l3 &&& 31)) fun v82 =>
  bd (l1 ||| v82) fun v83 =>
  bd (σ.1 28) fun v87 =>
  if v87 = 2 then
    fX12_rules_0b94 K25 v83 l2 l3 σ
  else
    fX12_rules_0b109 K25 v83 l2 l3 σ
noncomputable def fX12_rules_0b66 (K25 : Int32 → Int32 → ST → (Int32 × ST)) (l1 : Int32) (l2 : Int32) (t0 : Int32) (σ : ST) : (Int32 × ST) :=
  bp (fX12_due_0 t0 σ) fun v66 s66 =>
  bd (s66.1 30) fun v71 =>
  if v71 = (-9) then
    fX12_rules_0b79 K25 l1 l2 v66 s66
  else
    fX12_rules_0b147 K25 l1 l2 s66
noncomputable def fX12_rules_0b65 (K25 : Int32 → Int32 → ST → (Int32 × ST)) (l1 : Int32) (l2 : Int32) (σ : ST) : (Int32 × ST) :=
  fX12_rules_0b66 K25 l1 l2 0 σ
noncomputable def fX12_rules_0b61 (K25 : Int32 → Int32 → ST → (Int32 × ST)) (l1 : Int32) (l2 : Int32) (σ : ST) : (Int32 × ST) :=
  fX12_rules_0b66 K25 l1 l2 1 σ
noncomputable def fX12_rules_0b50 (K25 : Int32 → Int32 → ST → (Int32 × ST)) (l1 : Int32) (l2 : Int32) (σ : ST) : (Int32 × ST) :=
  bd (σ.1 29) fun v52 =>
  bd (l1 >>> (v52 &&& 31)) fun v55 =>
  bd (v55 &&& 1) fun v57 =>
  if v57 = 0 then
    fX12_rules_0b61 K25 l1 l2 σ
  else
    fX12_rules_0b65 K25 l1 l2 σ
noncomputable def fX12_rules_0b41 (K25 : Int32 → Int32 → ST → (Int32 × ST)) (l1 : Int32) (l2 : Int32) (σ : ST) : (Int32 × ST) :=
  bd (σ.1 28) fun v43 =>
  if v43 = 1 then
    fX12_rules_0b50 K25 l1 l2 σ
  else
    fX12_rules_0b65 K25 l1 l2 σ
noncomputable def fX12_rules_0b34 (K25 : Int32 → Int32 → ST → (Int32 × ST)) (l1 : Int32) (l2 : Int32) (σ : ST) : (Int32 × ST) :=
  bd (σ.1 28) fun v35 =>
  if v35 = 0 then
    fX12_rules_0b150 l2 σ
  else
    fX12_rules_0b41 K25 l1 l2 σ
noncomputable def fX12_rules_0b25 (K25 : Int32 → Int32 → ST → (Int32 × ST)) (l1 : Int32) (l2 : Int32) (σ : ST) : (Int32 × ST) :=
  bd (σ.1 30) fun v26 =>
  if v26 = (-9) then
    fX12_rules_0b34 K25 l1 l2 σ
  else
    fX12_rules_0b150 l2 σ
noncomputable def fX12_rules_0l25 : Nat → Int32 → Int32 → ST → (Int32 × ST)
  | 0, _, _, σ => (0, σ)
  | fu + 1, l1, l2, σ => fX12_rules_0b25 (fX12_rules_0l25 fu) l1 l2 σ
noncomputable def fX12_rules_0b0 (σ : ST) : (Int32 × ST) :=
  bd (sI σ 26 0) fun s2 =>
  bd (sI s2 30 (-9)) fun s8 =>
  bd (fX12_atFirst_0 6 s8) fun s18 =>
  bd (fX12_next_0 s18) fun s22 =>
  fX12_rules_0l25 4096 0 0 s22
noncomputable def fX12_rules_0  (σ : ST) : (Int32 × ST) := fX12_rules_0b0  σ
noncomputable def fX12_rule_0b19 (t0 : Int32) (σ : ST) : Int32 :=
  t0
noncomputable def fX12_rule_0b18 (σ : ST) : Int32 :=
  fX12_rule_0b19 (-1) σ
noncomputable def fX12_rule_0b9 (l1 : Int32) (σ : ST) : Int32 :=
  bd (σ.2.2 66 l1.toNatClampNeg) fun v14 =>
  fX12_rule_0b19 v14 σ
noncomputable def fX12_rule_0b0 (l1 : Int32) (σ : ST) : Int32 :=
  bd (fX12_in_0 l1 0 5 σ) fun v3 =>
  if v3 = 0 then
    fX12_rule_0b18 σ
  else
    fX12_rule_0b9 l1 σ
noncomputable def fX12_rule_0 (p1 : Int32) (σ : ST) : Int32 := fX12_rule_0b0 p1 σ
noncomputable def fX12_addRow_0b0 (l1 : Int32) (l2 : Int32) (l3 : Int32) (l4 : Int32) (l5 : Int32) (σ : ST) : ST :=
  bd (σ.1 31) fun v6 =>
  bd ((4 : Int32) * v6) fun v9 =>
  bd (sA σ 68 (upd (σ.2.2 68) v9.toNatClampNeg l1)) fun s11 =>
  bd (s11.1 31) fun v18 =>
  bd ((4 : Int32) * v18) fun v21 =>
  bd (v21 + 1) fun v23 =>
  bd (sA s11 68 (upd (s11.2.2 68) v23.toNatClampNeg l2)) fun s25 =>
  bd (s25.1 31) fun v32 =>
  bd ((4 : Int32) * v32) fun v35 =>
  bd (v35 + 2) fun v37 =>
  bd (sA s25 68 (upd (s25.2.2 68) v37.toNatClampNeg l3)) fun s39 =>
  bd (s39.1 31) fun v46 =>
  bd ((4 : Int32) * v46) fun v49 =>
  bd (v49 + 3) fun v51 =>
  bd (sA s39 68 (upd (s39.2.2 68) v51.toNatClampNeg l4)) fun s54 =>
  bd (s54.1 31) fun v60 =>
  bd (sA s54 69 (upd (s54.2.2 69) v60.toNatClampNeg (vp_nar .boolean l5))) fun s65 =>
  bd (s65.1 31) fun v71 =>
  bd (sA s65 70 (upd (s65.2.2 70) v71.toNatClampNeg (vp_nar .boolean 0))) fun s75 =>
  bd (s75.1 31) fun v81 =>
  bd (sA s75 71 (upd (s75.2.2 71) v81.toNatClampNeg 0)) fun s85 =>
  bd (s85.1 31) fun v88 =>
  bd (v88 + 1) fun v92 =>
  bd (sI s85 31 v92) fun s93 =>
  s93
noncomputable def fX12_addRow_0 (p1 : Int32) (p2 : Int32) (p3 : Int32) (p4 : Int32) (p5 : Int32) (σ : ST) : ST := fX12_addRow_0b0 p1 p2 p3 p4 p5 σ
noncomputable def fX12_row_0b41 (σ : ST) : (Int32 × ST) :=
  ((-1), σ)
noncomputable def fX12_row_0b55 (l1 : Int32) (l2 : Int32) (l3 : Int32) (l4 : Int32) (σ : ST) : (Int32 × ST) :=
  bd (fX12_addRow_0 l1 l2 l3 l4 0 σ) fun s62 =>
  bd (s62.1 31) fun v66 =>
  bd (v66 - 1) fun v70 =>
  (v70, s62)
noncomputable def fX12_row_0b52 (σ : ST) : (Int32 × ST) :=
  ((-3), σ)
noncomputable def fX12_row_0b43 (l1 : Int32) (l2 : Int32) (l3 : Int32) (l4 : Int32) (σ : ST) : (Int32 × ST) :=
  bd (σ.1 31) fun v44 =>
  if v44 = 48 then
    fX12_row_0b52 σ
  else
    fX12_row_0b55 l1 l2 l3 l4 σ
noncomputable def fX12_row_0b30 (l1 : Int32) (l2 : Int32) (l3 : Int32) (l4 : Int32) (σ : ST) : (Int32 × ST) :=
  bd (fX12_in_0 l4 0 99 σ) fun v35 =>
  if v35 = 0 then
    fX12_row_0b41 σ
  else
    fX12_row_0b43 l1 l2 l3 l4 σ
noncomputable def fX12_row_0b20 (l1 : Int32) (l2 : Int32) (l3 : Int32) (l4 : Int32) (σ : ST) : (Int32 × ST) :=
  bd (fX12_in_0 l3 0 99 σ) fun v24 =>
  if v24 = 0 then
    fX12_row_0b41 σ
  else
    fX12_row_0b30 l1 l2 l3 l4 σ
noncomputable def fX12_row_0b10 (l1 : Int32) (l2 : Int32) (l3 : Int32) (l4 : Int32) (σ : ST) : (Int32 × ST) :=
  bd (fX12_in_0 l2 0 99 σ) fun v14 =>
  if v14 = 0 then
    fX12_row_0b41 σ
  else
    fX12_row_0b20 l1 l2 l3 l4 σ
noncomputable def fX12_row_0b0 (l1 : Int32) (l2 : Int32) (l3 : Int32) (l4 : Int32) (σ : ST) : (Int32 × ST) :=
  bd (fX12_in_0 l1 0 99 σ) fun v4 =>
  if v4 = 0 then
    fX12_row_0b41 σ
  else
    fX12_row_0b10 l1 l2 l3 l4 σ
noncomputable def fX12_row_0 (p1 : Int32) (p2 : Int32) (p3 : Int32) (p4 : Int32) (σ : ST) : (Int32 × ST) := fX12_row_0b0 p1 p2 p3 p4 σ
noncomputable def fX12_deaf_0b48 (σ : ST) : (Int32 × ST) :=
  bd (σ.1 31) fun v49 =>
  (v49, σ)
noncomputable def fX12_deaf_0b33 (K28 : Int32 → Int32 → ST → (Int32 × ST)) (l1 : Int32) (l2 : Int32) (σ : ST) : (Int32 × ST) :=
  bd (fX12_addRow_0 0 0 0 0 1 σ) fun s39 =>
  bd (l2 + 1) fun v42 =>
  K28 l1 v42 s39
noncomputable def fX12_deaf_0b28 (K28 : Int32 → Int32 → ST → (Int32 × ST)) (l1 : Int32) (l2 : Int32) (σ : ST) : (Int32 × ST) :=
  if l1 ≤ l2 then
    fX12_deaf_0b48 σ
  else
    fX12_deaf_0b33 K28 l1 l2 σ
noncomputable def fX12_deaf_0l28 : Nat → Int32 → Int32 → ST → (Int32 × ST)
  | 0, _, _, σ => (0, σ)
  | fu + 1, l1, l2, σ => fX12_deaf_0b28 (fX12_deaf_0l28 fu) l1 l2 σ
noncomputable def fX12_deaf_0b26 (l1 : Int32) (σ : ST) : (Int32 × ST) :=
  fX12_deaf_0l28 4096 l1 0 σ
noncomputable def fX12_deaf_0b23 (σ : ST) : (Int32 × ST) :=
  ((-3), σ)
noncomputable def fX12_deaf_0b12 (l1 : Int32) (σ : ST) : (Int32 × ST) :=
  bd (σ.1 31) fun v13 =>
  bd (v13 + l1) fun v17 =>
  if v17 ≤ 48 then
    fX12_deaf_0b26 l1 σ
  else
    fX12_deaf_0b23 σ
noncomputable def fX12_deaf_0b10 (σ : ST) : (Int32 × ST) :=
  ((-1), σ)
noncomputable def fX12_deaf_0b0 (l1 : Int32) (σ : ST) : (Int32 × ST) :=
  bd (fX12_in_0 l1 1 9 σ) fun v4 =>
  if v4 = 0 then
    fX12_deaf_0b10 σ
  else
    fX12_deaf_0b12 l1 σ
noncomputable def fX12_deaf_0 (p1 : Int32) (σ : ST) : (Int32 × ST) := fX12_deaf_0b0 p1 σ
noncomputable def fX12_isRow_0b0 (l1 : Int32) (σ : ST) : Int32 :=
  bd (σ.1 31) fun v3 =>
  bd (v3 - 1) fun v7 =>
  bd (fX12_in_0 l1 0 v7 σ) fun v8 =>
  v8
noncomputable def fX12_isRow_0 (p1 : Int32) (σ : ST) : Int32 := fX12_isRow_0b0 p1 σ
noncomputable def fX12_areRows_0b27 (t0 : Int32) (σ : ST) : Int32 :=
  t0
noncomputable def fX12_areRows_0b26 (σ : ST) : Int32 :=
  fX12_areRows_0b27 0 σ
noncomputable def fX12_areRows_0b22 (σ : ST) : Int32 :=
  fX12_areRows_0b27 1 σ
noncomputable def fX12_areRows_0b8 (l1 : Int32) (l2 : Int32) (σ : ST) : Int32 :=
  bd (σ.1 31) fun v11 =>
  bd (v11 - 1) fun v15 =>
  bd (fX12_in_0 l2 l1 v15 σ) fun v16 =>
  if v16 = 0 then
    fX12_areRows_0b26 σ
  else
    fX12_areRows_0b22 σ
noncomputable def fX12_areRows_0b0 (l1 : Int32) (l2 : Int32) (σ : ST) : Int32 :=
  bd (fX12_isRow_0 l1 σ) fun v2 =>
  if v2 = 0 then
    fX12_areRows_0b26 σ
  else
    fX12_areRows_0b8 l1 l2 σ
noncomputable def fX12_areRows_0 (p1 : Int32) (p2 : Int32) (σ : ST) : Int32 := fX12_areRows_0b0 p1 p2 σ
noncomputable def fX12_out_0b18 (σ : ST) : (Int32 × ST) :=
  ((-1), σ)
noncomputable def fX12_out_0b85 (l4 : Int32) (σ : ST) : (Int32 × ST) :=
  (l4, σ)
noncomputable def fX12_out_0b78 (K26 : Int32 → Int32 → Int32 → Int32 → ST → (Int32 × ST)) (l2 : Int32) (l3 : Int32) (l4 : Int32) (l5 : Int32) (t0 : Int32) (t1 : Int32) (σ : ST) : (Int32 × ST) :=
  bd (sA σ 70 (upd (σ.2.2 70) t1.toNatClampNeg (vp_nar .boolean t0))) fun s78 =>
  bd (l5 + 1) fun v79 =>
  K26 l2 l3 l4 v79 s78
noncomputable def fX12_out_0b77 (K26 : Int32 → Int32 → Int32 → Int32 → ST → (Int32 × ST)) (l2 : Int32) (l3 : Int32) (l4 : Int32) (l5 : Int32) (t0 : Int32) (σ : ST) : (Int32 × ST) :=
  fX12_out_0b78 K26 l2 l3 l4 l5 0 t0 σ
noncomputable def fX12_out_0b73 (K26 : Int32 → Int32 → Int32 → Int32 → ST → (Int32 × ST)) (l2 : Int32) (l3 : Int32) (l4 : Int32) (l5 : Int32) (t0 : Int32) (σ : ST) : (Int32 × ST) :=
  fX12_out_0b78 K26 l2 l3 l4 l5 1 t0 σ
noncomputable def fX12_out_0b59 (K26 : Int32 → Int32 → Int32 → Int32 → ST → (Int32 × ST)) (l2 : Int32) (l3 : Int32) (l5 : Int32) (t0 : Int32) (t1 : Int32) (σ : ST) : (Int32 × ST) :=
  bd (t1 + t0) fun v59 =>
  if l3 = 1 then
    fX12_out_0b73 K26 l2 l3 v59 l5 l5 σ
  else
    fX12_out_0b77 K26 l2 l3 v59 l5 l5 σ
noncomputable def fX12_out_0b58 (K26 : Int32 → Int32 → Int32 → Int32 → ST → (Int32 × ST)) (l2 : Int32) (l3 : Int32) (l5 : Int32) (t0 : Int32) (σ : ST) : (Int32 × ST) :=
  fX12_out_0b59 K26 l2 l3 l5 1 t0 σ
noncomputable def fX12_out_0b54 (K26 : Int32 → Int32 → Int32 → Int32 → ST → (Int32 × ST)) (l2 : Int32) (l3 : Int32) (l5 : Int32) (t0 : Int32) (σ : ST) : (Int32 × ST) :=
  fX12_out_0b59 K26 l2 l3 l5 0 t0 σ
noncomputable def fX12_out_0b51 (K26 : Int32 → Int32 → Int32 → Int32 → ST → (Int32 × ST)) (l2 : Int32) (l3 : Int32) (l5 : Int32) (t0 : Int32) (t1 : Int32) (t2 : Int32) (σ : ST) : (Int32 × ST) :=
  if t1 = t0 then
    fX12_out_0b54 K26 l2 l3 l5 t2 σ
  else
    fX12_out_0b58 K26 l2 l3 l5 t2 σ
noncomputable def fX12_out_0b50 (K26 : Int32 → Int32 → Int32 → Int32 → ST → (Int32 × ST)) (l2 : Int32) (l3 : Int32) (l5 : Int32) (t0 : Int32) (t1 : Int32) (σ : ST) : (Int32 × ST) :=
  fX12_out_0b51 K26 l2 l3 l5 0 t0 t1 σ
noncomputable def fX12_out_0b46 (K26 : Int32 → Int32 → Int32 → Int32 → ST → (Int32 × ST)) (l2 : Int32) (l3 : Int32) (l5 : Int32) (t0 : Int32) (t1 : Int32) (σ : ST) : (Int32 × ST) :=
  fX12_out_0b51 K26 l2 l3 l5 1 t0 t1 σ
noncomputable def fX12_out_0b32 (K26 : Int32 → Int32 → Int32 → Int32 → ST → (Int32 × ST)) (l2 : Int32) (l3 : Int32) (l4 : Int32) (l5 : Int32) (σ : ST) : (Int32 × ST) :=
  bd (σ.2.2 70 l5.toNatClampNeg) fun v40 =>
  if l3 = 1 then
    fX12_out_0b46 K26 l2 l3 l5 v40 l4 σ
  else
    fX12_out_0b50 K26 l2 l3 l5 v40 l4 σ
noncomputable def fX12_out_0b26 (K26 : Int32 → Int32 → Int32 → Int32 → ST → (Int32 × ST)) (l2 : Int32) (l3 : Int32) (l4 : Int32) (l5 : Int32) (σ : ST) : (Int32 × ST) :=
  if l2 < l5 then
    fX12_out_0b85 l4 σ
  else
    fX12_out_0b32 K26 l2 l3 l4 l5 σ
noncomputable def fX12_out_0l26 : Nat → Int32 → Int32 → Int32 → Int32 → ST → (Int32 × ST)
  | 0, _, _, _, _, σ => (0, σ)
  | fu + 1, l2, l3, l4, l5, σ => fX12_out_0b26 (fX12_out_0l26 fu) l2 l3 l4 l5 σ
noncomputable def fX12_out_0b20 (l1 : Int32) (l2 : Int32) (l3 : Int32) (σ : ST) : (Int32 × ST) :=
  fX12_out_0l26 4096 l2 l3 0 l1 σ
noncomputable def fX12_out_0b9 (l1 : Int32) (l2 : Int32) (l3 : Int32) (σ : ST) : (Int32 × ST) :=
  bd (fX12_in_0 l3 0 1 σ) fun v12 =>
  if v12 = 0 then
    fX12_out_0b18 σ
  else
    fX12_out_0b20 l1 l2 l3 σ
noncomputable def fX12_out_0b0 (l1 : Int32) (l2 : Int32) (l3 : Int32) (σ : ST) : (Int32 × ST) :=
  bd (fX12_areRows_0 l1 l2 σ) fun v3 =>
  if v3 = 0 then
    fX12_out_0b18 σ
  else
    fX12_out_0b9 l1 l2 l3 σ
noncomputable def fX12_out_0 (p1 : Int32) (p2 : Int32) (p3 : Int32) (σ : ST) : (Int32 × ST) := fX12_out_0b0 p1 p2 p3 σ
noncomputable def fX12_hush_0b0 (σ : ST) : (Int32 × ST) :=
  bd (σ.1 31) fun v1 =>
  bd (sI σ 31 0) fun s7 =>
  bd (sI s7 32 0) fun s12 =>
  bd (sI s12 34 0) fun s17 =>
  (v1, s17)
noncomputable def fX12_hush_0  (σ : ST) : (Int32 × ST) := fX12_hush_0b0  σ
noncomputable def fX12_isHeard_0b75 (t0 : Int32) (σ : ST) : Int32 :=
  t0
noncomputable def fX12_isHeard_0b74 (σ : ST) : Int32 :=
  fX12_isHeard_0b75 0 σ
noncomputable def fX12_isHeard_0b70 (σ : ST) : Int32 :=
  fX12_isHeard_0b75 1 σ
noncomputable def fX12_isHeard_0b60 (l2 : Int32) (σ : ST) : Int32 :=
  bd (σ.2.2 66 (1 : Int32).toNatClampNeg) fun v66 =>
  if l2 < v66 then
    fX12_isHeard_0b74 σ
  else
    fX12_isHeard_0b70 σ
noncomputable def fX12_isHeard_0b51 (l1 : Int32) (l2 : Int32) (σ : ST) : Int32 :=
  bd (σ.2.2 70 l1.toNatClampNeg) fun v56 =>
  if v56 = 0 then
    fX12_isHeard_0b60 l2 σ
  else
    fX12_isHeard_0b74 σ
noncomputable def fX12_isHeard_0b0 (l1 : Int32) (σ : ST) : Int32 :=
  bd ((4 : Int32) * l1) fun v6 =>
  bd (σ.2.2 68 v6.toNatClampNeg) fun v7 =>
  bd ((4 : Int32) * l1) fun v14 =>
  bd (v14 + 1) fun v16 =>
  bd (σ.2.2 68 v16.toNatClampNeg) fun v17 =>
  bd (v7 + v17) fun v18 =>
  bd ((4 : Int32) * l1) fun v25 =>
  bd (v25 + 2) fun v27 =>
  bd (σ.2.2 68 v27.toNatClampNeg) fun v28 =>
  bd (v18 + v28) fun v29 =>
  bd ((4 : Int32) * l1) fun v36 =>
  bd (v36 + 3) fun v38 =>
  bd (σ.2.2 68 v38.toNatClampNeg) fun v39 =>
  bd (v29 + v39) fun v40 =>
  bd (σ.2.2 69 l1.toNatClampNeg) fun v47 =>
  if v47 = 0 then
    fX12_isHeard_0b51 l1 v40 σ
  else
    fX12_isHeard_0b74 σ
noncomputable def fX12_isHeard_0 (p1 : Int32) (σ : ST) : Int32 := fX12_isHeard_0b0 p1 σ
noncomputable def fX12_findMiddle_0b189 (σ : ST) : ST :=
  σ
noncomputable def fX12_findMiddle_0b183 (K7 : Int32 → ST → ST) (l1 : Int32) (σ : ST) : ST :=
  bd (l1 + 1) fun v183 =>
  K7 v183 σ
noncomputable def fX12_findMiddle_0b173 (K7 : Int32 → ST → ST) (K135 : Int32 → Int32 → Int32 → ST → ST) (l1 : Int32) (l2 : Int32) (l3 : Int32) (t0 : Int32) (t1 : Int32) (σ : ST) : ST :=
  bd (t1 + t0) fun v173 =>
  bd (sI σ 38 v173) fun s174 =>
  bd (l3 + 1) fun v177 =>
  K135 l1 l2 v177 s174
noncomputable def fX12_findMiddle_0b171 (K7 : Int32 → ST → ST) (K135 : Int32 → Int32 → Int32 → ST → ST) (l1 : Int32) (l2 : Int32) (l3 : Int32) (l4 : Int32) (t0 : Int32) (σ : ST) : ST :=
  fX12_findMiddle_0b173 K7 K135 l1 l2 l3 l4 t0 σ
noncomputable def fX12_findMiddle_0b165 (K7 : Int32 → ST → ST) (K135 : Int32 → Int32 → Int32 → ST → ST) (l1 : Int32) (l2 : Int32) (l3 : Int32) (l4 : Int32) (t0 : Int32) (σ : ST) : ST :=
  bd (-l4) fun v167 =>
  fX12_findMiddle_0b173 K7 K135 l1 l2 l3 v167 t0 σ
noncomputable def fX12_findMiddle_0b140 (K7 : Int32 → ST → ST) (K135 : Int32 → Int32 → Int32 → ST → ST) (l1 : Int32) (l2 : Int32) (l3 : Int32) (σ : ST) : ST :=
  bd (σ.2.2 82 l3.toNatClampNeg) fun v145 =>
  bd (σ.2.2 81 l1.toNatClampNeg) fun v151 =>
  bd (v145 - v151) fun v152 =>
  bd (σ.1 38) fun v157 =>
  if 0 ≤ v152 then
    fX12_findMiddle_0b171 K7 K135 l1 l2 l3 v152 v157 σ
  else
    fX12_findMiddle_0b165 K7 K135 l1 l2 l3 v152 v157 σ
noncomputable def fX12_findMiddle_0b135 (K7 : Int32 → ST → ST) (K135 : Int32 → Int32 → Int32 → ST → ST) (l1 : Int32) (l2 : Int32) (l3 : Int32) (σ : ST) : ST :=
  if l2 ≤ l3 then
    fX12_findMiddle_0b183 K7 l1 σ
  else
    fX12_findMiddle_0b140 K7 K135 l1 l2 l3 σ
noncomputable def fX12_findMiddle_0l135 (K7 : Int32 → ST → ST) : Nat → Int32 → Int32 → Int32 → ST → ST
  | 0, _, _, _, σ => σ
  | fu + 1, l1, l2, l3, σ => fX12_findMiddle_0b135 K7 (fX12_findMiddle_0l135 K7 fu) l1 l2 l3 σ
noncomputable def fX12_findMiddle_0b132 (K7 : Int32 → ST → ST) (l1 : Int32) (l2 : Int32) (t0 : Int32) (t1 : Int32) (σ : ST) : ST :=
  bd (sA σ 81 (upd (σ.2.2 81) t1.toNatClampNeg t0)) fun s132 =>
  fX12_findMiddle_0l135 K7 4096 l1 l2 0 s132
noncomputable def fX12_findMiddle_0b120 (K7 : Int32 → ST → ST) (l1 : Int32) (l2 : Int32) (t0 : Int32) (σ : ST) : ST :=
  bd (l2 + 1) fun v126 =>
  bd (v126 / 2) fun v128 =>
  bd (v128 - 1) fun v130 =>
  bd (σ.2.2 82 v130.toNatClampNeg) fun v131 =>
  fX12_findMiddle_0b132 K7 l1 l2 v131 t0 σ
noncomputable def fX12_findMiddle_0b116 (K7 : Int32 → ST → ST) (l1 : Int32) (l2 : Int32) (t0 : Int32) (σ : ST) : ST :=
  fX12_findMiddle_0b132 K7 l1 l2 0 t0 σ
noncomputable def fX12_findMiddle_0b107 (K7 : Int32 → ST → ST) (l1 : Int32) (l2 : Int32) (σ : ST) : ST :=
  if l2 = 0 then
    fX12_findMiddle_0b116 K7 l1 l2 l1 σ
  else
    fX12_findMiddle_0b120 K7 l1 l2 l1 σ
noncomputable def fX12_findMiddle_0b101 (K7 : Int32 → ST → ST) (K16 : Int32 → Int32 → Int32 → ST → ST) (l1 : Int32) (l2 : Int32) (l3 : Int32) (σ : ST) : ST :=
  bd (l3 + 1) fun v101 =>
  K16 l1 l2 v101 σ
noncomputable def fX12_findMiddle_0b89 (K7 : Int32 → ST → ST) (K16 : Int32 → Int32 → Int32 → ST → ST) (l1 : Int32) (l2 : Int32) (l3 : Int32) (l4 : Int32) (l5 : Int32) (σ : ST) : ST :=
  bd (sA σ 82 (upd (σ.2.2 82) l5.toNatClampNeg l4)) fun s97 =>
  bd (l2 + 1) fun v98 =>
  fX12_findMiddle_0b101 K7 K16 l1 v98 l3 s97
noncomputable def fX12_findMiddle_0b67 (K7 : Int32 → ST → ST) (K16 : Int32 → Int32 → Int32 → ST → ST) (K48 : Int32 → Int32 → Int32 → Int32 → Int32 → ST → ST) (l1 : Int32) (l2 : Int32) (l3 : Int32) (l4 : Int32) (l5 : Int32) (σ : ST) : ST :=
  bd (l5 - 1) fun v80 =>
  bd (σ.2.2 82 v80.toNatClampNeg) fun v81 =>
  bd (sA σ 82 (upd (σ.2.2 82) l5.toNatClampNeg v81)) fun s82 =>
  bd (l5 + (-1)) fun v83 =>
  K48 l1 l2 l3 l4 v83 s82
noncomputable def fX12_findMiddle_0b53 (K7 : Int32 → ST → ST) (K16 : Int32 → Int32 → Int32 → ST → ST) (K48 : Int32 → Int32 → Int32 → Int32 → Int32 → ST → ST) (l1 : Int32) (l2 : Int32) (l3 : Int32) (l4 : Int32) (l5 : Int32) (σ : ST) : ST :=
  bd (l5 - 1) fun v60 =>
  bd (σ.2.2 82 v60.toNatClampNeg) fun v61 =>
  if v61 ≤ l4 then
    fX12_findMiddle_0b89 K7 K16 l1 l2 l3 l4 l5 σ
  else
    fX12_findMiddle_0b67 K7 K16 K48 l1 l2 l3 l4 l5 σ
noncomputable def fX12_findMiddle_0b48 (K7 : Int32 → ST → ST) (K16 : Int32 → Int32 → Int32 → ST → ST) (K48 : Int32 → Int32 → Int32 → Int32 → Int32 → ST → ST) (l1 : Int32) (l2 : Int32) (l3 : Int32) (l4 : Int32) (l5 : Int32) (σ : ST) : ST :=
  if l5 ≤ 0 then
    fX12_findMiddle_0b89 K7 K16 l1 l2 l3 l4 l5 σ
  else
    fX12_findMiddle_0b53 K7 K16 K48 l1 l2 l3 l4 l5 σ
noncomputable def fX12_findMiddle_0l48 (K7 : Int32 → ST → ST) (K16 : Int32 → Int32 → Int32 → ST → ST) : Nat → Int32 → Int32 → Int32 → Int32 → Int32 → ST → ST
  | 0, _, _, _, _, _, σ => σ
  | fu + 1, l1, l2, l3, l4, l5, σ => fX12_findMiddle_0b48 K7 K16 (fX12_findMiddle_0l48 K7 K16 fu) l1 l2 l3 l4 l5 σ
noncomputable def fX12_findMiddle_0b33 (K7 : Int32 → ST → ST) (K16 : Int32 → Int32 → Int32 → ST → ST) (l1 : Int32) (l2 : Int32) (l3 : Int32) (σ : ST) : ST :=
  bd ((4 : Int32) * l3) fun v39 =>
  bd (v39 + l1) fun v41 =>
  bd (σ.2.2 68 v41.toNatClampNeg) fun v42 =>
  fX12_findMiddle_0l48 K7 K16 4096 l1 l2 l3 v42 l2 σ
noncomputable def fX12_findMiddle_0b24 (K7 : Int32 → ST → ST) (K16 : Int32 → Int32 → Int32 → ST → ST) (l1 : Int32) (l2 : Int32) (l3 : Int32) (σ : ST) : ST :=
  bd (σ.2.2 80 l3.toNatClampNeg) fun v29 =>
  if v29 = 0 then
    fX12_findMiddle_0b101 K7 K16 l1 l2 l3 σ
  else
    fX12_findMiddle_0b33 K7 K16 l1 l2 l3 σ
noncomputable def fX12_findMiddle_0b16 (K7 : Int32 → ST → ST) (K16 : Int32 → Int32 → Int32 → ST → ST) (l1 : Int32) (l2 : Int32) (l3 : Int32) (σ : ST) : ST :=
  bd (σ.1 31) fun v18 =>
  if v18 ≤ l3 then
    fX12_findMiddle_0b107 K7 l1 l2 σ
  else
    fX12_findMiddle_0b24 K7 K16 l1 l2 l3 σ
noncomputable def fX12_findMiddle_0l16 (K7 : Int32 → ST → ST) : Nat → Int32 → Int32 → Int32 → ST → ST
  | 0, _, _, _, σ => σ
  | fu + 1, l1, l2, l3, σ => fX12_findMiddle_0b16 K7 (fX12_findMiddle_0l16 K7 fu) l1 l2 l3 σ
noncomputable def fX12_findMiddle_0b12 (K7 : Int32 → ST → ST) (l1 : Int32) (σ : ST) : ST :=
  fX12_findMiddle_0l16 K7 4096 l1 0 0 σ
noncomputable def fX12_findMiddle_0b7 (K7 : Int32 → ST → ST) (l1 : Int32) (σ : ST) : ST :=
  if 4 ≤ l1 then
    fX12_findMiddle_0b189 σ
  else
    fX12_findMiddle_0b12 K7 l1 σ
noncomputable def fX12_findMiddle_0l7 : Nat → Int32 → ST → ST
  | 0, _, σ => σ
  | fu + 1, l1, σ => fX12_findMiddle_0b7 (fX12_findMiddle_0l7 fu) l1 σ
noncomputable def fX12_findMiddle_0b0 (σ : ST) : ST :=
  bd (sI σ 38 0) fun s2 =>
  fX12_findMiddle_0l7 4096 0 s2
noncomputable def fX12_findMiddle_0  (σ : ST) : ST := fX12_findMiddle_0b0  σ
noncomputable def fX12_askRows_0b32 (σ : ST) : ST :=
  bd (fX12_findMiddle_0 σ) fun s33 =>
  s33
noncomputable def fX12_askRows_0b10 (K2 : Int32 → Int32 → Int32 → ST → ST) (l1 : Int32) (l2 : Int32) (l3 : Int32) (σ : ST) : ST :=
  bd (l1 + l2) fun v19 =>
  bd (v19 - 1) fun v21 =>
  bd (fX12_in_0 l3 l1 v21 σ) fun v22 =>
  bd (sA σ 80 (upd (σ.2.2 80) l3.toNatClampNeg (vp_nar .boolean v22))) fun s25 =>
  bd (l3 + 1) fun v26 =>
  K2 l1 l2 v26 s25
noncomputable def fX12_askRows_0b2 (K2 : Int32 → Int32 → Int32 → ST → ST) (l1 : Int32) (l2 : Int32) (l3 : Int32) (σ : ST) : ST :=
  bd (σ.1 31) fun v4 =>
  if v4 ≤ l3 then
    fX12_askRows_0b32 σ
  else
    fX12_askRows_0b10 K2 l1 l2 l3 σ
noncomputable def fX12_askRows_0l2 : Nat → Int32 → Int32 → Int32 → ST → ST
  | 0, _, _, _, σ => σ
  | fu + 1, l1, l2, l3, σ => fX12_askRows_0b2 (fX12_askRows_0l2 fu) l1 l2 l3 σ
noncomputable def fX12_askRows_0b0 (l1 : Int32) (l2 : Int32) (σ : ST) : ST :=
  fX12_askRows_0l2 4096 l1 l2 0 σ
noncomputable def fX12_askRows_0 (p1 : Int32) (p2 : Int32) (σ : ST) : ST := fX12_askRows_0b0 p1 p2 σ
noncomputable def fX12_cut_0b276 (σ : ST) : ST :=
  σ
noncomputable def fX12_cut_0b254 (K131 : Int32 → Int32 → ST → ST) (l2 : Int32) (l3 : Int32) (σ : ST) : ST :=
  bd (σ.1 35) fun v256 =>
  bd (v256 + 1) fun v260 =>
  bd (sI σ 35 v260) fun s261 =>
  bd (s261.2.2 84 l3.toNatClampNeg) fun v270 =>
  bd (l3 + v270) fun v271 =>
  K131 l2 v271 s261
noncomputable def fX12_cut_0b237 (K131 : Int32 → Int32 → ST → ST) (K224 : Int32 → Int32 → Int32 → ST → ST) (l2 : Int32) (l3 : Int32) (l4 : Int32) (σ : ST) : ST :=
  bd (σ.1 35) fun v244 =>
  bd (sA σ 77 (upd (σ.2.2 77) l4.toNatClampNeg v244)) fun s247 =>
  bd (l4 + 1) fun v248 =>
  K224 l2 l3 v248 s247
noncomputable def fX12_cut_0b224 (K131 : Int32 → Int32 → ST → ST) (K224 : Int32 → Int32 → Int32 → ST → ST) (l2 : Int32) (l3 : Int32) (l4 : Int32) (σ : ST) : ST :=
  bd (σ.2.2 84 l3.toNatClampNeg) fun v232 =>
  bd (l3 + v232) fun v233 =>
  if v233 ≤ l4 then
    fX12_cut_0b254 K131 l2 l3 σ
  else
    fX12_cut_0b237 K131 K224 l2 l3 l4 σ
noncomputable def fX12_cut_0l224 (K131 : Int32 → Int32 → ST → ST) : Nat → Int32 → Int32 → Int32 → ST → ST
  | 0, _, _, _, σ => σ
  | fu + 1, l2, l3, l4, σ => fX12_cut_0b224 K131 (fX12_cut_0l224 K131 fu) l2 l3 l4 σ
noncomputable def fX12_cut_0b221 (K131 : Int32 → Int32 → ST → ST) (l2 : Int32) (l3 : Int32) (σ : ST) : ST :=
  fX12_cut_0l224 K131 4096 l2 l3 l3 σ
noncomputable def fX12_cut_0b194 (K131 : Int32 → Int32 → ST → ST) (K188 : Int32 → Int32 → Int32 → ST → ST) (l2 : Int32) (l3 : Int32) (l4 : Int32) (σ : ST) : ST :=
  bd (σ.1 35) fun v200 =>
  bd ((4 : Int32) * v200) fun v203 =>
  bd (v203 + l4) fun v206 =>
  bd (σ.2.2 81 l4.toNatClampNeg) fun v213 =>
  bd (sA σ 78 (upd (σ.2.2 78) v206.toNatClampNeg v213)) fun s214 =>
  bd (l4 + 1) fun v215 =>
  K188 l2 l3 v215 s214
noncomputable def fX12_cut_0b188 (K131 : Int32 → Int32 → ST → ST) (K188 : Int32 → Int32 → Int32 → ST → ST) (l2 : Int32) (l3 : Int32) (l4 : Int32) (σ : ST) : ST :=
  if 4 ≤ l4 then
    fX12_cut_0b221 K131 l2 l3 σ
  else
    fX12_cut_0b194 K131 K188 l2 l3 l4 σ
noncomputable def fX12_cut_0l188 (K131 : Int32 → Int32 → ST → ST) : Nat → Int32 → Int32 → Int32 → ST → ST
  | 0, _, _, _, σ => σ
  | fu + 1, l2, l3, l4, σ => fX12_cut_0b188 K131 (fX12_cut_0l188 K131 fu) l2 l3 l4 σ
noncomputable def fX12_cut_0b136 (K131 : Int32 → Int32 → ST → ST) (l2 : Int32) (l3 : Int32) (σ : ST) : ST :=
  bd (σ.1 35) fun v141 =>
  bd (sA σ 75 (upd (σ.2.2 75) v141.toNatClampNeg l3)) fun s145 =>
  bd (s145.1 35) fun v151 =>
  bd (s145.2.2 84 l3.toNatClampNeg) fun v159 =>
  bd (sA s145 76 (upd (s145.2.2 76) v151.toNatClampNeg v159)) fun s160 =>
  bd (s160.2.2 84 l3.toNatClampNeg) fun v168 =>
  bd (fX12_askRows_0 l3 v168 s160) fun s169 =>
  bd (s169.1 35) fun v177 =>
  bd (s169.1 38) fun v181 =>
  bd (sA s169 79 (upd (s169.2.2 79) v177.toNatClampNeg v181)) fun s184 =>
  fX12_cut_0l188 K131 4096 l2 l3 0 s184
noncomputable def fX12_cut_0b131 (K131 : Int32 → Int32 → ST → ST) (l2 : Int32) (l3 : Int32) (σ : ST) : ST :=
  if l2 < l3 then
    fX12_cut_0b276 σ
  else
    fX12_cut_0b136 K131 l2 l3 σ
noncomputable def fX12_cut_0l131 : Nat → Int32 → Int32 → ST → ST
  | 0, _, _, σ => σ
  | fu + 1, l2, l3, σ => fX12_cut_0b131 (fX12_cut_0l131 fu) l2 l3 σ
noncomputable def fX12_cut_0b114 (l1 : Int32) (l2 : Int32) (σ : ST) : ST :=
  bd (σ.1 37) fun v116 =>
  bd (σ.2.2 83 l1.toNatClampNeg) fun v124 =>
  bd (v116 + v124) fun v125 =>
  bd (sI σ 37 v125) fun s126 =>
  fX12_cut_0l131 4096 l2 l1 s126
noncomputable def fX12_cut_0b108 (K11 : Int32 → Int32 → Int32 → ST → ST) (l1 : Int32) (l2 : Int32) (l3 : Int32) (σ : ST) : ST :=
  bd (l3 + (-1)) fun v108 =>
  K11 l1 l2 v108 σ
noncomputable def fX12_cut_0b102 (K11 : Int32 → Int32 → Int32 → ST → ST) (K26 : Int32 → Int32 → Int32 → Int32 → ST → ST) (l1 : Int32) (l2 : Int32) (l3 : Int32) (l4 : Int32) (σ : ST) : ST :=
  bd (l4 + 1) fun v102 =>
  K26 l1 l2 l3 v102 σ
noncomputable def fX12_cut_0b86 (K11 : Int32 → Int32 → Int32 → ST → ST) (K26 : Int32 → Int32 → Int32 → Int32 → ST → ST) (l1 : Int32) (l2 : Int32) (l3 : Int32) (l4 : Int32) (l5 : Int32) (σ : ST) : ST :=
  bd (sA σ 83 (upd (σ.2.2 83) l3.toNatClampNeg l5)) fun s93 =>
  bd (sA s93 84 (upd (s93.2.2 84) l3.toNatClampNeg l4)) fun s101 =>
  fX12_cut_0b102 K11 K26 l1 l2 l3 l4 s101
noncomputable def fX12_cut_0b75 (K11 : Int32 → Int32 → Int32 → ST → ST) (K26 : Int32 → Int32 → Int32 → Int32 → ST → ST) (l1 : Int32) (l2 : Int32) (l3 : Int32) (l4 : Int32) (l5 : Int32) (σ : ST) : ST :=
  bd (σ.2.2 83 l3.toNatClampNeg) fun v82 =>
  if v82 < l5 then
    fX12_cut_0b102 K11 K26 l1 l2 l3 l4 σ
  else
    fX12_cut_0b86 K11 K26 l1 l2 l3 l4 l5 σ
noncomputable def fX12_cut_0b36 (K11 : Int32 → Int32 → Int32 → ST → ST) (K26 : Int32 → Int32 → Int32 → Int32 → ST → ST) (l1 : Int32) (l2 : Int32) (l3 : Int32) (l4 : Int32) (σ : ST) : ST :=
  bd (fX12_askRows_0 l3 l4 σ) fun s40 =>
  bd (s40.1 38) fun v44 =>
  bd (s40.2.2 66 (0 : Int32).toNatClampNeg) fun v52 =>
  bd (v44 + v52) fun v53 =>
  bd (l3 + l4) fun v61 =>
  bd (s40.2.2 83 v61.toNatClampNeg) fun v62 =>
  bd (v53 + v62) fun v63 =>
  bd (s40.2.2 84 l3.toNatClampNeg) fun v71 =>
  if v71 = 0 then
    fX12_cut_0b86 K11 K26 l1 l2 l3 l4 v63 s40
  else
    fX12_cut_0b75 K11 K26 l1 l2 l3 l4 v63 s40
noncomputable def fX12_cut_0b26 (K11 : Int32 → Int32 → Int32 → ST → ST) (K26 : Int32 → Int32 → Int32 → Int32 → ST → ST) (l1 : Int32) (l2 : Int32) (l3 : Int32) (l4 : Int32) (σ : ST) : ST :=
  bd (l3 + l4) fun v29 =>
  bd (l2 + 1) fun v32 =>
  if v32 < v29 then
    fX12_cut_0b108 K11 l1 l2 l3 σ
  else
    fX12_cut_0b36 K11 K26 l1 l2 l3 l4 σ
noncomputable def fX12_cut_0l26 (K11 : Int32 → Int32 → Int32 → ST → ST) : Nat → Int32 → Int32 → Int32 → Int32 → ST → ST
  | 0, _, _, _, _, σ => σ
  | fu + 1, l1, l2, l3, l4, σ => fX12_cut_0b26 K11 (fX12_cut_0l26 K11 fu) l1 l2 l3 l4 σ
noncomputable def fX12_cut_0b16 (K11 : Int32 → Int32 → Int32 → ST → ST) (l1 : Int32) (l2 : Int32) (l3 : Int32) (σ : ST) : ST :=
  bd (sA σ 84 (upd (σ.2.2 84) l3.toNatClampNeg 0)) fun s22 =>
  fX12_cut_0l26 K11 4096 l1 l2 l3 1 s22
noncomputable def fX12_cut_0b11 (K11 : Int32 → Int32 → Int32 → ST → ST) (l1 : Int32) (l2 : Int32) (l3 : Int32) (σ : ST) : ST :=
  if l3 < l1 then
    fX12_cut_0b114 l1 l2 σ
  else
    fX12_cut_0b16 K11 l1 l2 l3 σ
noncomputable def fX12_cut_0l11 : Nat → Int32 → Int32 → Int32 → ST → ST
  | 0, _, _, _, σ => σ
  | fu + 1, l1, l2, l3, σ => fX12_cut_0b11 (fX12_cut_0l11 fu) l1 l2 l3 σ
noncomputable def fX12_cut_0b0 (l1 : Int32) (l2 : Int32) (σ : ST) : ST :=
  bd (l2 + 1) fun v6 =>
  bd (sA σ 83 (upd (σ.2.2 83) v6.toNatClampNeg 0)) fun s8 =>
  fX12_cut_0l11 4096 l1 l2 l2 s8
noncomputable def fX12_cut_0 (p1 : Int32) (p2 : Int32) (σ : ST) : ST := fX12_cut_0b0 p1 p2 σ
noncomputable def fX12_findPieces_0b96 (σ : ST) : ST :=
  σ
noncomputable def fX12_findPieces_0b90 (K17 : Int32 → ST → ST) (l1 : Int32) (σ : ST) : ST :=
  bd (l1 + 1) fun v90 =>
  K17 v90 σ
noncomputable def fX12_findPieces_0b82 (K17 : Int32 → ST → ST) (l1 : Int32) (σ : ST) : ST :=
  bd (sA σ 77 (upd (σ.2.2 77) l1.toNatClampNeg (-9))) fun s89 =>
  fX12_findPieces_0b90 K17 l1 s89
noncomputable def fX12_findPieces_0b61 (K17 : Int32 → ST → ST) (l1 : Int32) (l2 : Int32) (σ : ST) : ST :=
  bd (σ.1 36) fun v63 =>
  bd (v63 + 1) fun v67 =>
  bd (sI σ 36 v67) fun s68 =>
  bd (fX12_cut_0 l1 l2 s68) fun s74 =>
  fX12_findPieces_0b90 K17 l2 s74
noncomputable def fX12_findPieces_0b55 (K17 : Int32 → ST → ST) (K35 : Int32 → Int32 → ST → ST) (l1 : Int32) (l2 : Int32) (σ : ST) : ST :=
  bd (l2 + 1) fun v55 =>
  K35 l1 v55 σ
noncomputable def fX12_findPieces_0b45 (K17 : Int32 → ST → ST) (K35 : Int32 → Int32 → ST → ST) (l1 : Int32) (l2 : Int32) (σ : ST) : ST :=
  bd (l2 + 1) fun v48 =>
  bd (fX12_isHeard_0 v48 σ) fun v49 =>
  if v49 = 0 then
    fX12_findPieces_0b61 K17 l1 l2 σ
  else
    fX12_findPieces_0b55 K17 K35 l1 l2 σ
noncomputable def fX12_findPieces_0b35 (K17 : Int32 → ST → ST) (K35 : Int32 → Int32 → ST → ST) (l1 : Int32) (l2 : Int32) (σ : ST) : ST :=
  bd (l2 + 1) fun v37 =>
  bd (σ.1 31) fun v39 =>
  if v39 ≤ v37 then
    fX12_findPieces_0b61 K17 l1 l2 σ
  else
    fX12_findPieces_0b45 K17 K35 l1 l2 σ
noncomputable def fX12_findPieces_0l35 (K17 : Int32 → ST → ST) : Nat → Int32 → Int32 → ST → ST
  | 0, _, _, σ => σ
  | fu + 1, l1, l2, σ => fX12_findPieces_0b35 K17 (fX12_findPieces_0l35 K17 fu) l1 l2 σ
noncomputable def fX12_findPieces_0b33 (K17 : Int32 → ST → ST) (l1 : Int32) (σ : ST) : ST :=
  fX12_findPieces_0l35 K17 4096 l1 l1 σ
noncomputable def fX12_findPieces_0b25 (K17 : Int32 → ST → ST) (l1 : Int32) (σ : ST) : ST :=
  bd (fX12_isHeard_0 l1 σ) fun v27 =>
  if v27 = 0 then
    fX12_findPieces_0b82 K17 l1 σ
  else
    fX12_findPieces_0b33 K17 l1 σ
noncomputable def fX12_findPieces_0b17 (K17 : Int32 → ST → ST) (l1 : Int32) (σ : ST) : ST :=
  bd (σ.1 31) fun v19 =>
  if v19 ≤ l1 then
    fX12_findPieces_0b96 σ
  else
    fX12_findPieces_0b25 K17 l1 σ
noncomputable def fX12_findPieces_0l17 : Nat → Int32 → ST → ST
  | 0, _, σ => σ
  | fu + 1, l1, σ => fX12_findPieces_0b17 (fX12_findPieces_0l17 fu) l1 σ
noncomputable def fX12_findPieces_0b0 (σ : ST) : ST :=
  bd (sI σ 35 0) fun s2 =>
  bd (sI s2 36 0) fun s7 =>
  bd (sI s7 37 0) fun s12 =>
  fX12_findPieces_0l17 4096 0 s12
noncomputable def fX12_findPieces_0  (σ : ST) : ST := fX12_findPieces_0b0  σ
noncomputable def fX12_pieces_0b85 (t0 : Int32) (σ : ST) : (Int32 × ST) :=
  (t0, σ)
noncomputable def fX12_pieces_0b84 (l2 : Int32) (σ : ST) : (Int32 × ST) :=
  fX12_pieces_0b85 l2 σ
noncomputable def fX12_pieces_0b77 (σ : ST) : (Int32 × ST) :=
  bd (σ.1 37) fun v78 =>
  fX12_pieces_0b85 v78 σ
noncomputable def fX12_pieces_0b72 (l1 : Int32) (l2 : Int32) (σ : ST) : (Int32 × ST) :=
  if l1 = 2 then
    fX12_pieces_0b77 σ
  else
    fX12_pieces_0b84 l2 σ
noncomputable def fX12_pieces_0b65 (σ : ST) : (Int32 × ST) :=
  bd (σ.1 36) fun v66 =>
  fX12_pieces_0b85 v66 σ
noncomputable def fX12_pieces_0b60 (l1 : Int32) (l2 : Int32) (σ : ST) : (Int32 × ST) :=
  if l1 = 1 then
    fX12_pieces_0b65 σ
  else
    fX12_pieces_0b72 l1 l2 σ
noncomputable def fX12_pieces_0b53 (σ : ST) : (Int32 × ST) :=
  bd (σ.1 35) fun v54 =>
  fX12_pieces_0b85 v54 σ
noncomputable def fX12_pieces_0b49 (l1 : Int32) (l2 : Int32) (σ : ST) : (Int32 × ST) :=
  if l1 = 0 then
    fX12_pieces_0b53 σ
  else
    fX12_pieces_0b60 l1 l2 σ
noncomputable def fX12_pieces_0b41 (K19 : Int32 → Int32 → Int32 → ST → (Int32 × ST)) (l1 : Int32) (l3 : Int32) (t0 : Int32) (t1 : Int32) (σ : ST) : (Int32 × ST) :=
  bd (t1 + t0) fun v41 =>
  bd (l3 + 1) fun v43 =>
  K19 l1 v41 v43 σ
noncomputable def fX12_pieces_0b40 (K19 : Int32 → Int32 → Int32 → ST → (Int32 × ST)) (l1 : Int32) (l3 : Int32) (t0 : Int32) (σ : ST) : (Int32 × ST) :=
  fX12_pieces_0b41 K19 l1 l3 0 t0 σ
noncomputable def fX12_pieces_0b36 (K19 : Int32 → Int32 → Int32 → ST → (Int32 × ST)) (l1 : Int32) (l3 : Int32) (t0 : Int32) (σ : ST) : (Int32 × ST) :=
  fX12_pieces_0b41 K19 l1 l3 1 t0 σ
noncomputable def fX12_pieces_0b27 (K19 : Int32 → Int32 → Int32 → ST → (Int32 × ST)) (l1 : Int32) (l2 : Int32) (l3 : Int32) (σ : ST) : (Int32 × ST) :=
  bd (fX12_isHeard_0 l3 σ) fun v30 =>
  if v30 = 0 then
    fX12_pieces_0b40 K19 l1 l3 l2 σ
  else
    fX12_pieces_0b36 K19 l1 l3 l2 σ
noncomputable def fX12_pieces_0b19 (K19 : Int32 → Int32 → Int32 → ST → (Int32 × ST)) (l1 : Int32) (l2 : Int32) (l3 : Int32) (σ : ST) : (Int32 × ST) :=
  bd (σ.1 31) fun v21 =>
  if v21 ≤ l3 then
    fX12_pieces_0b49 l1 l2 σ
  else
    fX12_pieces_0b27 K19 l1 l2 l3 σ
noncomputable def fX12_pieces_0l19 : Nat → Int32 → Int32 → Int32 → ST → (Int32 × ST)
  | 0, _, _, _, σ => (0, σ)
  | fu + 1, l1, l2, l3, σ => fX12_pieces_0b19 (fX12_pieces_0l19 fu) l1 l2 l3 σ
noncomputable def fX12_pieces_0b11 (l1 : Int32) (σ : ST) : (Int32 × ST) :=
  bd (fX12_findPieces_0 σ) fun s12 =>
  fX12_pieces_0l19 4096 l1 0 0 s12
noncomputable def fX12_pieces_0b9 (σ : ST) : (Int32 × ST) :=
  ((-1), σ)
noncomputable def fX12_pieces_0b0 (l1 : Int32) (σ : ST) : (Int32 × ST) :=
  bd (fX12_in_0 l1 0 3 σ) fun v3 =>
  if v3 = 0 then
    fX12_pieces_0b9 σ
  else
    fX12_pieces_0b11 l1 σ
noncomputable def fX12_pieces_0 (p1 : Int32) (σ : ST) : (Int32 × ST) := fX12_pieces_0b0 p1 σ
noncomputable def fX12_isPiece_0b0 (l1 : Int32) (σ : ST) : Int32 :=
  bd (σ.1 35) fun v3 =>
  bd (v3 - 1) fun v7 =>
  bd (fX12_in_0 l1 0 v7 σ) fun v8 =>
  v8
noncomputable def fX12_isPiece_0 (p1 : Int32) (σ : ST) : Int32 := fX12_isPiece_0b0 p1 σ
noncomputable def fX12_piece_0b22 (σ : ST) : (Int32 × ST) :=
  ((-1), σ)
noncomputable def fX12_piece_0b77 (t0 : Int32) (σ : ST) : (Int32 × ST) :=
  (t0, σ)
noncomputable def fX12_piece_0b65 (l1 : Int32) (l2 : Int32) (σ : ST) : (Int32 × ST) :=
  bd ((4 : Int32) * l1) fun v71 =>
  bd (v71 + l2) fun v73 =>
  bd (v73 - 3) fun v75 =>
  bd (σ.2.2 78 v75.toNatClampNeg) fun v76 =>
  fX12_piece_0b77 v76 σ
noncomputable def fX12_piece_0b56 (l1 : Int32) (σ : ST) : (Int32 × ST) :=
  bd (σ.2.2 79 l1.toNatClampNeg) fun v61 =>
  fX12_piece_0b77 v61 σ
noncomputable def fX12_piece_0b51 (l1 : Int32) (l2 : Int32) (σ : ST) : (Int32 × ST) :=
  if l2 = 2 then
    fX12_piece_0b56 l1 σ
  else
    fX12_piece_0b65 l1 l2 σ
noncomputable def fX12_piece_0b42 (l1 : Int32) (σ : ST) : (Int32 × ST) :=
  bd (σ.2.2 76 l1.toNatClampNeg) fun v47 =>
  fX12_piece_0b77 v47 σ
noncomputable def fX12_piece_0b37 (l1 : Int32) (l2 : Int32) (σ : ST) : (Int32 × ST) :=
  if l2 = 1 then
    fX12_piece_0b42 l1 σ
  else
    fX12_piece_0b51 l1 l2 σ
noncomputable def fX12_piece_0b28 (l1 : Int32) (σ : ST) : (Int32 × ST) :=
  bd (σ.2.2 75 l1.toNatClampNeg) fun v33 =>
  fX12_piece_0b77 v33 σ
noncomputable def fX12_piece_0b24 (l1 : Int32) (l2 : Int32) (σ : ST) : (Int32 × ST) :=
  if l2 = 0 then
    fX12_piece_0b28 l1 σ
  else
    fX12_piece_0b37 l1 l2 σ
noncomputable def fX12_piece_0b12 (l1 : Int32) (l2 : Int32) (σ : ST) : (Int32 × ST) :=
  bd (fX12_in_0 l2 0 6 σ) fun v16 =>
  if v16 = 0 then
    fX12_piece_0b22 σ
  else
    fX12_piece_0b24 l1 l2 σ
noncomputable def fX12_piece_0b0 (l1 : Int32) (l2 : Int32) (σ : ST) : (Int32 × ST) :=
  bd (fX12_findPieces_0 σ) fun s1 =>
  bd (fX12_isPiece_0 l1 s1) fun v6 =>
  if v6 = 0 then
    fX12_piece_0b22 s1
  else
    fX12_piece_0b12 l1 l2 s1
noncomputable def fX12_piece_0 (p1 : Int32) (p2 : Int32) (σ : ST) : (Int32 × ST) := fX12_piece_0b0 p1 p2 σ
noncomputable def fX12_of_0b10 (l1 : Int32) (σ : ST) : (Int32 × ST) :=
  bd (fX12_findPieces_0 σ) fun s11 =>
  bd (s11.2.2 77 l1.toNatClampNeg) fun v19 =>
  (v19, s11)
noncomputable def fX12_of_0b8 (σ : ST) : (Int32 × ST) :=
  ((-1), σ)
noncomputable def fX12_of_0b0 (l1 : Int32) (σ : ST) : (Int32 × ST) :=
  bd (fX12_isRow_0 l1 σ) fun v2 =>
  if v2 = 0 then
    fX12_of_0b8 σ
  else
    fX12_of_0b10 l1 σ
noncomputable def fX12_of_0 (p1 : Int32) (σ : ST) : (Int32 × ST) := fX12_of_0b0 p1 σ
noncomputable def fX12_size_0b10 (t0 : Int32) (σ : ST) : Int32 :=
  t0
noncomputable def fX12_size_0b9 (l0 : Int32) (σ : ST) : Int32 :=
  fX12_size_0b10 l0 σ
noncomputable def fX12_size_0b4 (l0 : Int32) (σ : ST) : Int32 :=
  bd (-l0) fun v5 =>
  fX12_size_0b10 v5 σ
noncomputable def fX12_size_0b0 (l0 : Int32) (σ : ST) : Int32 :=
  if 0 ≤ l0 then
    fX12_size_0b9 l0 σ
  else
    fX12_size_0b4 l0 σ
noncomputable def fX12_size_0 (p0 : Int32) (σ : ST) : Int32 := fX12_size_0b0 p0 σ
noncomputable def fX12_likeOf_0b84 (t0 : Int32) (t1 : Int32) (σ : ST) : Int32 :=
  bd (t1 * t0) fun v84 =>
  v84
noncomputable def fX12_likeOf_0b78 (l2 : Int32) (t0 : Int32) (σ : ST) : Int32 :=
  bd (σ.2.2 76 l2.toNatClampNeg) fun v83 =>
  fX12_likeOf_0b84 v83 t0 σ
noncomputable def fX12_likeOf_0b69 (l1 : Int32) (t0 : Int32) (σ : ST) : Int32 :=
  bd (σ.2.2 76 l1.toNatClampNeg) fun v74 =>
  fX12_likeOf_0b84 v74 t0 σ
noncomputable def fX12_likeOf_0b46 (l1 : Int32) (l2 : Int32) (l3 : Int32) (σ : ST) : Int32 :=
  bd (σ.2.2 66 (2 : Int32).toNatClampNeg) fun v51 =>
  bd (v51 - l3) fun v53 =>
  bd (σ.2.2 76 l1.toNatClampNeg) fun v59 =>
  bd (σ.2.2 76 l2.toNatClampNeg) fun v65 =>
  if v65 ≤ v59 then
    fX12_likeOf_0b78 l2 v53 σ
  else
    fX12_likeOf_0b69 l1 v53 σ
noncomputable def fX12_likeOf_0b11 (K5 : Int32 → Int32 → Int32 → Int32 → ST → Int32) (l1 : Int32) (l2 : Int32) (l3 : Int32) (l4 : Int32) (σ : ST) : Int32 :=
  bd ((4 : Int32) * l1) fun v18 =>
  bd (v18 + l4) fun v21 =>
  bd (σ.2.2 78 v21.toNatClampNeg) fun v22 =>
  bd ((4 : Int32) * l2) fun v29 =>
  bd (v29 + l4) fun v32 =>
  bd (σ.2.2 78 v32.toNatClampNeg) fun v33 =>
  bd (v22 - v33) fun v34 =>
  bd (fX12_size_0 v34 σ) fun v35 =>
  bd (l3 + v35) fun v38 =>
  bd (l4 + 1) fun v40 =>
  K5 l1 l2 v38 v40 σ
noncomputable def fX12_likeOf_0b5 (K5 : Int32 → Int32 → Int32 → Int32 → ST → Int32) (l1 : Int32) (l2 : Int32) (l3 : Int32) (l4 : Int32) (σ : ST) : Int32 :=
  if 4 ≤ l4 then
    fX12_likeOf_0b46 l1 l2 l3 σ
  else
    fX12_likeOf_0b11 K5 l1 l2 l3 l4 σ
noncomputable def fX12_likeOf_0l5 : Nat → Int32 → Int32 → Int32 → Int32 → ST → Int32
  | 0, _, _, _, _, σ => 0
  | fu + 1, l1, l2, l3, l4, σ => fX12_likeOf_0b5 (fX12_likeOf_0l5 fu) l1 l2 l3 l4 σ
noncomputable def fX12_likeOf_0b0 (l1 : Int32) (l2 : Int32) (σ : ST) : Int32 :=
  fX12_likeOf_0l5 4096 l1 l2 0 0 σ
noncomputable def fX12_likeOf_0 (p1 : Int32) (p2 : Int32) (σ : ST) : Int32 := fX12_likeOf_0b0 p1 p2 σ
noncomputable def fX12_like_0b36 (t0 : Int32) (σ : ST) : (Int32 × ST) :=
  (t0, σ)
noncomputable def fX12_like_0b34 (σ : ST) : (Int32 × ST) :=
  fX12_like_0b36 (-1000000) σ
noncomputable def fX12_like_0b25 (l1 : Int32) (l2 : Int32) (σ : ST) : (Int32 × ST) :=
  bd (fX12_likeOf_0 l1 l2 σ) fun v28 =>
  fX12_like_0b36 v28 σ
noncomputable def fX12_like_0b20 (l1 : Int32) (l2 : Int32) (σ : ST) : (Int32 × ST) :=
  if l1 = l2 then
    fX12_like_0b34 σ
  else
    fX12_like_0b25 l1 l2 σ
noncomputable def fX12_like_0b12 (l1 : Int32) (l2 : Int32) (σ : ST) : (Int32 × ST) :=
  bd (fX12_isPiece_0 l2 σ) fun v14 =>
  if v14 = 0 then
    fX12_like_0b34 σ
  else
    fX12_like_0b20 l1 l2 σ
noncomputable def fX12_like_0b0 (l1 : Int32) (l2 : Int32) (σ : ST) : (Int32 × ST) :=
  bd (fX12_findPieces_0 σ) fun s1 =>
  bd (fX12_isPiece_0 l1 s1) fun v6 =>
  if v6 = 0 then
    fX12_like_0b34 s1
  else
    fX12_like_0b12 l1 l2 s1
noncomputable def fX12_like_0 (p1 : Int32) (p2 : Int32) (σ : ST) : (Int32 × ST) := fX12_like_0b0 p1 p2 σ
noncomputable def fX12_touch_0b50 (t0 : Int32) (σ : ST) : Int32 :=
  t0
noncomputable def fX12_touch_0b49 (σ : ST) : Int32 :=
  fX12_touch_0b50 0 σ
noncomputable def fX12_touch_0b45 (σ : ST) : Int32 :=
  fX12_touch_0b50 1 σ
noncomputable def fX12_touch_0b21 (l3 : Int32) (σ : ST) : Int32 :=
  bd (σ.2.2 75 l3.toNatClampNeg) fun v26 =>
  bd (σ.2.2 76 l3.toNatClampNeg) fun v32 =>
  bd (v26 + v32) fun v33 =>
  bd (l3 + 1) fun v40 =>
  bd (σ.2.2 75 v40.toNatClampNeg) fun v41 =>
  if v33 = v41 then
    fX12_touch_0b45 σ
  else
    fX12_touch_0b49 σ
noncomputable def fX12_touch_0b10 (l1 : Int32) (l2 : Int32) (t0 : Int32) (σ : ST) : Int32 :=
  bd (l1 - l2) fun v13 =>
  bd (fX12_size_0 v13 σ) fun v14 =>
  if v14 = 1 then
    fX12_touch_0b21 t0 σ
  else
    fX12_touch_0b49 σ
noncomputable def fX12_touch_0b9 (l1 : Int32) (l2 : Int32) (σ : ST) : Int32 :=
  fX12_touch_0b10 l1 l2 l2 σ
noncomputable def fX12_touch_0b5 (l1 : Int32) (l2 : Int32) (σ : ST) : Int32 :=
  fX12_touch_0b10 l1 l2 l1 σ
noncomputable def fX12_touch_0b0 (l1 : Int32) (l2 : Int32) (σ : ST) : Int32 :=
  if l2 ≤ l1 then
    fX12_touch_0b9 l1 l2 σ
  else
    fX12_touch_0b5 l1 l2 σ
noncomputable def fX12_touch_0 (p1 : Int32) (p2 : Int32) (σ : ST) : Int32 := fX12_touch_0b0 p1 p2 σ
noncomputable def fX12_findGains_0b78 (σ : ST) : ST :=
  σ
noncomputable def fX12_findGains_0b72 (K2 : Int32 → ST → ST) (l1 : Int32) (σ : ST) : ST :=
  bd (l1 + 1) fun v72 =>
  K2 v72 σ
noncomputable def fX12_findGains_0b65 (K2 : Int32 → ST → ST) (K12 : Int32 → Int32 → ST → ST) (l1 : Int32) (l2 : Int32) (t0 : Int32) (t1 : Int32) (σ : ST) : ST :=
  bd (sA σ 88 (upd (σ.2.2 88) t1.toNatClampNeg t0)) fun s65 =>
  bd (l2 + 1) fun v66 =>
  K12 l1 v66 s65
noncomputable def fX12_findGains_0b64 (K2 : Int32 → ST → ST) (K12 : Int32 → Int32 → ST → ST) (l1 : Int32) (l2 : Int32) (t0 : Int32) (t1 : Int32) (t2 : Int32) (σ : ST) : ST :=
  bd (t1 - t0) fun v64 =>
  fX12_findGains_0b65 K2 K12 l1 l2 v64 t2 σ
noncomputable def fX12_findGains_0b63 (K2 : Int32 → ST → ST) (K12 : Int32 → Int32 → ST → ST) (l1 : Int32) (l2 : Int32) (t0 : Int32) (t1 : Int32) (σ : ST) : ST :=
  fX12_findGains_0b64 K2 K12 l1 l2 0 t0 t1 σ
noncomputable def fX12_findGains_0b54 (K2 : Int32 → ST → ST) (K12 : Int32 → Int32 → ST → ST) (l1 : Int32) (l2 : Int32) (t0 : Int32) (t1 : Int32) (σ : ST) : ST :=
  bd (σ.2.2 66 (4 : Int32).toNatClampNeg) fun v59 =>
  fX12_findGains_0b64 K2 K12 l1 l2 v59 t0 t1 σ
noncomputable def fX12_findGains_0b39 (K2 : Int32 → ST → ST) (K12 : Int32 → Int32 → ST → ST) (l1 : Int32) (l2 : Int32) (t0 : Int32) (σ : ST) : ST :=
  bd (fX12_likeOf_0 l1 l2 σ) fun v42 =>
  bd (fX12_touch_0 l1 l2 σ) fun v48 =>
  if v48 = 0 then
    fX12_findGains_0b63 K2 K12 l1 l2 v42 t0 σ
  else
    fX12_findGains_0b54 K2 K12 l1 l2 v42 t0 σ
noncomputable def fX12_findGains_0b35 (K2 : Int32 → ST → ST) (K12 : Int32 → Int32 → ST → ST) (l1 : Int32) (l2 : Int32) (t0 : Int32) (σ : ST) : ST :=
  fX12_findGains_0b65 K2 K12 l1 l2 0 t0 σ
noncomputable def fX12_findGains_0b20 (K2 : Int32 → ST → ST) (K12 : Int32 → Int32 → ST → ST) (l1 : Int32) (l2 : Int32) (σ : ST) : ST :=
  bd ((9 : Int32) * l1) fun v27 =>
  bd (v27 + l2) fun v29 =>
  if l1 = l2 then
    fX12_findGains_0b35 K2 K12 l1 l2 v29 σ
  else
    fX12_findGains_0b39 K2 K12 l1 l2 v29 σ
noncomputable def fX12_findGains_0b12 (K2 : Int32 → ST → ST) (K12 : Int32 → Int32 → ST → ST) (l1 : Int32) (l2 : Int32) (σ : ST) : ST :=
  bd (σ.1 35) fun v14 =>
  if v14 ≤ l2 then
    fX12_findGains_0b72 K2 l1 σ
  else
    fX12_findGains_0b20 K2 K12 l1 l2 σ
noncomputable def fX12_findGains_0l12 (K2 : Int32 → ST → ST) : Nat → Int32 → Int32 → ST → ST
  | 0, _, _, σ => σ
  | fu + 1, l1, l2, σ => fX12_findGains_0b12 K2 (fX12_findGains_0l12 K2 fu) l1 l2 σ
noncomputable def fX12_findGains_0b10 (K2 : Int32 → ST → ST) (l1 : Int32) (σ : ST) : ST :=
  fX12_findGains_0l12 K2 4096 l1 0 σ
noncomputable def fX12_findGains_0b2 (K2 : Int32 → ST → ST) (l1 : Int32) (σ : ST) : ST :=
  bd (σ.1 35) fun v4 =>
  if v4 ≤ l1 then
    fX12_findGains_0b78 σ
  else
    fX12_findGains_0b10 K2 l1 σ
noncomputable def fX12_findGains_0l2 : Nat → Int32 → ST → ST
  | 0, _, σ => σ
  | fu + 1, l1, σ => fX12_findGains_0b2 (fX12_findGains_0l2 fu) l1 σ
noncomputable def fX12_findGains_0b0 (σ : ST) : ST :=
  fX12_findGains_0l2 4096 0 σ
noncomputable def fX12_findGains_0  (σ : ST) : ST := fX12_findGains_0b0  σ
noncomputable def fX12_begin_0b21 (σ : ST) : ST :=
  σ
noncomputable def fX12_begin_0b8 (K2 : Int32 → ST → ST) (l1 : Int32) (σ : ST) : ST :=
  bd (sA σ 85 (upd (σ.2.2 85) l1.toNatClampNeg 0)) fun s14 =>
  bd (l1 + 1) fun v15 =>
  K2 v15 s14
noncomputable def fX12_begin_0b2 (K2 : Int32 → ST → ST) (l1 : Int32) (σ : ST) : ST :=
  if 10 ≤ l1 then
    fX12_begin_0b21 σ
  else
    fX12_begin_0b8 K2 l1 σ
noncomputable def fX12_begin_0l2 : Nat → Int32 → ST → ST
  | 0, _, σ => σ
  | fu + 1, l1, σ => fX12_begin_0b2 (fX12_begin_0l2 fu) l1 σ
noncomputable def fX12_begin_0b0 (σ : ST) : ST :=
  fX12_begin_0l2 4096 0 σ
noncomputable def fX12_begin_0  (σ : ST) : ST := fX12_begin_0b0  σ
noncomputable def fX12_worthOf_0b62 (l2 : Int32) (σ : ST) : Int32 :=
  l2
noncomputable def fX12_worthOf_0b56 (K4 : Int32 → Int32 → ST → Int32) (l2 : Int32) (l3 : Int32) (σ : ST) : Int32 :=
  bd (l3 + 1) fun v56 =>
  K4 l2 v56 σ
noncomputable def fX12_worthOf_0b48 (K4 : Int32 → Int32 → ST → Int32) (K15 : Int32 → Int32 → Int32 → ST → Int32) (l3 : Int32) (l4 : Int32) (t0 : Int32) (t1 : Int32) (σ : ST) : Int32 :=
  bd (t1 + t0) fun v48 =>
  bd (l4 + 1) fun v50 =>
  K15 v48 l3 v50 σ
noncomputable def fX12_worthOf_0b47 (K4 : Int32 → Int32 → ST → Int32) (K15 : Int32 → Int32 → Int32 → ST → Int32) (l3 : Int32) (l4 : Int32) (t0 : Int32) (σ : ST) : Int32 :=
  fX12_worthOf_0b48 K4 K15 l3 l4 0 t0 σ
noncomputable def fX12_worthOf_0b32 (K4 : Int32 → Int32 → ST → Int32) (K15 : Int32 → Int32 → Int32 → ST → Int32) (l3 : Int32) (l4 : Int32) (t0 : Int32) (σ : ST) : Int32 :=
  bd ((9 : Int32) * l3) fun v39 =>
  bd (v39 + l4) fun v42 =>
  bd (σ.2.2 88 v42.toNatClampNeg) fun v43 =>
  fX12_worthOf_0b48 K4 K15 l3 l4 v43 t0 σ
noncomputable def fX12_worthOf_0b21 (K4 : Int32 → Int32 → ST → Int32) (K15 : Int32 → Int32 → Int32 → ST → Int32) (l2 : Int32) (l3 : Int32) (l4 : Int32) (σ : ST) : Int32 :=
  bd (σ.2.2 85 l3.toNatClampNeg) fun v24 =>
  bd (σ.2.2 85 l4.toNatClampNeg) fun v28 =>
  if v24 = v28 then
    fX12_worthOf_0b32 K4 K15 l3 l4 l2 σ
  else
    fX12_worthOf_0b47 K4 K15 l3 l4 l2 σ
noncomputable def fX12_worthOf_0b15 (K4 : Int32 → Int32 → ST → Int32) (K15 : Int32 → Int32 → Int32 → ST → Int32) (l2 : Int32) (l3 : Int32) (l4 : Int32) (σ : ST) : Int32 :=
  if l3 ≤ l4 then
    fX12_worthOf_0b56 K4 l2 l3 σ
  else
    fX12_worthOf_0b21 K4 K15 l2 l3 l4 σ
noncomputable def fX12_worthOf_0l15 (K4 : Int32 → Int32 → ST → Int32) : Nat → Int32 → Int32 → Int32 → ST → Int32
  | 0, _, _, _, σ => 0
  | fu + 1, l2, l3, l4, σ => fX12_worthOf_0b15 K4 (fX12_worthOf_0l15 K4 fu) l2 l3 l4 σ
noncomputable def fX12_worthOf_0b12 (K4 : Int32 → Int32 → ST → Int32) (l2 : Int32) (l3 : Int32) (σ : ST) : Int32 :=
  fX12_worthOf_0l15 K4 4096 l2 l3 0 σ
noncomputable def fX12_worthOf_0b4 (K4 : Int32 → Int32 → ST → Int32) (l2 : Int32) (l3 : Int32) (σ : ST) : Int32 :=
  bd (σ.1 35) fun v6 =>
  if v6 ≤ l3 then
    fX12_worthOf_0b62 l2 σ
  else
    fX12_worthOf_0b12 K4 l2 l3 σ
noncomputable def fX12_worthOf_0l4 : Nat → Int32 → Int32 → ST → Int32
  | 0, _, _, σ => 0
  | fu + 1, l2, l3, σ => fX12_worthOf_0b4 (fX12_worthOf_0l4 fu) l2 l3 σ
noncomputable def fX12_worthOf_0b0 (σ : ST) : Int32 :=
  fX12_worthOf_0l4 4096 0 0 σ
noncomputable def fX12_worthOf_0  (σ : ST) : Int32 := fX12_worthOf_0b0  σ
noncomputable def fX12_heapsIn_0b32 (l2 : Int32) (σ : ST) : Int32 :=
  l2
noncomputable def fX12_heapsIn_0b25 (K4 : Int32 → Int32 → Int32 → ST → Int32) (l1 : Int32) (l3 : Int32) (t0 : Int32) (σ : ST) : Int32 :=
  bd (l3 + 1) fun v26 =>
  K4 l1 t0 v26 σ
noncomputable def fX12_heapsIn_0b24 (K4 : Int32 → Int32 → Int32 → ST → Int32) (l1 : Int32) (l2 : Int32) (l3 : Int32) (σ : ST) : Int32 :=
  fX12_heapsIn_0b25 K4 l1 l3 l2 σ
noncomputable def fX12_heapsIn_0b16 (K4 : Int32 → Int32 → Int32 → ST → Int32) (l1 : Int32) (l3 : Int32) (σ : ST) : Int32 :=
  bd (σ.2.2 85 l3.toNatClampNeg) fun v18 =>
  bd (v18 + 1) fun v20 =>
  fX12_heapsIn_0b25 K4 l1 l3 v20 σ
noncomputable def fX12_heapsIn_0b9 (K4 : Int32 → Int32 → Int32 → ST → Int32) (l1 : Int32) (l2 : Int32) (l3 : Int32) (σ : ST) : Int32 :=
  bd (σ.2.2 85 l3.toNatClampNeg) fun v11 =>
  if v11 < l2 then
    fX12_heapsIn_0b24 K4 l1 l2 l3 σ
  else
    fX12_heapsIn_0b16 K4 l1 l3 σ
noncomputable def fX12_heapsIn_0b4 (K4 : Int32 → Int32 → Int32 → ST → Int32) (l1 : Int32) (l2 : Int32) (l3 : Int32) (σ : ST) : Int32 :=
  if l1 ≤ l3 then
    fX12_heapsIn_0b32 l2 σ
  else
    fX12_heapsIn_0b9 K4 l1 l2 l3 σ
noncomputable def fX12_heapsIn_0l4 : Nat → Int32 → Int32 → Int32 → ST → Int32
  | 0, _, _, _, σ => 0
  | fu + 1, l1, l2, l3, σ => fX12_heapsIn_0b4 (fX12_heapsIn_0l4 fu) l1 l2 l3 σ
noncomputable def fX12_heapsIn_0b0 (l1 : Int32) (σ : ST) : Int32 :=
  fX12_heapsIn_0l4 4096 l1 0 0 σ
noncomputable def fX12_heapsIn_0 (p1 : Int32) (σ : ST) : Int32 := fX12_heapsIn_0b0 p1 σ
noncomputable def fX12_goOn_0b71 (σ : ST) : (Int32 × ST) :=
  (0, σ)
noncomputable def fX12_goOn_0b65 (K7 : Int32 → ST → (Int32 × ST)) (l1 : Int32) (σ : ST) : (Int32 × ST) :=
  bd (l1 + (-1)) fun v65 =>
  K7 v65 σ
noncomputable def fX12_goOn_0b63 (K7 : Int32 → ST → (Int32 × ST)) (σ : ST) : (Int32 × ST) :=
  (1, σ)
noncomputable def fX12_goOn_0b50 (K7 : Int32 → ST → (Int32 × ST)) (K42 : Int32 → ST → (Int32 × ST)) (l2 : Int32) (σ : ST) : (Int32 × ST) :=
  bd (sA σ 85 (upd (σ.2.2 85) l2.toNatClampNeg 0)) fun s56 =>
  bd (l2 + 1) fun v57 =>
  K42 v57 s56
noncomputable def fX12_goOn_0b42 (K7 : Int32 → ST → (Int32 × ST)) (K42 : Int32 → ST → (Int32 × ST)) (l2 : Int32) (σ : ST) : (Int32 × ST) :=
  bd (σ.1 35) fun v44 =>
  if v44 ≤ l2 then
    fX12_goOn_0b63 K7 σ
  else
    fX12_goOn_0b50 K7 K42 l2 σ
noncomputable def fX12_goOn_0l42 (K7 : Int32 → ST → (Int32 × ST)) : Nat → Int32 → ST → (Int32 × ST)
  | 0, _, σ => (0, σ)
  | fu + 1, l2, σ => fX12_goOn_0b42 K7 (fX12_goOn_0l42 K7 fu) l2 σ
noncomputable def fX12_goOn_0b28 (K7 : Int32 → ST → (Int32 × ST)) (l1 : Int32) (σ : ST) : (Int32 × ST) :=
  bd (σ.2.2 85 l1.toNatClampNeg) fun v34 =>
  bd (v34 + 1) fun v36 =>
  bd (sA σ 85 (upd (σ.2.2 85) l1.toNatClampNeg v36)) fun s37 =>
  bd (l1 + 1) fun v40 =>
  fX12_goOn_0l42 K7 4096 v40 s37
noncomputable def fX12_goOn_0b11 (K7 : Int32 → ST → (Int32 × ST)) (l1 : Int32) (σ : ST) : (Int32 × ST) :=
  bd (σ.2.2 85 l1.toNatClampNeg) fun v16 =>
  bd (fX12_heapsIn_0 l1 σ) fun v22 =>
  if v22 ≤ v16 then
    fX12_goOn_0b65 K7 l1 σ
  else
    fX12_goOn_0b28 K7 l1 σ
noncomputable def fX12_goOn_0b7 (K7 : Int32 → ST → (Int32 × ST)) (l1 : Int32) (σ : ST) : (Int32 × ST) :=
  if l1 ≤ 0 then
    fX12_goOn_0b71 σ
  else
    fX12_goOn_0b11 K7 l1 σ
noncomputable def fX12_goOn_0l7 : Nat → Int32 → ST → (Int32 × ST)
  | 0, _, σ => (0, σ)
  | fu + 1, l1, σ => fX12_goOn_0b7 (fX12_goOn_0l7 fu) l1 σ
noncomputable def fX12_goOn_0b0 (σ : ST) : (Int32 × ST) :=
  bd (σ.1 35) fun v1 =>
  bd (v1 - 1) fun v5 =>
  fX12_goOn_0l7 4096 v5 σ
noncomputable def fX12_goOn_0  (σ : ST) : (Int32 × ST) := fX12_goOn_0b0  σ
noncomputable def fX12_findBest_0b99 (σ : ST) : (Int32 × ST) :=
  (1, σ)
noncomputable def fX12_findBest_0b89 (K27 : Int32 → Int32 → ST → (Int32 × ST)) (σ : ST) : (Int32 × ST) :=
  bp (fX12_goOn_0 σ) fun v92 s92 =>
  K27 v92 1 s92
noncomputable def fX12_findBest_0b69 (K27 : Int32 → Int32 → ST → (Int32 × ST)) (K60 : Int32 → ST → (Int32 × ST)) (l4 : Int32) (σ : ST) : (Int32 × ST) :=
  bd (σ.2.2 85 l4.toNatClampNeg) fun v81 =>
  bd (sA σ 86 (upd (σ.2.2 86) l4.toNatClampNeg v81)) fun s82 =>
  bd (l4 + 1) fun v83 =>
  K60 v83 s82
noncomputable def fX12_findBest_0b60 (K27 : Int32 → Int32 → ST → (Int32 × ST)) (K60 : Int32 → ST → (Int32 × ST)) (l4 : Int32) (σ : ST) : (Int32 × ST) :=
  bd (σ.1 35) fun v63 =>
  if v63 ≤ l4 then
    fX12_findBest_0b89 K27 σ
  else
    fX12_findBest_0b69 K27 K60 l4 σ
noncomputable def fX12_findBest_0l60 (K27 : Int32 → Int32 → ST → (Int32 × ST)) : Nat → Int32 → ST → (Int32 × ST)
  | 0, _, σ => (0, σ)
  | fu + 1, l4, σ => fX12_findBest_0b60 K27 (fX12_findBest_0l60 K27 fu) l4 σ
noncomputable def fX12_findBest_0b52 (K27 : Int32 → Int32 → ST → (Int32 × ST)) (l3 : Int32) (σ : ST) : (Int32 × ST) :=
  bd (sI σ 39 l3) fun s54 =>
  fX12_findBest_0l60 K27 4096 0 s54
noncomputable def fX12_findBest_0b44 (K27 : Int32 → Int32 → ST → (Int32 × ST)) (l3 : Int32) (σ : ST) : (Int32 × ST) :=
  bd (σ.1 39) fun v46 =>
  if l3 ≤ v46 then
    fX12_findBest_0b89 K27 σ
  else
    fX12_findBest_0b52 K27 l3 σ
noncomputable def fX12_findBest_0b31 (K27 : Int32 → Int32 → ST → (Int32 × ST)) (l2 : Int32) (σ : ST) : (Int32 × ST) :=
  bd (fX12_worthOf_0 σ) fun v36 =>
  if l2 = 0 then
    fX12_findBest_0b52 K27 v36 σ
  else
    fX12_findBest_0b44 K27 v36 σ
noncomputable def fX12_findBest_0b27 (K27 : Int32 → Int32 → ST → (Int32 × ST)) (l1 : Int32) (l2 : Int32) (σ : ST) : (Int32 × ST) :=
  if l1 = 0 then
    fX12_findBest_0b99 σ
  else
    fX12_findBest_0b31 K27 l2 σ
noncomputable def fX12_findBest_0l27 : Nat → Int32 → Int32 → ST → (Int32 × ST)
  | 0, _, _, σ => (0, σ)
  | fu + 1, l1, l2, σ => fX12_findBest_0b27 (fX12_findBest_0l27 fu) l1 l2 σ
noncomputable def fX12_findBest_0b15 (σ : ST) : (Int32 × ST) :=
  bd (fX12_findGains_0 σ) fun s16 =>
  bd (fX12_begin_0 s16) fun s20 =>
  fX12_findBest_0l27 1000000002 1 0 s20
noncomputable def fX12_findBest_0b13 (σ : ST) : (Int32 × ST) :=
  (0, σ)
noncomputable def fX12_findBest_0b0 (σ : ST) : (Int32 × ST) :=
  bd (fX12_findPieces_0 σ) fun s1 =>
  bd (s1.1 35) fun v5 =>
  if v5 ≤ 9 then
    fX12_findBest_0b15 s1
  else
    fX12_findBest_0b13 s1
noncomputable def fX12_findBest_0  (σ : ST) : (Int32 × ST) := fX12_findBest_0b0  σ
noncomputable def fX12_join_0b364 (σ : ST) : ST :=
  σ
noncomputable def fX12_join_0b346 (K338 : Int32 → ST → ST) (l3 : Int32) (σ : ST) : ST :=
  bd (σ.2.2 85 l3.toNatClampNeg) fun v356 =>
  bd (sA σ 87 (upd (σ.2.2 87) l3.toNatClampNeg v356)) fun s357 =>
  bd (l3 + 1) fun v358 =>
  K338 v358 s357
noncomputable def fX12_join_0b338 (K338 : Int32 → ST → ST) (l3 : Int32) (σ : ST) : ST :=
  bd (σ.1 35) fun v340 =>
  if v340 ≤ l3 then
    fX12_join_0b364 σ
  else
    fX12_join_0b346 K338 l3 σ
noncomputable def fX12_join_0l338 : Nat → Int32 → ST → ST
  | 0, _, σ => σ
  | fu + 1, l3, σ => fX12_join_0b338 (fX12_join_0l338 fu) l3 σ
noncomputable def fX12_join_0b336 (σ : ST) : ST :=
  fX12_join_0l338 4096 0 σ
noncomputable def fX12_join_0b328 (K273 : Int32 → Int32 → ST → ST) (l3 : Int32) (t0 : Int32) (t1 : Int32) (σ : ST) : ST :=
  bd (t1 + t0) fun v328 =>
  bd (l3 + 1) fun v330 =>
  K273 v328 v330 σ
noncomputable def fX12_join_0b327 (K273 : Int32 → Int32 → ST → ST) (l3 : Int32) (t0 : Int32) (σ : ST) : ST :=
  fX12_join_0b328 K273 l3 0 t0 σ
noncomputable def fX12_join_0b323 (K273 : Int32 → Int32 → ST → ST) (l3 : Int32) (t0 : Int32) (σ : ST) : ST :=
  fX12_join_0b328 K273 l3 1 t0 σ
noncomputable def fX12_join_0b311 (K273 : Int32 → Int32 → ST → ST) (l2 : Int32) (l3 : Int32) (t0 : Int32) (t1 : Int32) (σ : ST) : ST :=
  bd (sA σ 85 (upd (σ.2.2 85) t1.toNatClampNeg t0)) fun s311 =>
  bd (s311.2.2 87 l3.toNatClampNeg) fun v318 =>
  if v318 = l3 then
    fX12_join_0b323 K273 l3 l2 s311
  else
    fX12_join_0b327 K273 l3 l2 s311
noncomputable def fX12_join_0b300 (K273 : Int32 → Int32 → ST → ST) (l2 : Int32) (l3 : Int32) (t0 : Int32) (σ : ST) : ST :=
  bd (σ.2.2 87 l3.toNatClampNeg) fun v309 =>
  bd (σ.2.2 85 v309.toNatClampNeg) fun v310 =>
  fX12_join_0b311 K273 l2 l3 v310 t0 σ
noncomputable def fX12_join_0b296 (K273 : Int32 → Int32 → ST → ST) (l2 : Int32) (l3 : Int32) (t0 : Int32) (σ : ST) : ST :=
  fX12_join_0b311 K273 l2 l3 l2 t0 σ
noncomputable def fX12_join_0b281 (K273 : Int32 → Int32 → ST → ST) (l2 : Int32) (l3 : Int32) (σ : ST) : ST :=
  bd (σ.2.2 87 l3.toNatClampNeg) fun v291 =>
  if v291 = l3 then
    fX12_join_0b296 K273 l2 l3 l3 σ
  else
    fX12_join_0b300 K273 l2 l3 l3 σ
noncomputable def fX12_join_0b273 (K273 : Int32 → Int32 → ST → ST) (l2 : Int32) (l3 : Int32) (σ : ST) : ST :=
  bd (σ.1 35) fun v275 =>
  if v275 ≤ l3 then
    fX12_join_0b336 σ
  else
    fX12_join_0b281 K273 l2 l3 σ
noncomputable def fX12_join_0l273 : Nat → Int32 → Int32 → ST → ST
  | 0, _, _, σ => σ
  | fu + 1, l2, l3, σ => fX12_join_0b273 (fX12_join_0l273 fu) l2 l3 σ
noncomputable def fX12_join_0b269 (σ : ST) : ST :=
  fX12_join_0l273 4096 0 0 σ
noncomputable def fX12_join_0b266 (K25 : Int32 → ST → ST) (l1 : Int32) (σ : ST) : ST :=
  K25 l1 σ
noncomputable def fX12_join_0b259 (K25 : Int32 → ST → ST) (K218 : Int32 → Int32 → Int32 → Int32 → ST → ST) (l1 : Int32) (l2 : Int32) (l3 : Int32) (l5 : Int32) (t0 : Int32) (t1 : Int32) (σ : ST) : ST :=
  bd (sA σ 87 (upd (σ.2.2 87) t1.toNatClampNeg t0)) fun s259 =>
  bd (l5 + 1) fun v260 =>
  K218 l1 l2 l3 v260 s259
noncomputable def fX12_join_0b252 (K25 : Int32 → ST → ST) (K218 : Int32 → Int32 → Int32 → Int32 → ST → ST) (l1 : Int32) (l2 : Int32) (l3 : Int32) (l5 : Int32) (t0 : Int32) (σ : ST) : ST :=
  bd (σ.2.2 87 l5.toNatClampNeg) fun v258 =>
  fX12_join_0b259 K25 K218 l1 l2 l3 l5 v258 t0 σ
noncomputable def fX12_join_0b248 (K25 : Int32 → ST → ST) (K218 : Int32 → Int32 → Int32 → Int32 → ST → ST) (l1 : Int32) (l2 : Int32) (l3 : Int32) (l5 : Int32) (t0 : Int32) (σ : ST) : ST :=
  fX12_join_0b259 K25 K218 l1 l2 l3 l5 l2 t0 σ
noncomputable def fX12_join_0b231 (K25 : Int32 → ST → ST) (K218 : Int32 → Int32 → Int32 → Int32 → ST → ST) (l1 : Int32) (l2 : Int32) (l3 : Int32) (l5 : Int32) (σ : ST) : ST :=
  bd (σ.2.2 87 l5.toNatClampNeg) fun v243 =>
  if v243 = l3 then
    fX12_join_0b248 K25 K218 l1 l2 l3 l5 l5 σ
  else
    fX12_join_0b252 K25 K218 l1 l2 l3 l5 l5 σ
noncomputable def fX12_join_0b227 (K25 : Int32 → ST → ST) (K218 : Int32 → Int32 → Int32 → Int32 → ST → ST) (l1 : Int32) (l2 : Int32) (l3 : Int32) (l5 : Int32) (σ : ST) : ST :=
  if l1 = 0 then
    fX12_join_0b266 K25 l1 σ
  else
    fX12_join_0b231 K25 K218 l1 l2 l3 l5 σ
noncomputable def fX12_join_0b218 (K25 : Int32 → ST → ST) (K218 : Int32 → Int32 → Int32 → Int32 → ST → ST) (l1 : Int32) (l2 : Int32) (l3 : Int32) (l5 : Int32) (σ : ST) : ST :=
  bd (σ.1 35) fun v221 =>
  if v221 ≤ l5 then
    fX12_join_0b266 K25 l1 σ
  else
    fX12_join_0b227 K25 K218 l1 l2 l3 l5 σ
noncomputable def fX12_join_0l218 (K25 : Int32 → ST → ST) : Nat → Int32 → Int32 → Int32 → Int32 → ST → ST
  | 0, _, _, _, _, σ => σ
  | fu + 1, l1, l2, l3, l5, σ => fX12_join_0b218 K25 (fX12_join_0l218 K25 fu) l1 l2 l3 l5 σ
noncomputable def fX12_join_0b214 (K25 : Int32 → ST → ST) (l2 : Int32) (l3 : Int32) (t0 : Int32) (σ : ST) : ST :=
  fX12_join_0l218 K25 4096 t0 l2 l3 0 σ
noncomputable def fX12_join_0b213 (K25 : Int32 → ST → ST) (l2 : Int32) (l3 : Int32) (σ : ST) : ST :=
  fX12_join_0b214 K25 l2 l3 0 σ
noncomputable def fX12_join_0b209 (K25 : Int32 → ST → ST) (l2 : Int32) (l3 : Int32) (σ : ST) : ST :=
  fX12_join_0b214 K25 l2 l3 1 σ
noncomputable def fX12_join_0b203 (K25 : Int32 → ST → ST) (l2 : Int32) (l3 : Int32) (σ : ST) : ST :=
  if l2 = (-9) then
    fX12_join_0b213 K25 l2 l3 σ
  else
    fX12_join_0b209 K25 l2 l3 σ
noncomputable def fX12_join_0b197 (K25 : Int32 → ST → ST) (K41 : Int32 → Int32 → Int32 → Int32 → ST → ST) (l2 : Int32) (l3 : Int32) (l4 : Int32) (l5 : Int32) (σ : ST) : ST :=
  bd (l5 + 1) fun v197 =>
  K41 l2 l3 l4 v197 σ
noncomputable def fX12_join_0b191 (K25 : Int32 → ST → ST) (K41 : Int32 → Int32 → Int32 → Int32 → ST → ST) (K56 : Int32 → Int32 → Int32 → Int32 → Int32 → ST → ST) (l2 : Int32) (l3 : Int32) (l4 : Int32) (l5 : Int32) (l6 : Int32) (σ : ST) : ST :=
  bd (l6 + 1) fun v191 =>
  K56 l2 l3 l4 l5 v191 σ
noncomputable def fX12_join_0b181 (K25 : Int32 → ST → ST) (K41 : Int32 → Int32 → Int32 → Int32 → ST → ST) (K56 : Int32 → Int32 → Int32 → Int32 → Int32 → ST → ST) (l5 : Int32) (l6 : Int32) (l7 : Int32) (σ : ST) : ST :=
  fX12_join_0b191 K25 K41 K56 l5 l6 l7 l5 l6 σ
noncomputable def fX12_join_0b174 (K25 : Int32 → ST → ST) (K41 : Int32 → Int32 → Int32 → Int32 → ST → ST) (K56 : Int32 → Int32 → Int32 → Int32 → Int32 → ST → ST) (l2 : Int32) (l3 : Int32) (l4 : Int32) (l5 : Int32) (l6 : Int32) (l7 : Int32) (σ : ST) : ST :=
  if l7 ≤ l4 then
    fX12_join_0b191 K25 K41 K56 l2 l3 l4 l5 l6 σ
  else
    fX12_join_0b181 K25 K41 K56 l5 l6 l7 σ
noncomputable def fX12_join_0b168 (K25 : Int32 → ST → ST) (K41 : Int32 → Int32 → Int32 → Int32 → ST → ST) (K56 : Int32 → Int32 → Int32 → Int32 → Int32 → ST → ST) (K95 : Int32 → Int32 → Int32 → Int32 → Int32 → Int32 → Int32 → ST → ST) (l2 : Int32) (l3 : Int32) (l4 : Int32) (l5 : Int32) (l6 : Int32) (l7 : Int32) (l8 : Int32) (σ : ST) : ST :=
  bd (l8 + 1) fun v168 =>
  K95 l2 l3 l4 l5 l6 l7 v168 σ
noncomputable def fX12_join_0b159 (K25 : Int32 → ST → ST) (K41 : Int32 → Int32 → Int32 → Int32 → ST → ST) (K56 : Int32 → Int32 → Int32 → Int32 → Int32 → ST → ST) (K95 : Int32 → Int32 → Int32 → Int32 → Int32 → Int32 → Int32 → ST → ST) (K107 : Int32 → Int32 → Int32 → Int32 → Int32 → Int32 → Int32 → Int32 → ST → ST) (l2 : Int32) (l3 : Int32) (l4 : Int32) (l5 : Int32) (l6 : Int32) (l8 : Int32) (l9 : Int32) (t0 : Int32) (t1 : Int32) (σ : ST) : ST :=
  bd (t1 + t0) fun v159 =>
  bd (l9 + 1) fun v162 =>
  K107 l2 l3 l4 l5 l6 v159 l8 v162 σ
noncomputable def fX12_join_0b158 (K25 : Int32 → ST → ST) (K41 : Int32 → Int32 → Int32 → Int32 → ST → ST) (K56 : Int32 → Int32 → Int32 → Int32 → Int32 → ST → ST) (K95 : Int32 → Int32 → Int32 → Int32 → Int32 → Int32 → Int32 → ST → ST) (K107 : Int32 → Int32 → Int32 → Int32 → Int32 → Int32 → Int32 → Int32 → ST → ST) (l2 : Int32) (l3 : Int32) (l4 : Int32) (l5 : Int32) (l6 : Int32) (l8 : Int32) (l9 : Int32) (t0 : Int32) (σ : ST) : ST :=
  fX12_join_0b159 K25 K41 K56 K95 K107 l2 l3 l4 l5 l6 l8 l9 0 t0 σ
noncomputable def fX12_join_0b142 (K25 : Int32 → ST → ST) (K41 : Int32 → Int32 → Int32 → Int32 → ST → ST) (K56 : Int32 → Int32 → Int32 → Int32 → Int32 → ST → ST) (K95 : Int32 → Int32 → Int32 → Int32 → Int32 → Int32 → Int32 → ST → ST) (K107 : Int32 → Int32 → Int32 → Int32 → Int32 → Int32 → Int32 → Int32 → ST → ST) (l2 : Int32) (l3 : Int32) (l4 : Int32) (l5 : Int32) (l6 : Int32) (l8 : Int32) (l9 : Int32) (t0 : Int32) (σ : ST) : ST :=
  bd ((9 : Int32) * l8) fun v150 =>
  bd (v150 + l9) fun v153 =>
  bd (σ.2.2 88 v153.toNatClampNeg) fun v154 =>
  fX12_join_0b159 K25 K41 K56 K95 K107 l2 l3 l4 l5 l6 l8 l9 v154 t0 σ
noncomputable def fX12_join_0b130 (K25 : Int32 → ST → ST) (K41 : Int32 → Int32 → Int32 → Int32 → ST → ST) (K56 : Int32 → Int32 → Int32 → Int32 → Int32 → ST → ST) (K95 : Int32 → Int32 → Int32 → Int32 → Int32 → Int32 → Int32 → ST → ST) (K107 : Int32 → Int32 → Int32 → Int32 → Int32 → Int32 → Int32 → Int32 → ST → ST) (l2 : Int32) (l3 : Int32) (l4 : Int32) (l5 : Int32) (l6 : Int32) (l8 : Int32) (l9 : Int32) (t0 : Int32) (σ : ST) : ST :=
  bd (σ.2.2 87 l9.toNatClampNeg) fun v136 =>
  if v136 = l6 then
    fX12_join_0b142 K25 K41 K56 K95 K107 l2 l3 l4 l5 l6 l8 l9 t0 σ
  else
    fX12_join_0b158 K25 K41 K56 K95 K107 l2 l3 l4 l5 l6 l8 l9 t0 σ
noncomputable def fX12_join_0b116 (K25 : Int32 → ST → ST) (K41 : Int32 → Int32 → Int32 → Int32 → ST → ST) (K56 : Int32 → Int32 → Int32 → Int32 → Int32 → ST → ST) (K95 : Int32 → Int32 → Int32 → Int32 → Int32 → Int32 → Int32 → ST → ST) (K107 : Int32 → Int32 → Int32 → Int32 → Int32 → Int32 → Int32 → Int32 → ST → ST) (l2 : Int32) (l3 : Int32) (l4 : Int32) (l5 : Int32) (l6 : Int32) (l7 : Int32) (l8 : Int32) (l9 : Int32) (σ : ST) : ST :=
  bd (σ.2.2 87 l8.toNatClampNeg) fun v124 =>
  if v124 = l5 then
    fX12_join_0b130 K25 K41 K56 K95 K107 l2 l3 l4 l5 l6 l8 l9 l7 σ
  else
    fX12_join_0b158 K25 K41 K56 K95 K107 l2 l3 l4 l5 l6 l8 l9 l7 σ
noncomputable def fX12_join_0b107 (K25 : Int32 → ST → ST) (K41 : Int32 → Int32 → Int32 → Int32 → ST → ST) (K56 : Int32 → Int32 → Int32 → Int32 → Int32 → ST → ST) (K95 : Int32 → Int32 → Int32 → Int32 → Int32 → Int32 → Int32 → ST → ST) (K107 : Int32 → Int32 → Int32 → Int32 → Int32 → Int32 → Int32 → Int32 → ST → ST) (l2 : Int32) (l3 : Int32) (l4 : Int32) (l5 : Int32) (l6 : Int32) (l7 : Int32) (l8 : Int32) (l9 : Int32) (σ : ST) : ST :=
  bd (σ.1 35) fun v110 =>
  if v110 ≤ l9 then
    fX12_join_0b168 K25 K41 K56 K95 l2 l3 l4 l5 l6 l7 l8 σ
  else
    fX12_join_0b116 K25 K41 K56 K95 K107 l2 l3 l4 l5 l6 l7 l8 l9 σ
noncomputable def fX12_join_0l107 (K25 : Int32 → ST → ST) (K41 : Int32 → Int32 → Int32 → Int32 → ST → ST) (K56 : Int32 → Int32 → Int32 → Int32 → Int32 → ST → ST) (K95 : Int32 → Int32 → Int32 → Int32 → Int32 → Int32 → Int32 → ST → ST) : Nat → Int32 → Int32 → Int32 → Int32 → Int32 → Int32 → Int32 → Int32 → ST → ST
  | 0, _, _, _, _, _, _, _, _, σ => σ
  | fu + 1, l2, l3, l4, l5, l6, l7, l8, l9, σ => fX12_join_0b107 K25 K41 K56 K95 (fX12_join_0l107 K25 K41 K56 K95 fu) l2 l3 l4 l5 l6 l7 l8 l9 σ
noncomputable def fX12_join_0b104 (K25 : Int32 → ST → ST) (K41 : Int32 → Int32 → Int32 → Int32 → ST → ST) (K56 : Int32 → Int32 → Int32 → Int32 → Int32 → ST → ST) (K95 : Int32 → Int32 → Int32 → Int32 → Int32 → Int32 → Int32 → ST → ST) (l2 : Int32) (l3 : Int32) (l4 : Int32) (l5 : Int32) (l6 : Int32) (l7 : Int32) (l8 : Int32) (σ : ST) : ST :=
  fX12_join_0l107 K25 K41 K56 K95 4096 l2 l3 l4 l5 l6 l7 l8 0 σ
noncomputable def fX12_join_0b95 (K25 : Int32 → ST → ST) (K41 : Int32 → Int32 → Int32 → Int32 → ST → ST) (K56 : Int32 → Int32 → Int32 → Int32 → Int32 → ST → ST) (K95 : Int32 → Int32 → Int32 → Int32 → Int32 → Int32 → Int32 → ST → ST) (l2 : Int32) (l3 : Int32) (l4 : Int32) (l5 : Int32) (l6 : Int32) (l7 : Int32) (l8 : Int32) (σ : ST) : ST :=
  bd (σ.1 35) fun v98 =>
  if v98 ≤ l8 then
    fX12_join_0b174 K25 K41 K56 l2 l3 l4 l5 l6 l7 σ
  else
    fX12_join_0b104 K25 K41 K56 K95 l2 l3 l4 l5 l6 l7 l8 σ
noncomputable def fX12_join_0l95 (K25 : Int32 → ST → ST) (K41 : Int32 → Int32 → Int32 → Int32 → ST → ST) (K56 : Int32 → Int32 → Int32 → Int32 → Int32 → ST → ST) : Nat → Int32 → Int32 → Int32 → Int32 → Int32 → Int32 → Int32 → ST → ST
  | 0, _, _, _, _, _, _, _, σ => σ
  | fu + 1, l2, l3, l4, l5, l6, l7, l8, σ => fX12_join_0b95 K25 K41 K56 (fX12_join_0l95 K25 K41 K56 fu) l2 l3 l4 l5 l6 l7 l8 σ
noncomputable def fX12_join_0b89 (K25 : Int32 → ST → ST) (K41 : Int32 → Int32 → Int32 → Int32 → ST → ST) (K56 : Int32 → Int32 → Int32 → Int32 → Int32 → ST → ST) (l2 : Int32) (l3 : Int32) (l4 : Int32) (l5 : Int32) (l6 : Int32) (σ : ST) : ST :=
  fX12_join_0l95 K25 K41 K56 4096 l2 l3 l4 l5 l6 0 0 σ
noncomputable def fX12_join_0b77 (K25 : Int32 → ST → ST) (K41 : Int32 → Int32 → Int32 → Int32 → ST → ST) (K56 : Int32 → Int32 → Int32 → Int32 → Int32 → ST → ST) (l2 : Int32) (l3 : Int32) (l4 : Int32) (l5 : Int32) (l6 : Int32) (σ : ST) : ST :=
  bd (σ.2.2 87 l6.toNatClampNeg) fun v83 =>
  if v83 = l6 then
    fX12_join_0b89 K25 K41 K56 l2 l3 l4 l5 l6 σ
  else
    fX12_join_0b191 K25 K41 K56 l2 l3 l4 l5 l6 σ
noncomputable def fX12_join_0b65 (K25 : Int32 → ST → ST) (K41 : Int32 → Int32 → Int32 → Int32 → ST → ST) (K56 : Int32 → Int32 → Int32 → Int32 → Int32 → ST → ST) (l2 : Int32) (l3 : Int32) (l4 : Int32) (l5 : Int32) (l6 : Int32) (σ : ST) : ST :=
  bd (σ.2.2 87 l5.toNatClampNeg) fun v71 =>
  if v71 = l5 then
    fX12_join_0b77 K25 K41 K56 l2 l3 l4 l5 l6 σ
  else
    fX12_join_0b191 K25 K41 K56 l2 l3 l4 l5 l6 σ
noncomputable def fX12_join_0b56 (K25 : Int32 → ST → ST) (K41 : Int32 → Int32 → Int32 → Int32 → ST → ST) (K56 : Int32 → Int32 → Int32 → Int32 → Int32 → ST → ST) (l2 : Int32) (l3 : Int32) (l4 : Int32) (l5 : Int32) (l6 : Int32) (σ : ST) : ST :=
  bd (σ.1 35) fun v59 =>
  if v59 ≤ l6 then
    fX12_join_0b197 K25 K41 l2 l3 l4 l5 σ
  else
    fX12_join_0b65 K25 K41 K56 l2 l3 l4 l5 l6 σ
noncomputable def fX12_join_0l56 (K25 : Int32 → ST → ST) (K41 : Int32 → Int32 → Int32 → Int32 → ST → ST) : Nat → Int32 → Int32 → Int32 → Int32 → Int32 → ST → ST
  | 0, _, _, _, _, _, σ => σ
  | fu + 1, l2, l3, l4, l5, l6, σ => fX12_join_0b56 K25 K41 (fX12_join_0l56 K25 K41 fu) l2 l3 l4 l5 l6 σ
noncomputable def fX12_join_0b50 (K25 : Int32 → ST → ST) (K41 : Int32 → Int32 → Int32 → Int32 → ST → ST) (l2 : Int32) (l3 : Int32) (l4 : Int32) (l5 : Int32) (σ : ST) : ST :=
  bd (l5 + 1) fun v53 =>
  fX12_join_0l56 K25 K41 4096 l2 l3 l4 l5 v53 σ
noncomputable def fX12_join_0b41 (K25 : Int32 → ST → ST) (K41 : Int32 → Int32 → Int32 → Int32 → ST → ST) (l2 : Int32) (l3 : Int32) (l4 : Int32) (l5 : Int32) (σ : ST) : ST :=
  bd (σ.1 35) fun v44 =>
  if v44 ≤ l5 then
    fX12_join_0b203 K25 l2 l3 σ
  else
    fX12_join_0b50 K25 K41 l2 l3 l4 l5 σ
noncomputable def fX12_join_0l41 (K25 : Int32 → ST → ST) : Nat → Int32 → Int32 → Int32 → Int32 → ST → ST
  | 0, _, _, _, _, σ => σ
  | fu + 1, l2, l3, l4, l5, σ => fX12_join_0b41 K25 (fX12_join_0l41 K25 fu) l2 l3 l4 l5 σ
noncomputable def fX12_join_0b29 (K25 : Int32 → ST → ST) (σ : ST) : ST :=
  fX12_join_0l41 K25 4096 (-9) (-9) 0 0 σ
noncomputable def fX12_join_0b25 (K25 : Int32 → ST → ST) (l1 : Int32) (σ : ST) : ST :=
  if l1 = 0 then
    fX12_join_0b269 σ
  else
    fX12_join_0b29 K25 σ
noncomputable def fX12_join_0l25 : Nat → Int32 → ST → ST
  | 0, _, σ => σ
  | fu + 1, l1, σ => fX12_join_0b25 (fX12_join_0l25 fu) l1 σ
noncomputable def fX12_join_0b23 (σ : ST) : ST :=
  fX12_join_0l25 4096 1 σ
noncomputable def fX12_join_0b10 (K2 : Int32 → ST → ST) (l1 : Int32) (σ : ST) : ST :=
  bd (sA σ 87 (upd (σ.2.2 87) l1.toNatClampNeg l1)) fun s16 =>
  bd (l1 + 1) fun v17 =>
  K2 v17 s16
noncomputable def fX12_join_0b2 (K2 : Int32 → ST → ST) (l1 : Int32) (σ : ST) : ST :=
  bd (σ.1 35) fun v4 =>
  if v4 ≤ l1 then
    fX12_join_0b23 σ
  else
    fX12_join_0b10 K2 l1 σ
noncomputable def fX12_join_0l2 : Nat → Int32 → ST → ST
  | 0, _, σ => σ
  | fu + 1, l1, σ => fX12_join_0b2 (fX12_join_0l2 fu) l1 σ
noncomputable def fX12_join_0b0 (σ : ST) : ST :=
  fX12_join_0l2 4096 0 σ
noncomputable def fX12_join_0  (σ : ST) : ST := fX12_join_0b0  σ
noncomputable def fX12_heap_0b21 (σ : ST) : (Int32 × ST) :=
  ((-1), σ)
noncomputable def fX12_heap_0b56 (t0 : Int32) (σ : ST) : (Int32 × ST) :=
  (t0, σ)
noncomputable def fX12_heap_0b50 (l1 : Int32) (σ : ST) : (Int32 × ST) :=
  bd (σ.2.2 87 l1.toNatClampNeg) fun v55 =>
  fX12_heap_0b56 v55 σ
noncomputable def fX12_heap_0b41 (l1 : Int32) (σ : ST) : (Int32 × ST) :=
  bd (σ.2.2 86 l1.toNatClampNeg) fun v46 =>
  fX12_heap_0b56 v46 σ
noncomputable def fX12_heap_0b33 (l1 : Int32) (l2 : Int32) (σ : ST) : (Int32 × ST) :=
  bd (fX12_join_0 σ) fun s34 =>
  if l2 = 0 then
    fX12_heap_0b41 l1 s34
  else
    fX12_heap_0b50 l1 s34
noncomputable def fX12_heap_0b30 (σ : ST) : (Int32 × ST) :=
  ((-2), σ)
noncomputable def fX12_heap_0b23 (l1 : Int32) (l2 : Int32) (σ : ST) : (Int32 × ST) :=
  bp (fX12_findBest_0 σ) fun v24 s24 =>
  if v24 = 0 then
    fX12_heap_0b30 s24
  else
    fX12_heap_0b33 l1 l2 s24
noncomputable def fX12_heap_0b12 (l1 : Int32) (l2 : Int32) (σ : ST) : (Int32 × ST) :=
  bd (fX12_in_0 l2 0 1 σ) fun v15 =>
  if v15 = 0 then
    fX12_heap_0b21 σ
  else
    fX12_heap_0b23 l1 l2 σ
noncomputable def fX12_heap_0b0 (l1 : Int32) (l2 : Int32) (σ : ST) : (Int32 × ST) :=
  bd (fX12_findPieces_0 σ) fun s1 =>
  bd (fX12_isPiece_0 l1 s1) fun v6 =>
  if v6 = 0 then
    fX12_heap_0b21 s1
  else
    fX12_heap_0b12 l1 l2 s1
noncomputable def fX12_heap_0 (p1 : Int32) (p2 : Int32) (σ : ST) : (Int32 × ST) := fX12_heap_0b0 p1 p2 σ
noncomputable def fX12_worthOf_1b62 (l2 : Int32) (σ : ST) : Int32 :=
  l2
noncomputable def fX12_worthOf_1b56 (K4 : Int32 → Int32 → ST → Int32) (l2 : Int32) (l3 : Int32) (σ : ST) : Int32 :=
  bd (l3 + 1) fun v56 =>
  K4 l2 v56 σ
noncomputable def fX12_worthOf_1b48 (K4 : Int32 → Int32 → ST → Int32) (K15 : Int32 → Int32 → Int32 → ST → Int32) (l3 : Int32) (l4 : Int32) (t0 : Int32) (t1 : Int32) (σ : ST) : Int32 :=
  bd (t1 + t0) fun v48 =>
  bd (l4 + 1) fun v50 =>
  K15 v48 l3 v50 σ
noncomputable def fX12_worthOf_1b47 (K4 : Int32 → Int32 → ST → Int32) (K15 : Int32 → Int32 → Int32 → ST → Int32) (l3 : Int32) (l4 : Int32) (t0 : Int32) (σ : ST) : Int32 :=
  fX12_worthOf_1b48 K4 K15 l3 l4 0 t0 σ
noncomputable def fX12_worthOf_1b32 (K4 : Int32 → Int32 → ST → Int32) (K15 : Int32 → Int32 → Int32 → ST → Int32) (l3 : Int32) (l4 : Int32) (t0 : Int32) (σ : ST) : Int32 :=
  bd ((9 : Int32) * l3) fun v39 =>
  bd (v39 + l4) fun v42 =>
  bd (σ.2.2 88 v42.toNatClampNeg) fun v43 =>
  fX12_worthOf_1b48 K4 K15 l3 l4 v43 t0 σ
noncomputable def fX12_worthOf_1b21 (K4 : Int32 → Int32 → ST → Int32) (K15 : Int32 → Int32 → Int32 → ST → Int32) (l2 : Int32) (l3 : Int32) (l4 : Int32) (σ : ST) : Int32 :=
  bd (σ.2.2 87 l3.toNatClampNeg) fun v24 =>
  bd (σ.2.2 87 l4.toNatClampNeg) fun v28 =>
  if v24 = v28 then
    fX12_worthOf_1b32 K4 K15 l3 l4 l2 σ
  else
    fX12_worthOf_1b47 K4 K15 l3 l4 l2 σ
noncomputable def fX12_worthOf_1b15 (K4 : Int32 → Int32 → ST → Int32) (K15 : Int32 → Int32 → Int32 → ST → Int32) (l2 : Int32) (l3 : Int32) (l4 : Int32) (σ : ST) : Int32 :=
  if l3 ≤ l4 then
    fX12_worthOf_1b56 K4 l2 l3 σ
  else
    fX12_worthOf_1b21 K4 K15 l2 l3 l4 σ
noncomputable def fX12_worthOf_1l15 (K4 : Int32 → Int32 → ST → Int32) : Nat → Int32 → Int32 → Int32 → ST → Int32
  | 0, _, _, _, σ => 0
  | fu + 1, l2, l3, l4, σ => fX12_worthOf_1b15 K4 (fX12_worthOf_1l15 K4 fu) l2 l3 l4 σ
noncomputable def fX12_worthOf_1b12 (K4 : Int32 → Int32 → ST → Int32) (l2 : Int32) (l3 : Int32) (σ : ST) : Int32 :=
  fX12_worthOf_1l15 K4 4096 l2 l3 0 σ
noncomputable def fX12_worthOf_1b4 (K4 : Int32 → Int32 → ST → Int32) (l2 : Int32) (l3 : Int32) (σ : ST) : Int32 :=
  bd (σ.1 35) fun v6 =>
  if v6 ≤ l3 then
    fX12_worthOf_1b62 l2 σ
  else
    fX12_worthOf_1b12 K4 l2 l3 σ
noncomputable def fX12_worthOf_1l4 : Nat → Int32 → Int32 → ST → Int32
  | 0, _, _, σ => 0
  | fu + 1, l2, l3, σ => fX12_worthOf_1b4 (fX12_worthOf_1l4 fu) l2 l3 σ
noncomputable def fX12_worthOf_1b0 (σ : ST) : Int32 :=
  fX12_worthOf_1l4 4096 0 0 σ
noncomputable def fX12_worthOf_1  (σ : ST) : Int32 := fX12_worthOf_1b0  σ
noncomputable def fX12_worth_0b16 (σ : ST) : (Int32 × ST) :=
  ((-1000000), σ)
noncomputable def fX12_worth_0b42 (t0 : Int32) (σ : ST) : (Int32 × ST) :=
  (t0, σ)
noncomputable def fX12_worth_0b34 (σ : ST) : (Int32 × ST) :=
  bd (fX12_worthOf_1 σ) fun v39 =>
  fX12_worth_0b42 v39 σ
noncomputable def fX12_worth_0b27 (σ : ST) : (Int32 × ST) :=
  bd (σ.1 39) fun v28 =>
  fX12_worth_0b42 v28 σ
noncomputable def fX12_worth_0b19 (l1 : Int32) (σ : ST) : (Int32 × ST) :=
  bd (fX12_join_0 σ) fun s20 =>
  if l1 = 0 then
    fX12_worth_0b27 s20
  else
    fX12_worth_0b34 s20
noncomputable def fX12_worth_0b9 (l1 : Int32) (σ : ST) : (Int32 × ST) :=
  bp (fX12_findBest_0 σ) fun v10 s10 =>
  if v10 = 0 then
    fX12_worth_0b16 s10
  else
    fX12_worth_0b19 l1 s10
noncomputable def fX12_worth_0b0 (l1 : Int32) (σ : ST) : (Int32 × ST) :=
  bd (fX12_in_0 l1 0 1 σ) fun v3 =>
  if v3 = 0 then
    fX12_worth_0b16 σ
  else
    fX12_worth_0b9 l1 σ
noncomputable def fX12_worth_0 (p1 : Int32) (σ : ST) : (Int32 × ST) := fX12_worth_0b0 p1 σ
noncomputable def fX12_heapsIn_1b32 (l2 : Int32) (σ : ST) : Int32 :=
  l2
noncomputable def fX12_heapsIn_1b25 (K4 : Int32 → Int32 → Int32 → ST → Int32) (l1 : Int32) (l3 : Int32) (t0 : Int32) (σ : ST) : Int32 :=
  bd (l3 + 1) fun v26 =>
  K4 l1 t0 v26 σ
noncomputable def fX12_heapsIn_1b24 (K4 : Int32 → Int32 → Int32 → ST → Int32) (l1 : Int32) (l2 : Int32) (l3 : Int32) (σ : ST) : Int32 :=
  fX12_heapsIn_1b25 K4 l1 l3 l2 σ
noncomputable def fX12_heapsIn_1b16 (K4 : Int32 → Int32 → Int32 → ST → Int32) (l1 : Int32) (l3 : Int32) (σ : ST) : Int32 :=
  bd (σ.2.2 87 l3.toNatClampNeg) fun v18 =>
  bd (v18 + 1) fun v20 =>
  fX12_heapsIn_1b25 K4 l1 l3 v20 σ
noncomputable def fX12_heapsIn_1b9 (K4 : Int32 → Int32 → Int32 → ST → Int32) (l1 : Int32) (l2 : Int32) (l3 : Int32) (σ : ST) : Int32 :=
  bd (σ.2.2 87 l3.toNatClampNeg) fun v11 =>
  if v11 < l2 then
    fX12_heapsIn_1b24 K4 l1 l2 l3 σ
  else
    fX12_heapsIn_1b16 K4 l1 l3 σ
noncomputable def fX12_heapsIn_1b4 (K4 : Int32 → Int32 → Int32 → ST → Int32) (l1 : Int32) (l2 : Int32) (l3 : Int32) (σ : ST) : Int32 :=
  if l1 ≤ l3 then
    fX12_heapsIn_1b32 l2 σ
  else
    fX12_heapsIn_1b9 K4 l1 l2 l3 σ
noncomputable def fX12_heapsIn_1l4 : Nat → Int32 → Int32 → Int32 → ST → Int32
  | 0, _, _, _, σ => 0
  | fu + 1, l1, l2, l3, σ => fX12_heapsIn_1b4 (fX12_heapsIn_1l4 fu) l1 l2 l3 σ
noncomputable def fX12_heapsIn_1b0 (l1 : Int32) (σ : ST) : Int32 :=
  fX12_heapsIn_1l4 4096 l1 0 0 σ
noncomputable def fX12_heapsIn_1 (p1 : Int32) (σ : ST) : Int32 := fX12_heapsIn_1b0 p1 σ
noncomputable def fX12_heapsIn_2b32 (l2 : Int32) (σ : ST) : Int32 :=
  l2
noncomputable def fX12_heapsIn_2b25 (K4 : Int32 → Int32 → Int32 → ST → Int32) (l1 : Int32) (l3 : Int32) (t0 : Int32) (σ : ST) : Int32 :=
  bd (l3 + 1) fun v26 =>
  K4 l1 t0 v26 σ
noncomputable def fX12_heapsIn_2b24 (K4 : Int32 → Int32 → Int32 → ST → Int32) (l1 : Int32) (l2 : Int32) (l3 : Int32) (σ : ST) : Int32 :=
  fX12_heapsIn_2b25 K4 l1 l3 l2 σ
noncomputable def fX12_heapsIn_2b16 (K4 : Int32 → Int32 → Int32 → ST → Int32) (l1 : Int32) (l3 : Int32) (σ : ST) : Int32 :=
  bd (σ.2.2 86 l3.toNatClampNeg) fun v18 =>
  bd (v18 + 1) fun v20 =>
  fX12_heapsIn_2b25 K4 l1 l3 v20 σ
noncomputable def fX12_heapsIn_2b9 (K4 : Int32 → Int32 → Int32 → ST → Int32) (l1 : Int32) (l2 : Int32) (l3 : Int32) (σ : ST) : Int32 :=
  bd (σ.2.2 86 l3.toNatClampNeg) fun v11 =>
  if v11 < l2 then
    fX12_heapsIn_2b24 K4 l1 l2 l3 σ
  else
    fX12_heapsIn_2b16 K4 l1 l3 σ
noncomputable def fX12_heapsIn_2b4 (K4 : Int32 → Int32 → Int32 → ST → Int32) (l1 : Int32) (l2 : Int32) (l3 : Int32) (σ : ST) : Int32 :=
  if l1 ≤ l3 then
    fX12_heapsIn_2b32 l2 σ
  else
    fX12_heapsIn_2b9 K4 l1 l2 l3 σ
noncomputable def fX12_heapsIn_2l4 : Nat → Int32 → Int32 → Int32 → ST → Int32
  | 0, _, _, _, σ => 0
  | fu + 1, l1, l2, l3, σ => fX12_heapsIn_2b4 (fX12_heapsIn_2l4 fu) l1 l2 l3 σ
noncomputable def fX12_heapsIn_2b0 (l1 : Int32) (σ : ST) : Int32 :=
  fX12_heapsIn_2l4 4096 l1 0 0 σ
noncomputable def fX12_heapsIn_2 (p1 : Int32) (σ : ST) : Int32 := fX12_heapsIn_2b0 p1 σ
noncomputable def fX12_near_0b176 (t0 : Int32) (σ : ST) : (Int32 × ST) :=
  (t0, σ)
noncomputable def fX12_near_0b174 (l4 : Int32) (σ : ST) : (Int32 × ST) :=
  fX12_near_0b176 l4 σ
noncomputable def fX12_near_0b170 (l3 : Int32) (σ : ST) : (Int32 × ST) :=
  fX12_near_0b176 l3 σ
noncomputable def fX12_near_0b165 (l1 : Int32) (l3 : Int32) (l4 : Int32) (σ : ST) : (Int32 × ST) :=
  if l1 = 1 then
    fX12_near_0b170 l3 σ
  else
    fX12_near_0b174 l4 σ
noncomputable def fX12_near_0b161 (l2 : Int32) (σ : ST) : (Int32 × ST) :=
  fX12_near_0b176 l2 σ
noncomputable def fX12_near_0b157 (l1 : Int32) (l2 : Int32) (l3 : Int32) (l4 : Int32) (σ : ST) : (Int32 × ST) :=
  if l1 = 0 then
    fX12_near_0b161 l2 σ
  else
    fX12_near_0b165 l1 l3 l4 σ
noncomputable def fX12_near_0b148 (K76 : Int32 → Int32 → Int32 → Int32 → Int32 → ST → (Int32 × ST)) (l1 : Int32) (l2 : Int32) (l3 : Int32) (l4 : Int32) (σ : ST) : (Int32 × ST) :=
  bp (fX12_goOn_0 σ) fun v149 s149 =>
  K76 l1 l2 l3 l4 v149 s149
noncomputable def fX12_near_0b146 (K76 : Int32 → Int32 → Int32 → Int32 → Int32 → ST → (Int32 × ST)) (l1 : Int32) (l2 : Int32) (l3 : Int32) (t0 : Int32) (σ : ST) : (Int32 × ST) :=
  fX12_near_0b148 K76 l1 l2 l3 t0 σ
noncomputable def fX12_near_0b144 (K76 : Int32 → Int32 → Int32 → Int32 → Int32 → ST → (Int32 × ST)) (l1 : Int32) (l2 : Int32) (l3 : Int32) (l4 : Int32) (σ : ST) : (Int32 × ST) :=
  fX12_near_0b146 K76 l1 l2 l3 l4 σ
noncomputable def fX12_near_0b139 (K76 : Int32 → Int32 → Int32 → Int32 → Int32 → ST → (Int32 × ST)) (l1 : Int32) (l2 : Int32) (l3 : Int32) (l6 : Int32) (σ : ST) : (Int32 × ST) :=
  fX12_near_0b146 K76 l1 l2 l3 l6 σ
noncomputable def fX12_near_0b131 (K76 : Int32 → Int32 → Int32 → Int32 → Int32 → ST → (Int32 × ST)) (l1 : Int32) (l2 : Int32) (l4 : Int32) (l6 : Int32) (t0 : Int32) (σ : ST) : (Int32 × ST) :=
  if l6 ≤ l4 then
    fX12_near_0b144 K76 l1 l2 t0 l4 σ
  else
    fX12_near_0b139 K76 l1 l2 t0 l6 σ
noncomputable def fX12_near_0b130 (K76 : Int32 → Int32 → Int32 → Int32 → Int32 → ST → (Int32 × ST)) (l1 : Int32) (l2 : Int32) (l3 : Int32) (l4 : Int32) (l6 : Int32) (σ : ST) : (Int32 × ST) :=
  fX12_near_0b131 K76 l1 l2 l4 l6 l3 σ
noncomputable def fX12_near_0b125 (K76 : Int32 → Int32 → Int32 → Int32 → Int32 → ST → (Int32 × ST)) (l1 : Int32) (l2 : Int32) (l4 : Int32) (l6 : Int32) (σ : ST) : (Int32 × ST) :=
  fX12_near_0b131 K76 l1 l2 l4 l6 l6 σ
noncomputable def fX12_near_0b103 (K76 : Int32 → Int32 → Int32 → Int32 → Int32 → ST → (Int32 × ST)) (l1 : Int32) (l2 : Int32) (l3 : Int32) (l4 : Int32) (σ : ST) : (Int32 × ST) :=
  bd (σ.1 35) fun v108 =>
  bd (fX12_heapsIn_0 v108 σ) fun v111 =>
  bd (l2 + 1) fun v116 =>
  if l3 ≤ v111 then
    fX12_near_0b130 K76 l1 v116 l3 l4 v111 σ
  else
    fX12_near_0b125 K76 l1 v116 l4 v111 σ
noncomputable def fX12_near_0b81 (K76 : Int32 → Int32 → Int32 → Int32 → Int32 → ST → (Int32 × ST)) (l1 : Int32) (l2 : Int32) (l3 : Int32) (l4 : Int32) (σ : ST) : (Int32 × ST) :=
  bd (fX12_worthOf_0 σ) fun v86 =>
  bd (σ.1 39) fun v90 =>
  bd (σ.2.2 66 (3 : Int32).toNatClampNeg) fun v98 =>
  bd (v90 - v98) fun v99 =>
  if v86 < v99 then
    fX12_near_0b148 K76 l1 l2 l3 l4 σ
  else
    fX12_near_0b103 K76 l1 l2 l3 l4 σ
noncomputable def fX12_near_0b76 (K76 : Int32 → Int32 → Int32 → Int32 → Int32 → ST → (Int32 × ST)) (l1 : Int32) (l2 : Int32) (l3 : Int32) (l4 : Int32) (l5 : Int32) (σ : ST) : (Int32 × ST) :=
  if l5 = 0 then
    fX12_near_0b157 l1 l2 l3 l4 σ
  else
    fX12_near_0b81 K76 l1 l2 l3 l4 σ
noncomputable def fX12_near_0l76 : Nat → Int32 → Int32 → Int32 → Int32 → Int32 → ST → (Int32 × ST)
  | 0, _, _, _, _, _, σ => (0, σ)
  | fu + 1, l1, l2, l3, l4, l5, σ => fX12_near_0b76 (fX12_near_0l76 fu) l1 l2 l3 l4 l5 σ
noncomputable def fX12_near_0b61 (l1 : Int32) (σ : ST) : (Int32 × ST) :=
  bd (fX12_begin_0 σ) fun s70 =>
  fX12_near_0l76 1000000002 l1 0 10 (-1) 1 s70
noncomputable def fX12_near_0b60 (t0 : Int32) (σ : ST) : (Int32 × ST) :=
  (t0, σ)
noncomputable def fX12_near_0b49 (σ : ST) : (Int32 × ST) :=
  bd (σ.1 35) fun v54 =>
  bd (fX12_heapsIn_1 v54 σ) fun v57 =>
  fX12_near_0b60 v57 σ
noncomputable def fX12_near_0b35 (σ : ST) : (Int32 × ST) :=
  bd (σ.1 35) fun v40 =>
  bd (fX12_heapsIn_2 v40 σ) fun v43 =>
  fX12_near_0b60 v43 σ
noncomputable def fX12_near_0b26 (l1 : Int32) (σ : ST) : (Int32 × ST) :=
  bd (fX12_join_0 σ) fun s27 =>
  if l1 = 3 then
    fX12_near_0b35 s27
  else
    fX12_near_0b49 s27
noncomputable def fX12_near_0b21 (l1 : Int32) (σ : ST) : (Int32 × ST) :=
  if l1 ≤ 2 then
    fX12_near_0b61 l1 σ
  else
    fX12_near_0b26 l1 σ
noncomputable def fX12_near_0b18 (σ : ST) : (Int32 × ST) :=
  ((-2), σ)
noncomputable def fX12_near_0b11 (l1 : Int32) (σ : ST) : (Int32 × ST) :=
  bp (fX12_findBest_0 σ) fun v12 s12 =>
  if v12 = 0 then
    fX12_near_0b18 s12
  else
    fX12_near_0b21 l1 s12
noncomputable def fX12_near_0b9 (σ : ST) : (Int32 × ST) :=
  ((-1), σ)
noncomputable def fX12_near_0b0 (l1 : Int32) (σ : ST) : (Int32 × ST) :=
  bd (fX12_in_0 l1 0 4 σ) fun v3 =>
  if v3 = 0 then
    fX12_near_0b9 σ
  else
    fX12_near_0b11 l1 σ
noncomputable def fX12_near_0 (p1 : Int32) (σ : ST) : (Int32 × ST) := fX12_near_0b0 p1 σ
noncomputable def fX12_sure_0b25 (σ : ST) : (Int32 × ST) :=
  ((-1), σ)
noncomputable def fX12_sure_0b155 (t0 : Int32) (σ : ST) : (Int32 × ST) :=
  (t0, σ)
noncomputable def fX12_sure_0b154 (σ : ST) : (Int32 × ST) :=
  fX12_sure_0b155 2 σ
noncomputable def fX12_sure_0b150 (σ : ST) : (Int32 × ST) :=
  fX12_sure_0b155 0 σ
noncomputable def fX12_sure_0b146 (l3 : Int32) (σ : ST) : (Int32 × ST) :=
  if l3 = 0 then
    fX12_sure_0b150 σ
  else
    fX12_sure_0b154 σ
noncomputable def fX12_sure_0b142 (σ : ST) : (Int32 × ST) :=
  fX12_sure_0b155 1 σ
noncomputable def fX12_sure_0b137 (l3 : Int32) (l4 : Int32) (σ : ST) : (Int32 × ST) :=
  if l4 = 0 then
    fX12_sure_0b142 σ
  else
    fX12_sure_0b146 l3 σ
noncomputable def fX12_sure_0b128 (K49 : Int32 → Int32 → Int32 → Int32 → Int32 → ST → (Int32 × ST)) (l1 : Int32) (l2 : Int32) (l3 : Int32) (l4 : Int32) (σ : ST) : (Int32 × ST) :=
  bp (fX12_goOn_0 σ) fun v129 s129 =>
  K49 l1 l2 l3 l4 v129 s129
noncomputable def fX12_sure_0b126 (K49 : Int32 → Int32 → Int32 → Int32 → Int32 → ST → (Int32 × ST)) (l1 : Int32) (l2 : Int32) (l3 : Int32) (t0 : Int32) (σ : ST) : (Int32 × ST) :=
  fX12_sure_0b128 K49 l1 l2 l3 t0 σ
noncomputable def fX12_sure_0b121 (K49 : Int32 → Int32 → Int32 → Int32 → Int32 → ST → (Int32 × ST)) (l1 : Int32) (l2 : Int32) (l3 : Int32) (σ : ST) : (Int32 × ST) :=
  fX12_sure_0b126 K49 l1 l2 l3 1 σ
noncomputable def fX12_sure_0b125 (K49 : Int32 → Int32 → Int32 → Int32 → Int32 → ST → (Int32 × ST)) (l1 : Int32) (l2 : Int32) (l3 : Int32) (σ : ST) : (Int32 × ST) :=
  fX12_sure_0b126 K49 l1 l2 l3 0 σ
noncomputable def fX12_sure_0b106 (K49 : Int32 → Int32 → Int32 → Int32 → Int32 → ST → (Int32 × ST)) (l1 : Int32) (l2 : Int32) (l3 : Int32) (σ : ST) : (Int32 × ST) :=
  bd (σ.2.2 85 l1.toNatClampNeg) fun v111 =>
  bd (σ.2.2 85 l2.toNatClampNeg) fun v117 =>
  if v111 = v117 then
    fX12_sure_0b125 K49 l1 l2 l3 σ
  else
    fX12_sure_0b121 K49 l1 l2 l3 σ
noncomputable def fX12_sure_0b100 (K49 : Int32 → Int32 → Int32 → Int32 → Int32 → ST → (Int32 × ST)) (l1 : Int32) (l2 : Int32) (l4 : Int32) (t0 : Int32) (σ : ST) : (Int32 × ST) :=
  if l4 = 0 then
    fX12_sure_0b106 K49 l1 l2 t0 σ
  else
    fX12_sure_0b121 K49 l1 l2 t0 σ
noncomputable def fX12_sure_0b95 (K49 : Int32 → Int32 → Int32 → Int32 → Int32 → ST → (Int32 × ST)) (l1 : Int32) (l2 : Int32) (l4 : Int32) (σ : ST) : (Int32 × ST) :=
  fX12_sure_0b100 K49 l1 l2 l4 1 σ
noncomputable def fX12_sure_0b99 (K49 : Int32 → Int32 → Int32 → Int32 → Int32 → ST → (Int32 × ST)) (l1 : Int32) (l2 : Int32) (l4 : Int32) (σ : ST) : (Int32 × ST) :=
  fX12_sure_0b100 K49 l1 l2 l4 0 σ
noncomputable def fX12_sure_0b80 (K49 : Int32 → Int32 → Int32 → Int32 → Int32 → ST → (Int32 × ST)) (l1 : Int32) (l2 : Int32) (l4 : Int32) (σ : ST) : (Int32 × ST) :=
  bd (σ.2.2 85 l1.toNatClampNeg) fun v85 =>
  bd (σ.2.2 85 l2.toNatClampNeg) fun v91 =>
  if v85 = v91 then
    fX12_sure_0b95 K49 l1 l2 l4 σ
  else
    fX12_sure_0b99 K49 l1 l2 l4 σ
noncomputable def fX12_sure_0b76 (K49 : Int32 → Int32 → Int32 → Int32 → Int32 → ST → (Int32 × ST)) (l1 : Int32) (l2 : Int32) (l3 : Int32) (l4 : Int32) (σ : ST) : (Int32 × ST) :=
  if l3 = 0 then
    fX12_sure_0b80 K49 l1 l2 l4 σ
  else
    fX12_sure_0b95 K49 l1 l2 l4 σ
noncomputable def fX12_sure_0b54 (K49 : Int32 → Int32 → Int32 → Int32 → Int32 → ST → (Int32 × ST)) (l1 : Int32) (l2 : Int32) (l3 : Int32) (l4 : Int32) (σ : ST) : (Int32 × ST) :=
  bd (fX12_worthOf_0 σ) fun v59 =>
  bd (σ.1 39) fun v63 =>
  bd (σ.2.2 66 (3 : Int32).toNatClampNeg) fun v71 =>
  bd (v63 - v71) fun v72 =>
  if v59 < v72 then
    fX12_sure_0b128 K49 l1 l2 l3 l4 σ
  else
    fX12_sure_0b76 K49 l1 l2 l3 l4 σ
noncomputable def fX12_sure_0b49 (K49 : Int32 → Int32 → Int32 → Int32 → Int32 → ST → (Int32 × ST)) (l1 : Int32) (l2 : Int32) (l3 : Int32) (l4 : Int32) (l5 : Int32) (σ : ST) : (Int32 × ST) :=
  if l5 = 0 then
    fX12_sure_0b137 l3 l4 σ
  else
    fX12_sure_0b54 K49 l1 l2 l3 l4 σ
noncomputable def fX12_sure_0l49 : Nat → Int32 → Int32 → Int32 → Int32 → Int32 → ST → (Int32 × ST)
  | 0, _, _, _, _, _, σ => (0, σ)
  | fu + 1, l1, l2, l3, l4, l5, σ => fX12_sure_0b49 (fX12_sure_0l49 fu) l1 l2 l3 l4 l5 σ
noncomputable def fX12_sure_0b37 (l1 : Int32) (l2 : Int32) (σ : ST) : (Int32 × ST) :=
  bd (fX12_begin_0 σ) fun s43 =>
  fX12_sure_0l49 1000000002 l1 l2 0 0 1 s43
noncomputable def fX12_sure_0b34 (σ : ST) : (Int32 × ST) :=
  ((-2), σ)
noncomputable def fX12_sure_0b27 (l1 : Int32) (l2 : Int32) (σ : ST) : (Int32 × ST) :=
  bp (fX12_findBest_0 σ) fun v28 s28 =>
  if v28 = 0 then
    fX12_sure_0b34 s28
  else
    fX12_sure_0b37 l1 l2 s28
noncomputable def fX12_sure_0b20 (l1 : Int32) (l2 : Int32) (σ : ST) : (Int32 × ST) :=
  if l1 = l2 then
    fX12_sure_0b25 σ
  else
    fX12_sure_0b27 l1 l2 σ
noncomputable def fX12_sure_0b12 (l1 : Int32) (l2 : Int32) (σ : ST) : (Int32 × ST) :=
  bd (fX12_isPiece_0 l2 σ) fun v14 =>
  if v14 = 0 then
    fX12_sure_0b25 σ
  else
    fX12_sure_0b20 l1 l2 σ
noncomputable def fX12_sure_0b0 (l1 : Int32) (l2 : Int32) (σ : ST) : (Int32 × ST) :=
  bd (fX12_findPieces_0 σ) fun s1 =>
  bd (fX12_isPiece_0 l1 s1) fun v6 =>
  if v6 = 0 then
    fX12_sure_0b25 s1
  else
    fX12_sure_0b12 l1 l2 s1
noncomputable def fX12_sure_0 (p1 : Int32) (p2 : Int32) (σ : ST) : (Int32 × ST) := fX12_sure_0b0 p1 p2 σ
noncomputable def fX12_findHeapMiddles_0b109 (σ : ST) : ST :=
  σ
noncomputable def fX12_findHeapMiddles_0b103 (K2 : Int32 → ST → ST) (l1 : Int32) (σ : ST) : ST :=
  bd (l1 + 1) fun v103 =>
  K2 v103 σ
noncomputable def fX12_findHeapMiddles_0b81 (K2 : Int32 → ST → ST) (K76 : Int32 → Int32 → ST → ST) (l1 : Int32) (l2 : Int32) (σ : ST) : ST :=
  bd ((4 : Int32) * l1) fun v87 =>
  bd (v87 + l2) fun v89 =>
  bd (σ.2.2 81 l2.toNatClampNeg) fun v95 =>
  bd (sA σ 89 (upd (σ.2.2 89) v89.toNatClampNeg v95)) fun s96 =>
  bd (l2 + 1) fun v97 =>
  K76 l1 v97 s96
noncomputable def fX12_findHeapMiddles_0b76 (K2 : Int32 → ST → ST) (K76 : Int32 → Int32 → ST → ST) (l1 : Int32) (l2 : Int32) (σ : ST) : ST :=
  if 4 ≤ l2 then
    fX12_findHeapMiddles_0b103 K2 l1 σ
  else
    fX12_findHeapMiddles_0b81 K2 K76 l1 l2 σ
noncomputable def fX12_findHeapMiddles_0l76 (K2 : Int32 → ST → ST) : Nat → Int32 → Int32 → ST → ST
  | 0, _, _, σ => σ
  | fu + 1, l1, l2, σ => fX12_findHeapMiddles_0b76 K2 (fX12_findHeapMiddles_0l76 K2 fu) l1 l2 σ
noncomputable def fX12_findHeapMiddles_0b70 (K2 : Int32 → ST → ST) (l1 : Int32) (σ : ST) : ST :=
  bd (fX12_findMiddle_0 σ) fun s71 =>
  fX12_findHeapMiddles_0l76 K2 4096 l1 0 s71
noncomputable def fX12_findHeapMiddles_0b63 (K2 : Int32 → ST → ST) (K19 : Int32 → Int32 → ST → ST) (l1 : Int32) (l2 : Int32) (t0 : Int32) (t1 : Int32) (σ : ST) : ST :=
  bd (sA σ 80 (upd (σ.2.2 80) t1.toNatClampNeg (vp_nar .boolean t0))) fun s63 =>
  bd (l2 + 1) fun v64 =>
  K19 l1 v64 s63
noncomputable def fX12_findHeapMiddles_0b62 (K2 : Int32 → ST → ST) (K19 : Int32 → Int32 → ST → ST) (l1 : Int32) (l2 : Int32) (t0 : Int32) (σ : ST) : ST :=
  fX12_findHeapMiddles_0b63 K2 K19 l1 l2 0 t0 σ
noncomputable def fX12_findHeapMiddles_0b58 (K2 : Int32 → ST → ST) (K19 : Int32 → Int32 → ST → ST) (l1 : Int32) (l2 : Int32) (t0 : Int32) (σ : ST) : ST :=
  fX12_findHeapMiddles_0b63 K2 K19 l1 l2 1 t0 σ
noncomputable def fX12_findHeapMiddles_0b43 (K2 : Int32 → ST → ST) (K19 : Int32 → Int32 → ST → ST) (l1 : Int32) (l2 : Int32) (t0 : Int32) (σ : ST) : ST :=
  bd (σ.2.2 77 l2.toNatClampNeg) fun v52 =>
  bd (σ.2.2 86 v52.toNatClampNeg) fun v53 =>
  if v53 = l1 then
    fX12_findHeapMiddles_0b58 K2 K19 l1 l2 t0 σ
  else
    fX12_findHeapMiddles_0b62 K2 K19 l1 l2 t0 σ
noncomputable def fX12_findHeapMiddles_0b27 (K2 : Int32 → ST → ST) (K19 : Int32 → Int32 → ST → ST) (l1 : Int32) (l2 : Int32) (σ : ST) : ST :=
  bd (σ.2.2 77 l2.toNatClampNeg) fun v37 =>
  if v37 = (-9) then
    fX12_findHeapMiddles_0b62 K2 K19 l1 l2 l2 σ
  else
    fX12_findHeapMiddles_0b43 K2 K19 l1 l2 l2 σ
noncomputable def fX12_findHeapMiddles_0b19 (K2 : Int32 → ST → ST) (K19 : Int32 → Int32 → ST → ST) (l1 : Int32) (l2 : Int32) (σ : ST) : ST :=
  bd (σ.1 31) fun v21 =>
  if v21 ≤ l2 then
    fX12_findHeapMiddles_0b70 K2 l1 σ
  else
    fX12_findHeapMiddles_0b27 K2 K19 l1 l2 σ
noncomputable def fX12_findHeapMiddles_0l19 (K2 : Int32 → ST → ST) : Nat → Int32 → Int32 → ST → ST
  | 0, _, _, σ => σ
  | fu + 1, l1, l2, σ => fX12_findHeapMiddles_0b19 K2 (fX12_findHeapMiddles_0l19 K2 fu) l1 l2 σ
noncomputable def fX12_findHeapMiddles_0b17 (K2 : Int32 → ST → ST) (l1 : Int32) (σ : ST) : ST :=
  fX12_findHeapMiddles_0l19 K2 4096 l1 0 σ
noncomputable def fX12_findHeapMiddles_0b2 (K2 : Int32 → ST → ST) (l1 : Int32) (σ : ST) : ST :=
  bd (σ.1 35) fun v8 =>
  bd (fX12_heapsIn_2 v8 σ) fun v11 =>
  if v11 ≤ l1 then
    fX12_findHeapMiddles_0b109 σ
  else
    fX12_findHeapMiddles_0b17 K2 l1 σ
noncomputable def fX12_findHeapMiddles_0l2 : Nat → Int32 → ST → ST
  | 0, _, σ => σ
  | fu + 1, l1, σ => fX12_findHeapMiddles_0b2 (fX12_findHeapMiddles_0l2 fu) l1 σ
noncomputable def fX12_findHeapMiddles_0b0 (σ : ST) : ST :=
  fX12_findHeapMiddles_0l2 4096 0 σ
noncomputable def fX12_findHeapMiddles_0  (σ : ST) : ST := fX12_findHeapMiddles_0b0  σ
noncomputable def fX12_wrong_0b46 (t0 : Int32) (σ : ST) : (Int32 × ST) :=
  (t0, σ)
noncomputable def fX12_wrong_0b45 (σ : ST) : (Int32 × ST) :=
  fX12_wrong_0b46 (-1) σ
noncomputable def fX12_wrong_0b41 (σ : ST) : (Int32 × ST) :=
  fX12_wrong_0b46 0 σ
noncomputable def fX12_wrong_0b22 (l1 : Int32) (σ : ST) : (Int32 × ST) :=
  bd (fX12_findHeapMiddles_0 σ) fun s23 =>
  bd (s23.1 35) fun v32 =>
  bd (fX12_heapsIn_2 v32 s23) fun v35 =>
  if v35 ≤ l1 then
    fX12_wrong_0b45 s23
  else
    fX12_wrong_0b41 s23
noncomputable def fX12_wrong_0b19 (σ : ST) : (Int32 × ST) :=
  ((-2), σ)
noncomputable def fX12_wrong_0b12 (l1 : Int32) (σ : ST) : (Int32 × ST) :=
  bp (fX12_findBest_0 σ) fun v13 s13 =>
  if v13 = 0 then
    fX12_wrong_0b19 s13
  else
    fX12_wrong_0b22 l1 s13
noncomputable def fX12_wrong_0b10 (σ : ST) : (Int32 × ST) :=
  ((-1), σ)
noncomputable def fX12_wrong_0b0 (l1 : Int32) (σ : ST) : (Int32 × ST) :=
  bd (fX12_in_0 l1 0 8 σ) fun v4 =>
  if v4 = 0 then
    fX12_wrong_0b10 σ
  else
    fX12_wrong_0b12 l1 σ
noncomputable def fX12_wrong_0 (p1 : Int32) (σ : ST) : (Int32 × ST) := fX12_wrong_0b0 p1 σ
noncomputable def fX12_middle_0b37 (t0 : Int32) (σ : ST) : (Int32 × ST) :=
  (t0, σ)
noncomputable def fX12_middle_0b36 (l3 : Int32) (σ : ST) : (Int32 × ST) :=
  fX12_middle_0b37 l3 σ
noncomputable def fX12_middle_0b23 (l1 : Int32) (l2 : Int32) (σ : ST) : (Int32 × ST) :=
  bd ((4 : Int32) * l1) fun v29 =>
  bd (v29 + l2) fun v31 =>
  bd (σ.2.2 89 v31.toNatClampNeg) fun v32 =>
  fX12_middle_0b37 v32 σ
noncomputable def fX12_middle_0b18 (l1 : Int32) (l2 : Int32) (t0 : Int32) (σ : ST) : (Int32 × ST) :=
  if t0 = 0 then
    fX12_middle_0b23 l1 l2 σ
  else
    fX12_middle_0b36 t0 σ
noncomputable def fX12_middle_0b17 (l1 : Int32) (l2 : Int32) (σ : ST) : (Int32 × ST) :=
  fX12_middle_0b18 l1 l2 (-1) σ
noncomputable def fX12_middle_0b9 (l1 : Int32) (l2 : Int32) (σ : ST) : (Int32 × ST) :=
  bp (fX12_wrong_0 l1 σ) fun v11 s11 =>
  fX12_middle_0b18 l1 l2 v11 s11
noncomputable def fX12_middle_0b0 (l1 : Int32) (l2 : Int32) (σ : ST) : (Int32 × ST) :=
  bd (fX12_in_0 l2 0 3 σ) fun v3 =>
  if v3 = 0 then
    fX12_middle_0b17 l1 l2 σ
  else
    fX12_middle_0b9 l1 l2 σ
noncomputable def fX12_middle_0 (p1 : Int32) (p2 : Int32) (σ : ST) : (Int32 × ST) := fX12_middle_0b0 p1 p2 σ
noncomputable def fX12_twice_0b21 (σ : ST) : (Int32 × ST) :=
  ((-1), σ)
noncomputable def fX12_twice_0b287 (t0 : Int32) (σ : ST) : (Int32 × ST) :=
  (t0, σ)
noncomputable def fX12_twice_0b285 (l5 : Int32) (σ : ST) : (Int32 × ST) :=
  fX12_twice_0b287 l5 σ
noncomputable def fX12_twice_0b280 (l4 : Int32) (σ : ST) : (Int32 × ST) :=
  fX12_twice_0b287 l4 σ
noncomputable def fX12_twice_0b276 (l2 : Int32) (l4 : Int32) (l5 : Int32) (σ : ST) : (Int32 × ST) :=
  if l2 = 0 then
    fX12_twice_0b280 l4 σ
  else
    fX12_twice_0b285 l5 σ
noncomputable def fX12_twice_0b270 (K124 : Int32 → Int32 → Int32 → Int32 → Int32 → Int32 → Int32 → ST → (Int32 × ST)) (l1 : Int32) (l2 : Int32) (l4 : Int32) (l5 : Int32) (l6 : Int32) (l7 : Int32) (l8 : Int32) (σ : ST) : (Int32 × ST) :=
  bd (l8 + 1) fun v270 =>
  K124 l1 l2 l4 l5 l6 l7 v270 σ
noncomputable def fX12_twice_0b264 (K124 : Int32 → Int32 → Int32 → Int32 → Int32 → Int32 → Int32 → ST → (Int32 × ST)) (K137 : Int32 → Int32 → Int32 → Int32 → Int32 → Int32 → Int32 → Int32 → ST → (Int32 × ST)) (l1 : Int32) (l2 : Int32) (l4 : Int32) (l5 : Int32) (l6 : Int32) (l7 : Int32) (l8 : Int32) (l9 : Int32) (σ : ST) : (Int32 × ST) :=
  bd (l9 + 1) fun v264 =>
  K137 l1 l2 l4 l5 l6 l7 l8 v264 σ
noncomputable def fX12_twice_0b252 (K124 : Int32 → Int32 → Int32 → Int32 → Int32 → Int32 → Int32 → ST → (Int32 × ST)) (K137 : Int32 → Int32 → Int32 → Int32 → Int32 → Int32 → Int32 → Int32 → ST → (Int32 × ST)) (l1 : Int32) (l2 : Int32) (l7 : Int32) (l8 : Int32) (l9 : Int32) (l10 : Int32) (σ : ST) : (Int32 × ST) :=
  fX12_twice_0b264 K124 K137 l1 l2 l8 l9 l10 l7 l8 l9 σ
noncomputable def fX12_twice_0b245 (K124 : Int32 → Int32 → Int32 → Int32 → Int32 → Int32 → Int32 → ST → (Int32 × ST)) (K137 : Int32 → Int32 → Int32 → Int32 → Int32 → Int32 → Int32 → Int32 → ST → (Int32 × ST)) (l1 : Int32) (l2 : Int32) (l4 : Int32) (l5 : Int32) (l6 : Int32) (l7 : Int32) (l8 : Int32) (l9 : Int32) (l10 : Int32) (σ : ST) : (Int32 × ST) :=
  if l6 ≤ l10 then
    fX12_twice_0b264 K124 K137 l1 l2 l4 l5 l6 l7 l8 l9 σ
  else
    fX12_twice_0b252 K124 K137 l1 l2 l7 l8 l9 l10 σ
noncomputable def fX12_twice_0b234 (K124 : Int32 → Int32 → Int32 → Int32 → Int32 → Int32 → Int32 → ST → (Int32 × ST)) (K137 : Int32 → Int32 → Int32 → Int32 → Int32 → Int32 → Int32 → Int32 → ST → (Int32 × ST)) (l1 : Int32) (l2 : Int32) (l4 : Int32) (l5 : Int32) (l6 : Int32) (l7 : Int32) (l8 : Int32) (l9 : Int32) (l10 : Int32) (σ : ST) : (Int32 × ST) :=
  bd (σ.2.2 86 l1.toNatClampNeg) fun v241 =>
  if l9 = v241 then
    fX12_twice_0b264 K124 K137 l1 l2 l4 l5 l6 l7 l8 l9 σ
  else
    fX12_twice_0b245 K124 K137 l1 l2 l4 l5 l6 l7 l8 l9 l10 σ
noncomputable def fX12_twice_0b223 (K124 : Int32 → Int32 → Int32 → Int32 → Int32 → Int32 → Int32 → ST → (Int32 × ST)) (K137 : Int32 → Int32 → Int32 → Int32 → Int32 → Int32 → Int32 → Int32 → ST → (Int32 × ST)) (l1 : Int32) (l2 : Int32) (l4 : Int32) (l5 : Int32) (l6 : Int32) (l7 : Int32) (l8 : Int32) (l9 : Int32) (l10 : Int32) (σ : ST) : (Int32 × ST) :=
  bd (σ.2.2 86 l1.toNatClampNeg) fun v230 =>
  if l8 = v230 then
    fX12_twice_0b264 K124 K137 l1 l2 l4 l5 l6 l7 l8 l9 σ
  else
    fX12_twice_0b234 K124 K137 l1 l2 l4 l5 l6 l7 l8 l9 l10 σ
noncomputable def fX12_twice_0b210 (K124 : Int32 → Int32 → Int32 → Int32 → Int32 → Int32 → Int32 → ST → (Int32 × ST)) (K137 : Int32 → Int32 → Int32 → Int32 → Int32 → Int32 → Int32 → Int32 → ST → (Int32 × ST)) (K150 : Int32 → Int32 → Int32 → Int32 → Int32 → Int32 → Int32 → Int32 → Int32 → Int32 → ST → (Int32 × ST)) (l1 : Int32) (l2 : Int32) (l4 : Int32) (l5 : Int32) (l6 : Int32) (l7 : Int32) (l8 : Int32) (l9 : Int32) (l11 : Int32) (t0 : Int32) (t1 : Int32) (t2 : Int32) (σ : ST) : (Int32 × ST) :=
  bd (t1 - t0) fun v210 =>
  bd (fX12_size_0 v210 σ) fun v211 =>
  bd (t2 + v211) fun v214 =>
  bd (l11 + 1) fun v217 =>
  K150 l1 l2 l4 l5 l6 l7 l8 l9 v214 v217 σ
noncomputable def fX12_twice_0b208 (K124 : Int32 → Int32 → Int32 → Int32 → Int32 → Int32 → Int32 → ST → (Int32 × ST)) (K137 : Int32 → Int32 → Int32 → Int32 → Int32 → Int32 → Int32 → Int32 → ST → (Int32 × ST)) (K150 : Int32 → Int32 → Int32 → Int32 → Int32 → Int32 → Int32 → Int32 → Int32 → Int32 → ST → (Int32 × ST)) (l1 : Int32) (l2 : Int32) (l4 : Int32) (l5 : Int32) (l6 : Int32) (l7 : Int32) (l8 : Int32) (l9 : Int32) (l11 : Int32) (l12 : Int32) (t0 : Int32) (t1 : Int32) (σ : ST) : (Int32 × ST) :=
  fX12_twice_0b210 K124 K137 K150 l1 l2 l4 l5 l6 l7 l8 l9 l11 l12 t0 t1 σ
noncomputable def fX12_twice_0b203 (K124 : Int32 → Int32 → Int32 → Int32 → Int32 → Int32 → Int32 → ST → (Int32 × ST)) (K137 : Int32 → Int32 → Int32 → Int32 → Int32 → Int32 → Int32 → Int32 → ST → (Int32 × ST)) (K150 : Int32 → Int32 → Int32 → Int32 → Int32 → Int32 → Int32 → Int32 → Int32 → Int32 → ST → (Int32 × ST)) (l1 : Int32) (l2 : Int32) (l4 : Int32) (l5 : Int32) (l6 : Int32) (l7 : Int32) (l8 : Int32) (l9 : Int32) (l11 : Int32) (t0 : Int32) (t1 : Int32) (σ : ST) : (Int32 × ST) :=
  fX12_twice_0b210 K124 K137 K150 l1 l2 l4 l5 l6 l7 l8 l9 l11 99 t0 t1 σ
noncomputable def fX12_twice_0b156 (K124 : Int32 → Int32 → Int32 → Int32 → Int32 → Int32 → Int32 → ST → (Int32 × ST)) (K137 : Int32 → Int32 → Int32 → Int32 → Int32 → Int32 → Int32 → Int32 → ST → (Int32 × ST)) (K150 : Int32 → Int32 → Int32 → Int32 → Int32 → Int32 → Int32 → Int32 → Int32 → Int32 → ST → (Int32 × ST)) (l1 : Int32) (l2 : Int32) (l4 : Int32) (l5 : Int32) (l6 : Int32) (l7 : Int32) (l8 : Int32) (l9 : Int32) (l10 : Int32) (l11 : Int32) (σ : ST) : (Int32 × ST) :=
  bd ((4 : Int32) * l8) fun v163 =>
  bd (v163 + l11) fun v166 =>
  bd (σ.2.2 89 v166.toNatClampNeg) fun v167 =>
  bd ((4 : Int32) * l9) fun v175 =>
  bd (v175 + l11) fun v178 =>
  bd (σ.2.2 89 v178.toNatClampNeg) fun v179 =>
  bd (v167 + v179) fun v180 =>
  bd ((4 : Int32) * l1) fun v191 =>
  bd (v191 + l11) fun v194 =>
  bd (σ.2.2 78 v194.toNatClampNeg) fun v195 =>
  if v180 ≤ 99 then
    fX12_twice_0b208 K124 K137 K150 l1 l2 l4 l5 l6 l7 l8 l9 l11 v180 v195 l10 σ
  else
    fX12_twice_0b203 K124 K137 K150 l1 l2 l4 l5 l6 l7 l8 l9 l11 v195 l10 σ
noncomputable def fX12_twice_0b150 (K124 : Int32 → Int32 → Int32 → Int32 → Int32 → Int32 → Int32 → ST → (Int32 × ST)) (K137 : Int32 → Int32 → Int32 → Int32 → Int32 → Int32 → Int32 → Int32 → ST → (Int32 × ST)) (K150 : Int32 → Int32 → Int32 → Int32 → Int32 → Int32 → Int32 → Int32 → Int32 → Int32 → ST → (Int32 × ST)) (l1 : Int32) (l2 : Int32) (l4 : Int32) (l5 : Int32) (l6 : Int32) (l7 : Int32) (l8 : Int32) (l9 : Int32) (l10 : Int32) (l11 : Int32) (σ : ST) : (Int32 × ST) :=
  if 4 ≤ l11 then
    fX12_twice_0b223 K124 K137 l1 l2 l4 l5 l6 l7 l8 l9 l10 σ
  else
    fX12_twice_0b156 K124 K137 K150 l1 l2 l4 l5 l6 l7 l8 l9 l10 l11 σ
noncomputable def fX12_twice_0l150 (K124 : Int32 → Int32 → Int32 → Int32 → Int32 → Int32 → Int32 → ST → (Int32 × ST)) (K137 : Int32 → Int32 → Int32 → Int32 → Int32 → Int32 → Int32 → Int32 → ST → (Int32 × ST)) : Nat → Int32 → Int32 → Int32 → Int32 → Int32 → Int32 → Int32 → Int32 → Int32 → Int32 → ST → (Int32 × ST)
  | 0, _, _, _, _, _, _, _, _, _, _, σ => (0, σ)
  | fu + 1, l1, l2, l4, l5, l6, l7, l8, l9, l10, l11, σ => fX12_twice_0b150 K124 K137 (fX12_twice_0l150 K124 K137 fu) l1 l2 l4 l5 l6 l7 l8 l9 l10 l11 σ
noncomputable def fX12_twice_0b144 (K124 : Int32 → Int32 → Int32 → Int32 → Int32 → Int32 → Int32 → ST → (Int32 × ST)) (K137 : Int32 → Int32 → Int32 → Int32 → Int32 → Int32 → Int32 → Int32 → ST → (Int32 × ST)) (l1 : Int32) (l2 : Int32) (l4 : Int32) (l5 : Int32) (l6 : Int32) (l7 : Int32) (l8 : Int32) (l9 : Int32) (σ : ST) : (Int32 × ST) :=
  fX12_twice_0l150 K124 K137 4096 l1 l2 l4 l5 l6 l7 l8 l9 0 0 σ
noncomputable def fX12_twice_0b137 (K124 : Int32 → Int32 → Int32 → Int32 → Int32 → Int32 → Int32 → ST → (Int32 × ST)) (K137 : Int32 → Int32 → Int32 → Int32 → Int32 → Int32 → Int32 → Int32 → ST → (Int32 × ST)) (l1 : Int32) (l2 : Int32) (l4 : Int32) (l5 : Int32) (l6 : Int32) (l7 : Int32) (l8 : Int32) (l9 : Int32) (σ : ST) : (Int32 × ST) :=
  if l7 ≤ l9 then
    fX12_twice_0b270 K124 l1 l2 l4 l5 l6 l7 l8 σ
  else
    fX12_twice_0b144 K124 K137 l1 l2 l4 l5 l6 l7 l8 l9 σ
noncomputable def fX12_twice_0l137 (K124 : Int32 → Int32 → Int32 → Int32 → Int32 → Int32 → Int32 → ST → (Int32 × ST)) : Nat → Int32 → Int32 → Int32 → Int32 → Int32 → Int32 → Int32 → Int32 → ST → (Int32 × ST)
  | 0, _, _, _, _, _, _, _, _, σ => (0, σ)
  | fu + 1, l1, l2, l4, l5, l6, l7, l8, l9, σ => fX12_twice_0b137 K124 (fX12_twice_0l137 K124 fu) l1 l2 l4 l5 l6 l7 l8 l9 σ
noncomputable def fX12_twice_0b131 (K124 : Int32 → Int32 → Int32 → Int32 → Int32 → Int32 → Int32 → ST → (Int32 × ST)) (l1 : Int32) (l2 : Int32) (l4 : Int32) (l5 : Int32) (l6 : Int32) (l7 : Int32) (l8 : Int32) (σ : ST) : (Int32 × ST) :=
  bd (l8 + 1) fun v134 =>
  fX12_twice_0l137 K124 4096 l1 l2 l4 l5 l6 l7 l8 v134 σ
noncomputable def fX12_twice_0b124 (K124 : Int32 → Int32 → Int32 → Int32 → Int32 → Int32 → Int32 → ST → (Int32 × ST)) (l1 : Int32) (l2 : Int32) (l4 : Int32) (l5 : Int32) (l6 : Int32) (l7 : Int32) (l8 : Int32) (σ : ST) : (Int32 × ST) :=
  if l7 ≤ l8 then
    fX12_twice_0b276 l2 l4 l5 σ
  else
    fX12_twice_0b131 K124 l1 l2 l4 l5 l6 l7 l8 σ
noncomputable def fX12_twice_0l124 : Nat → Int32 → Int32 → Int32 → Int32 → Int32 → Int32 → Int32 → ST → (Int32 × ST)
  | 0, _, _, _, _, _, _, _, σ => (0, σ)
  | fu + 1, l1, l2, l4, l5, l6, l7, l8, σ => fX12_twice_0b124 (fX12_twice_0l124 fu) l1 l2 l4 l5 l6 l7 l8 σ
noncomputable def fX12_twice_0b88 (l1 : Int32) (l2 : Int32) (l3 : Int32) (σ : ST) : (Int32 × ST) :=
  bd (σ.2.2 66 (5 : Int32).toNatClampNeg) fun v102 =>
  bd (l3 - v102) fun v103 =>
  bd (v103 + 1) fun v105 =>
  bd (σ.1 35) fun v113 =>
  bd (fX12_heapsIn_2 v113 σ) fun v116 =>
  fX12_twice_0l124 4096 l1 l2 (-9) (-9) v105 v116 0 σ
noncomputable def fX12_twice_0b48 (K42 : Int32 → Int32 → Int32 → Int32 → ST → (Int32 × ST)) (l1 : Int32) (l2 : Int32) (l3 : Int32) (l4 : Int32) (σ : ST) : (Int32 × ST) :=
  bd ((4 : Int32) * l1) fun v55 =>
  bd (v55 + l4) fun v58 =>
  bd (σ.2.2 78 v58.toNatClampNeg) fun v59 =>
  bd (σ.2.2 86 l1.toNatClampNeg) fun v70 =>
  bd ((4 : Int32) * v70) fun v71 =>
  bd (v71 + l4) fun v74 =>
  bd (σ.2.2 89 v74.toNatClampNeg) fun v75 =>
  bd (v59 - v75) fun v76 =>
  bd (fX12_size_0 v76 σ) fun v77 =>
  bd (l3 + v77) fun v80 =>
  bd (l4 + 1) fun v82 =>
  K42 l1 l2 v80 v82 σ
noncomputable def fX12_twice_0b42 (K42 : Int32 → Int32 → Int32 → Int32 → ST → (Int32 × ST)) (l1 : Int32) (l2 : Int32) (l3 : Int32) (l4 : Int32) (σ : ST) : (Int32 × ST) :=
  if 4 ≤ l4 then
    fX12_twice_0b88 l1 l2 l3 σ
  else
    fX12_twice_0b48 K42 l1 l2 l3 l4 σ
noncomputable def fX12_twice_0l42 : Nat → Int32 → Int32 → Int32 → Int32 → ST → (Int32 × ST)
  | 0, _, _, _, _, σ => (0, σ)
  | fu + 1, l1, l2, l3, l4, σ => fX12_twice_0b42 (fX12_twice_0l42 fu) l1 l2 l3 l4 σ
noncomputable def fX12_twice_0b33 (l1 : Int32) (l2 : Int32) (σ : ST) : (Int32 × ST) :=
  bd (fX12_findHeapMiddles_0 σ) fun s34 =>
  fX12_twice_0l42 4096 l1 l2 0 0 s34
noncomputable def fX12_twice_0b30 (σ : ST) : (Int32 × ST) :=
  ((-2), σ)
noncomputable def fX12_twice_0b23 (l1 : Int32) (l2 : Int32) (σ : ST) : (Int32 × ST) :=
  bp (fX12_findBest_0 σ) fun v24 s24 =>
  if v24 = 0 then
    fX12_twice_0b30 s24
  else
    fX12_twice_0b33 l1 l2 s24
noncomputable def fX12_twice_0b12 (l1 : Int32) (l2 : Int32) (σ : ST) : (Int32 × ST) :=
  bd (fX12_in_0 l2 0 1 σ) fun v15 =>
  if v15 = 0 then
    fX12_twice_0b21 σ
  else
    fX12_twice_0b23 l1 l2 σ
noncomputable def fX12_twice_0b0 (l1 : Int32) (l2 : Int32) (σ : ST) : (Int32 × ST) :=
  bd (fX12_findPieces_0 σ) fun s1 =>
  bd (fX12_isPiece_0 l1 s1) fun v6 =>
  if v6 = 0 then
    fX12_twice_0b21 s1
  else
    fX12_twice_0b12 l1 l2 s1
noncomputable def fX12_twice_0 (p1 : Int32) (p2 : Int32) (σ : ST) : (Int32 × ST) := fX12_twice_0b0 p1 p2 σ
noncomputable def fX12_keep_0b88 (σ : ST) : (Int32 × ST) :=
  bd (σ.1 40) fun v90 =>
  bd (v90 + 1) fun v94 =>
  bd (sI σ 40 v94) fun s95 =>
  bd (s95.1 40) fun v99 =>
  bd (v99 - 1) fun v103 =>
  (v103, s95)
noncomputable def fX12_keep_0b57 (K51 : Int32 → Int32 → ST → (Int32 × ST)) (l1 : Int32) (l4 : Int32) (σ : ST) : (Int32 × ST) :=
  bd (σ.1 40) fun v63 =>
  bd ((4 : Int32) * v63) fun v66 =>
  bd (v66 + l4) fun v69 =>
  bd ((4 : Int32) * l1) fun v76 =>
  bd (v76 + l4) fun v79 =>
  bd (σ.2.2 89 v79.toNatClampNeg) fun v80 =>
  bd (sA σ 91 (upd (σ.2.2 91) v69.toNatClampNeg v80)) fun s81 =>
  bd (l4 + 1) fun v82 =>
  K51 l1 v82 s81
noncomputable def fX12_keep_0b51 (K51 : Int32 → Int32 → ST → (Int32 × ST)) (l1 : Int32) (l4 : Int32) (σ : ST) : (Int32 × ST) :=
  if 4 ≤ l4 then
    fX12_keep_0b88 σ
  else
    fX12_keep_0b57 K51 l1 l4 σ
noncomputable def fX12_keep_0l51 : Nat → Int32 → Int32 → ST → (Int32 × ST)
  | 0, _, _, σ => (0, σ)
  | fu + 1, l1, l4, σ => fX12_keep_0b51 (fX12_keep_0l51 fu) l1 l4 σ
noncomputable def fX12_keep_0b38 (l1 : Int32) (l2 : Int32) (σ : ST) : (Int32 × ST) :=
  bd (σ.1 40) fun v43 =>
  bd (sA σ 90 (upd (σ.2.2 90) v43.toNatClampNeg l2)) fun s47 =>
  fX12_keep_0l51 4096 l1 0 s47
noncomputable def fX12_keep_0b35 (σ : ST) : (Int32 × ST) :=
  ((-3), σ)
noncomputable def fX12_keep_0b26 (l1 : Int32) (l2 : Int32) (σ : ST) : (Int32 × ST) :=
  bd (σ.1 40) fun v27 =>
  if v27 = 6 then
    fX12_keep_0b35 σ
  else
    fX12_keep_0b38 l1 l2 σ
noncomputable def fX12_keep_0b24 (l3 : Int32) (σ : ST) : (Int32 × ST) :=
  (l3, σ)
noncomputable def fX12_keep_0b19 (l1 : Int32) (l2 : Int32) (t0 : Int32) (σ : ST) : (Int32 × ST) :=
  if t0 = 0 then
    fX12_keep_0b26 l1 l2 σ
  else
    fX12_keep_0b24 t0 σ
noncomputable def fX12_keep_0b18 (l1 : Int32) (l2 : Int32) (σ : ST) : (Int32 × ST) :=
  fX12_keep_0b19 l1 l2 (-1) σ
noncomputable def fX12_keep_0b10 (l1 : Int32) (l2 : Int32) (σ : ST) : (Int32 × ST) :=
  bp (fX12_wrong_0 l1 σ) fun v12 s12 =>
  fX12_keep_0b19 l1 l2 v12 s12
noncomputable def fX12_keep_0b0 (l1 : Int32) (l2 : Int32) (σ : ST) : (Int32 × ST) :=
  bd (fX12_in_0 l2 1 99 σ) fun v4 =>
  if v4 = 0 then
    fX12_keep_0b18 l1 l2 σ
  else
    fX12_keep_0b10 l1 l2 σ
noncomputable def fX12_keep_0 (p1 : Int32) (p2 : Int32) (σ : ST) : (Int32 × ST) := fX12_keep_0b0 p1 p2 σ
noncomputable def fX12_forget_0b102 (l2 : Int32) (σ : ST) : (Int32 × ST) :=
  (l2, σ)
noncomputable def fX12_forget_0b96 (K35 : Int32 → Int32 → ST → (Int32 × ST)) (l2 : Int32) (l3 : Int32) (σ : ST) : (Int32 × ST) :=
  bd (l3 + 1) fun v96 =>
  K35 l2 v96 σ
noncomputable def fX12_forget_0b66 (K35 : Int32 → Int32 → ST → (Int32 × ST)) (K60 : Int32 → Int32 → Int32 → ST → (Int32 × ST)) (l2 : Int32) (l3 : Int32) (l4 : Int32) (σ : ST) : (Int32 × ST) :=
  bd ((4 : Int32) * l3) fun v72 =>
  bd (v72 + l4) fun v75 =>
  bd ((4 : Int32) * l3) fun v82 =>
  bd (v82 + 4) fun v84 =>
  bd (v84 + l4) fun v87 =>
  bd (σ.2.2 91 v87.toNatClampNeg) fun v88 =>
  bd (sA σ 91 (upd (σ.2.2 91) v75.toNatClampNeg v88)) fun s89 =>
  bd (l4 + 1) fun v90 =>
  K60 l2 l3 v90 s89
noncomputable def fX12_forget_0b60 (K35 : Int32 → Int32 → ST → (Int32 × ST)) (K60 : Int32 → Int32 → Int32 → ST → (Int32 × ST)) (l2 : Int32) (l3 : Int32) (l4 : Int32) (σ : ST) : (Int32 × ST) :=
  if 4 ≤ l4 then
    fX12_forget_0b96 K35 l2 l3 σ
  else
    fX12_forget_0b66 K35 K60 l2 l3 l4 σ
noncomputable def fX12_forget_0l60 (K35 : Int32 → Int32 → ST → (Int32 × ST)) : Nat → Int32 → Int32 → Int32 → ST → (Int32 × ST)
  | 0, _, _, _, σ => (0, σ)
  | fu + 1, l2, l3, l4, σ => fX12_forget_0b60 K35 (fX12_forget_0l60 K35 fu) l2 l3 l4 σ
noncomputable def fX12_forget_0b43 (K35 : Int32 → Int32 → ST → (Int32 × ST)) (l2 : Int32) (l3 : Int32) (σ : ST) : (Int32 × ST) :=
  bd (l3 + 1) fun v54 =>
  bd (σ.2.2 90 v54.toNatClampNeg) fun v55 =>
  bd (sA σ 90 (upd (σ.2.2 90) l3.toNatClampNeg v55)) fun s56 =>
  fX12_forget_0l60 K35 4096 l2 l3 0 s56
noncomputable def fX12_forget_0b35 (K35 : Int32 → Int32 → ST → (Int32 × ST)) (l2 : Int32) (l3 : Int32) (σ : ST) : (Int32 × ST) :=
  bd (σ.1 40) fun v37 =>
  if v37 ≤ l3 then
    fX12_forget_0b102 l2 σ
  else
    fX12_forget_0b43 K35 l2 l3 σ
noncomputable def fX12_forget_0l35 : Nat → Int32 → Int32 → ST → (Int32 × ST)
  | 0, _, _, σ => (0, σ)
  | fu + 1, l2, l3, σ => fX12_forget_0b35 (fX12_forget_0l35 fu) l2 l3 σ
noncomputable def fX12_forget_0b16 (l1 : Int32) (σ : ST) : (Int32 × ST) :=
  bd (σ.2.2 90 l1.toNatClampNeg) fun v21 =>
  bd (σ.1 40) fun v25 =>
  bd (v25 - 1) fun v29 =>
  bd (sI σ 40 v29) fun s30 =>
  fX12_forget_0l35 4096 v21 l1 s30
noncomputable def fX12_forget_0b14 (σ : ST) : (Int32 × ST) :=
  ((-1), σ)
noncomputable def fX12_forget_0b0 (l1 : Int32) (σ : ST) : (Int32 × ST) :=
  bd (σ.1 40) fun v3 =>
  bd (v3 - 1) fun v7 =>
  bd (fX12_in_0 l1 0 v7 σ) fun v8 =>
  if v8 = 0 then
    fX12_forget_0b14 σ
  else
    fX12_forget_0b16 l1 σ
noncomputable def fX12_forget_0 (p1 : Int32) (σ : ST) : (Int32 × ST) := fX12_forget_0b0 p1 σ
noncomputable def fX12_back_0b163 (t0 : Int32) (σ : ST) : (Int32 × ST) :=
  (t0, σ)
noncomputable def fX12_back_0b151 (l4 : Int32) (σ : ST) : (Int32 × ST) :=
  fX12_back_0b163 l4 σ
noncomputable def fX12_back_0b156 (l4 : Int32) (σ : ST) : (Int32 × ST) :=
  bd (σ.2.2 90 l4.toNatClampNeg) fun v162 =>
  fX12_back_0b163 v162 σ
noncomputable def fX12_back_0b146 (l2 : Int32) (l4 : Int32) (σ : ST) : (Int32 × ST) :=
  if l2 = 1 then
    fX12_back_0b151 l4 σ
  else
    fX12_back_0b156 l4 σ
noncomputable def fX12_back_0b139 (l2 : Int32) (l4 : Int32) (σ : ST) : (Int32 × ST) :=
  if l4 = (-9) then
    fX12_back_0b151 l4 σ
  else
    fX12_back_0b146 l2 l4 σ
noncomputable def fX12_back_0b131 (K42 : Int32 → Int32 → Int32 → Int32 → Int32 → ST → (Int32 × ST)) (l1 : Int32) (l2 : Int32) (l4 : Int32) (l6 : Int32) (t0 : Int32) (σ : ST) : (Int32 × ST) :=
  bd (l6 + 1) fun v133 =>
  K42 l1 l2 l4 t0 v133 σ
noncomputable def fX12_back_0b129 (K42 : Int32 → Int32 → Int32 → Int32 → Int32 → ST → (Int32 × ST)) (l1 : Int32) (l2 : Int32) (l4 : Int32) (l5 : Int32) (l6 : Int32) (σ : ST) : (Int32 × ST) :=
  fX12_back_0b131 K42 l1 l2 l4 l6 l5 σ
noncomputable def fX12_back_0b124 (K42 : Int32 → Int32 → Int32 → Int32 → Int32 → ST → (Int32 × ST)) (l1 : Int32) (l2 : Int32) (l4 : Int32) (l6 : Int32) (l7 : Int32) (σ : ST) : (Int32 × ST) :=
  fX12_back_0b131 K42 l1 l2 l4 l6 l7 σ
noncomputable def fX12_back_0b115 (K42 : Int32 → Int32 → Int32 → Int32 → Int32 → ST → (Int32 × ST)) (l1 : Int32) (l2 : Int32) (l5 : Int32) (l6 : Int32) (l7 : Int32) (t0 : Int32) (σ : ST) : (Int32 × ST) :=
  if l5 ≤ l7 then
    fX12_back_0b129 K42 l1 l2 t0 l5 l6 σ
  else
    fX12_back_0b124 K42 l1 l2 t0 l6 l7 σ
noncomputable def fX12_back_0b113 (K42 : Int32 → Int32 → Int32 → Int32 → Int32 → ST → (Int32 × ST)) (l1 : Int32) (l2 : Int32) (l4 : Int32) (l5 : Int32) (l6 : Int32) (l7 : Int32) (σ : ST) : (Int32 × ST) :=
  fX12_back_0b115 K42 l1 l2 l5 l6 l7 l4 σ
noncomputable def fX12_back_0b108 (K42 : Int32 → Int32 → Int32 → Int32 → Int32 → ST → (Int32 × ST)) (l1 : Int32) (l2 : Int32) (l5 : Int32) (l6 : Int32) (l7 : Int32) (σ : ST) : (Int32 × ST) :=
  fX12_back_0b115 K42 l1 l2 l5 l6 l7 l6 σ
noncomputable def fX12_back_0b101 (K42 : Int32 → Int32 → Int32 → Int32 → Int32 → ST → (Int32 × ST)) (l1 : Int32) (l2 : Int32) (l4 : Int32) (l5 : Int32) (l6 : Int32) (l7 : Int32) (σ : ST) : (Int32 × ST) :=
  if l5 ≤ l7 then
    fX12_back_0b113 K42 l1 l2 l4 l5 l6 l7 σ
  else
    fX12_back_0b108 K42 l1 l2 l5 l6 l7 σ
noncomputable def fX12_back_0b63 (K42 : Int32 → Int32 → Int32 → Int32 → Int32 → ST → (Int32 × ST)) (K57 : Int32 → Int32 → Int32 → Int32 → Int32 → Int32 → Int32 → ST → (Int32 × ST)) (l1 : Int32) (l2 : Int32) (l4 : Int32) (l5 : Int32) (l6 : Int32) (l7 : Int32) (l8 : Int32) (σ : ST) : (Int32 × ST) :=
  bd ((4 : Int32) * l1) fun v71 =>
  bd (v71 + l8) fun v74 =>
  bd (σ.2.2 89 v74.toNatClampNeg) fun v75 =>
  bd ((4 : Int32) * l6) fun v83 =>
  bd (v83 + l8) fun v86 =>
  bd (σ.2.2 91 v86.toNatClampNeg) fun v87 =>
  bd (v75 - v87) fun v88 =>
  bd (fX12_size_0 v88 σ) fun v89 =>
  bd (l7 + v89) fun v92 =>
  bd (l8 + 1) fun v95 =>
  K57 l1 l2 l4 l5 l6 v92 v95 σ
noncomputable def fX12_back_0b57 (K42 : Int32 → Int32 → Int32 → Int32 → Int32 → ST → (Int32 × ST)) (K57 : Int32 → Int32 → Int32 → Int32 → Int32 → Int32 → Int32 → ST → (Int32 × ST)) (l1 : Int32) (l2 : Int32) (l4 : Int32) (l5 : Int32) (l6 : Int32) (l7 : Int32) (l8 : Int32) (σ : ST) : (Int32 × ST) :=
  if 4 ≤ l8 then
    fX12_back_0b101 K42 l1 l2 l4 l5 l6 l7 σ
  else
    fX12_back_0b63 K42 K57 l1 l2 l4 l5 l6 l7 l8 σ
noncomputable def fX12_back_0l57 (K42 : Int32 → Int32 → Int32 → Int32 → Int32 → ST → (Int32 × ST)) : Nat → Int32 → Int32 → Int32 → Int32 → Int32 → Int32 → Int32 → ST → (Int32 × ST)
  | 0, _, _, _, _, _, _, _, σ => (0, σ)
  | fu + 1, l1, l2, l4, l5, l6, l7, l8, σ => fX12_back_0b57 K42 (fX12_back_0l57 K42 fu) l1 l2 l4 l5 l6 l7 l8 σ
noncomputable def fX12_back_0b51 (K42 : Int32 → Int32 → Int32 → Int32 → Int32 → ST → (Int32 × ST)) (l1 : Int32) (l2 : Int32) (l4 : Int32) (l5 : Int32) (l6 : Int32) (σ : ST) : (Int32 × ST) :=
  fX12_back_0l57 K42 4096 l1 l2 l4 l5 l6 0 0 σ
noncomputable def fX12_back_0b42 (K42 : Int32 → Int32 → Int32 → Int32 → Int32 → ST → (Int32 × ST)) (l1 : Int32) (l2 : Int32) (l4 : Int32) (l5 : Int32) (l6 : Int32) (σ : ST) : (Int32 × ST) :=
  bd (σ.1 40) fun v45 =>
  if v45 ≤ l6 then
    fX12_back_0b139 l2 l4 σ
  else
    fX12_back_0b51 K42 l1 l2 l4 l5 l6 σ
noncomputable def fX12_back_0l42 : Nat → Int32 → Int32 → Int32 → Int32 → Int32 → ST → (Int32 × ST)
  | 0, _, _, _, _, _, σ => (0, σ)
  | fu + 1, l1, l2, l4, l5, l6, σ => fX12_back_0b42 (fX12_back_0l42 fu) l1 l2 l4 l5 l6 σ
noncomputable def fX12_back_0b25 (l1 : Int32) (l2 : Int32) (σ : ST) : (Int32 × ST) :=
  bd (σ.2.2 66 (2 : Int32).toNatClampNeg) fun v34 =>
  bd (v34 + 1) fun v36 =>
  fX12_back_0l42 4096 l1 l2 (-9) v36 0 σ
noncomputable def fX12_back_0b23 (l3 : Int32) (σ : ST) : (Int32 × ST) :=
  (l3, σ)
noncomputable def fX12_back_0b18 (l1 : Int32) (l2 : Int32) (t0 : Int32) (σ : ST) : (Int32 × ST) :=
  if t0 = 0 then
    fX12_back_0b25 l1 l2 σ
  else
    fX12_back_0b23 t0 σ
noncomputable def fX12_back_0b17 (l1 : Int32) (l2 : Int32) (σ : ST) : (Int32 × ST) :=
  fX12_back_0b18 l1 l2 (-1) σ
noncomputable def fX12_back_0b9 (l1 : Int32) (l2 : Int32) (σ : ST) : (Int32 × ST) :=
  bp (fX12_wrong_0 l1 σ) fun v11 s11 =>
  fX12_back_0b18 l1 l2 v11 s11
noncomputable def fX12_back_0b0 (l1 : Int32) (l2 : Int32) (σ : ST) : (Int32 × ST) :=
  bd (fX12_in_0 l2 0 1 σ) fun v3 =>
  if v3 = 0 then
    fX12_back_0b17 l1 l2 σ
  else
    fX12_back_0b9 l1 l2 σ
noncomputable def fX12_back_0 (p1 : Int32) (p2 : Int32) (σ : ST) : (Int32 × ST) := fX12_back_0b0 p1 p2 σ
noncomputable def fX12_bitsIn_0b24 (l1 : Int32) (σ : ST) : Int32 :=
  l1
noncomputable def fX12_bitsIn_0b10 (K4 : Int32 → Int32 → Int32 → ST → Int32) (l0 : Int32) (l1 : Int32) (l2 : Int32) (σ : ST) : Int32 :=
  bd (l0 >>> (l2 &&& 31)) fun v13 =>
  bd (v13 &&& 1) fun v15 =>
  bd (l1 + v15) fun v16 =>
  bd (l2 + 1) fun v18 =>
  K4 l0 v16 v18 σ
noncomputable def fX12_bitsIn_0b4 (K4 : Int32 → Int32 → Int32 → ST → Int32) (l0 : Int32) (l1 : Int32) (l2 : Int32) (σ : ST) : Int32 :=
  if 9 ≤ l2 then
    fX12_bitsIn_0b24 l1 σ
  else
    fX12_bitsIn_0b10 K4 l0 l1 l2 σ
noncomputable def fX12_bitsIn_0l4 : Nat → Int32 → Int32 → Int32 → ST → Int32
  | 0, _, _, _, σ => 0
  | fu + 1, l0, l1, l2, σ => fX12_bitsIn_0b4 (fX12_bitsIn_0l4 fu) l0 l1 l2 σ
noncomputable def fX12_bitsIn_0b0 (l0 : Int32) (σ : ST) : Int32 :=
  fX12_bitsIn_0l4 4096 l0 0 0 σ
noncomputable def fX12_bitsIn_0 (p0 : Int32) (σ : ST) : Int32 := fX12_bitsIn_0b0 p0 σ
noncomputable def fX12_offsOf_0b75 (l3 : Int32) (σ : ST) : Int32 :=
  l3
noncomputable def fX12_offsOf_0b69 (K5 : Int32 → Int32 → Int32 → Int32 → ST → Int32) (l1 : Int32) (l2 : Int32) (l3 : Int32) (l4 : Int32) (σ : ST) : Int32 :=
  bd (l4 + 1) fun v69 =>
  K5 l1 l2 l3 v69 σ
noncomputable def fX12_offsOf_0b33 (K5 : Int32 → Int32 → Int32 → Int32 → ST → Int32) (K17 : Int32 → Int32 → Int32 → Int32 → Int32 → ST → Int32) (l1 : Int32) (l2 : Int32) (l3 : Int32) (l4 : Int32) (l5 : Int32) (σ : ST) : Int32 :=
  bd ((4 : Int32) * l4) fun v41 =>
  bd (v41 + l5) fun v44 =>
  bd (σ.2.2 78 v44.toNatClampNeg) fun v45 =>
  bd ((4 : Int32) * l2) fun v52 =>
  bd (v52 + l5) fun v55 =>
  bd (σ.2.2 91 v55.toNatClampNeg) fun v56 =>
  bd (v45 - v56) fun v57 =>
  bd (fX12_size_0 v57 σ) fun v58 =>
  bd (l3 + v58) fun v61 =>
  bd (l5 + 1) fun v63 =>
  K17 l1 l2 v61 l4 v63 σ
noncomputable def fX12_offsOf_0b23 (K5 : Int32 → Int32 → Int32 → Int32 → ST → Int32) (K17 : Int32 → Int32 → Int32 → Int32 → Int32 → ST → Int32) (l1 : Int32) (l2 : Int32) (l3 : Int32) (l4 : Int32) (l5 : Int32) (σ : ST) : Int32 :=
  bd (l1 >>> (l4 &&& 31)) fun v26 =>
  bd (v26 &&& 1) fun v28 =>
  if v28 = 1 then
    fX12_offsOf_0b33 K5 K17 l1 l2 l3 l4 l5 σ
  else
    fX12_offsOf_0b69 K5 l1 l2 l3 l4 σ
noncomputable def fX12_offsOf_0b17 (K5 : Int32 → Int32 → Int32 → Int32 → ST → Int32) (K17 : Int32 → Int32 → Int32 → Int32 → Int32 → ST → Int32) (l1 : Int32) (l2 : Int32) (l3 : Int32) (l4 : Int32) (l5 : Int32) (σ : ST) : Int32 :=
  if 4 ≤ l5 then
    fX12_offsOf_0b69 K5 l1 l2 l3 l4 σ
  else
    fX12_offsOf_0b23 K5 K17 l1 l2 l3 l4 l5 σ
noncomputable def fX12_offsOf_0l17 (K5 : Int32 → Int32 → Int32 → Int32 → ST → Int32) : Nat → Int32 → Int32 → Int32 → Int32 → Int32 → ST → Int32
  | 0, _, _, _, _, _, σ => 0
  | fu + 1, l1, l2, l3, l4, l5, σ => fX12_offsOf_0b17 K5 (fX12_offsOf_0l17 K5 fu) l1 l2 l3 l4 l5 σ
noncomputable def fX12_offsOf_0b14 (K5 : Int32 → Int32 → Int32 → Int32 → ST → Int32) (l1 : Int32) (l2 : Int32) (l3 : Int32) (l4 : Int32) (σ : ST) : Int32 :=
  fX12_offsOf_0l17 K5 4096 l1 l2 l3 l4 0 σ
noncomputable def fX12_offsOf_0b5 (K5 : Int32 → Int32 → Int32 → Int32 → ST → Int32) (l1 : Int32) (l2 : Int32) (l3 : Int32) (l4 : Int32) (σ : ST) : Int32 :=
  bd (σ.1 35) fun v8 =>
  if v8 ≤ l4 then
    fX12_offsOf_0b75 l3 σ
  else
    fX12_offsOf_0b14 K5 l1 l2 l3 l4 σ
noncomputable def fX12_offsOf_0l5 : Nat → Int32 → Int32 → Int32 → Int32 → ST → Int32
  | 0, _, _, _, _, σ => 0
  | fu + 1, l1, l2, l3, l4, σ => fX12_offsOf_0b5 (fX12_offsOf_0l5 fu) l1 l2 l3 l4 σ
noncomputable def fX12_offsOf_0b0 (l1 : Int32) (l2 : Int32) (σ : ST) : Int32 :=
  fX12_offsOf_0l5 4096 l1 l2 0 0 σ
noncomputable def fX12_offsOf_0 (p1 : Int32) (p2 : Int32) (σ : ST) : Int32 := fX12_offsOf_0b0 p1 p2 σ
noncomputable def fX12_odds_0b167 (t0 : Int32) (σ : ST) : (Int32 × ST) :=
  (t0, σ)
noncomputable def fX12_odds_0b165 (l6 : Int32) (σ : ST) : (Int32 × ST) :=
  fX12_odds_0b167 l6 σ
noncomputable def fX12_odds_0b160 (l7 : Int32) (σ : ST) : (Int32 × ST) :=
  fX12_odds_0b167 l7 σ
noncomputable def fX12_odds_0b156 (l3 : Int32) (l6 : Int32) (l7 : Int32) (σ : ST) : (Int32 × ST) :=
  if l3 = 0 then
    fX12_odds_0b160 l7 σ
  else
    fX12_odds_0b165 l6 σ
noncomputable def fX12_odds_0b150 (K96 : Int32 → Int32 → Int32 → Int32 → Int32 → Int32 → ST → (Int32 × ST)) (l2 : Int32) (l3 : Int32) (l5 : Int32) (l6 : Int32) (l7 : Int32) (l8 : Int32) (σ : ST) : (Int32 × ST) :=
  bd (l8 + 1) fun v150 =>
  K96 l2 l3 l5 l6 l7 v150 σ
noncomputable def fX12_odds_0b147 (K96 : Int32 → Int32 → Int32 → Int32 → Int32 → Int32 → ST → (Int32 × ST)) (l2 : Int32) (l3 : Int32) (l5 : Int32) (l6 : Int32) (l8 : Int32) (t0 : Int32) (t1 : Int32) (σ : ST) : (Int32 × ST) :=
  bd (t1 + t0) fun v147 =>
  fX12_odds_0b150 K96 l2 l3 l5 l6 v147 l8 σ
noncomputable def fX12_odds_0b146 (K96 : Int32 → Int32 → Int32 → Int32 → Int32 → Int32 → ST → (Int32 × ST)) (l2 : Int32) (l3 : Int32) (l5 : Int32) (l6 : Int32) (l8 : Int32) (t0 : Int32) (σ : ST) : (Int32 × ST) :=
  fX12_odds_0b147 K96 l2 l3 l5 l6 l8 0 t0 σ
noncomputable def fX12_odds_0b142 (K96 : Int32 → Int32 → Int32 → Int32 → Int32 → Int32 → ST → (Int32 × ST)) (l2 : Int32) (l3 : Int32) (l5 : Int32) (l6 : Int32) (l8 : Int32) (t0 : Int32) (σ : ST) : (Int32 × ST) :=
  fX12_odds_0b147 K96 l2 l3 l5 l6 l8 1 t0 σ
noncomputable def fX12_odds_0b120 (K96 : Int32 → Int32 → Int32 → Int32 → Int32 → Int32 → ST → (Int32 × ST)) (l2 : Int32) (l3 : Int32) (l5 : Int32) (l6 : Int32) (l7 : Int32) (l8 : Int32) (σ : ST) : (Int32 × ST) :=
  bd (l6 + 1) fun v120 =>
  bd (fX12_offsOf_0 l8 l2 σ) fun v129 =>
  bd (fX12_offsOf_0 l5 l2 σ) fun v136 =>
  if v136 < v129 then
    fX12_odds_0b146 K96 l2 l3 l5 v120 l8 l7 σ
  else
    fX12_odds_0b142 K96 l2 l3 l5 v120 l8 l7 σ
noncomputable def fX12_odds_0b107 (K96 : Int32 → Int32 → Int32 → Int32 → Int32 → Int32 → ST → (Int32 × ST)) (l2 : Int32) (l3 : Int32) (l5 : Int32) (l6 : Int32) (l7 : Int32) (l8 : Int32) (σ : ST) : (Int32 × ST) :=
  bd (fX12_bitsIn_0 l8 σ) fun v109 =>
  bd (fX12_bitsIn_0 l5 σ) fun v114 =>
  if v109 = v114 then
    fX12_odds_0b120 K96 l2 l3 l5 l6 l7 l8 σ
  else
    fX12_odds_0b150 K96 l2 l3 l5 l6 l7 l8 σ
noncomputable def fX12_odds_0b96 (K96 : Int32 → Int32 → Int32 → Int32 → Int32 → Int32 → ST → (Int32 × ST)) (l2 : Int32) (l3 : Int32) (l5 : Int32) (l6 : Int32) (l7 : Int32) (l8 : Int32) (σ : ST) : (Int32 × ST) :=
  bd (σ.1 35) fun v100 =>
  bd ((1 : Int32) <<< (v100 &&& 31)) fun v103 =>
  if v103 ≤ l8 then
    fX12_odds_0b156 l3 l6 l7 σ
  else
    fX12_odds_0b107 K96 l2 l3 l5 l6 l7 l8 σ
noncomputable def fX12_odds_0l96 : Nat → Int32 → Int32 → Int32 → Int32 → Int32 → Int32 → ST → (Int32 × ST)
  | 0, _, _, _, _, _, _, σ => (0, σ)
  | fu + 1, l2, l3, l5, l6, l7, l8, σ => fX12_odds_0b96 (fX12_odds_0l96 fu) l2 l3 l5 l6 l7 l8 σ
noncomputable def fX12_odds_0b87 (l2 : Int32) (l3 : Int32) (l5 : Int32) (σ : ST) : (Int32 × ST) :=
  fX12_odds_0l96 4096 l2 l3 l5 0 0 0 σ
noncomputable def fX12_odds_0b78 (K48 : Int32 → Int32 → Int32 → Int32 → Int32 → ST → (Int32 × ST)) (l1 : Int32) (l2 : Int32) (l3 : Int32) (l6 : Int32) (t0 : Int32) (t1 : Int32) (σ : ST) : (Int32 × ST) :=
  bd (t1 ||| t0) fun v78 =>
  bd (l6 + 1) fun v81 =>
  K48 l1 l2 l3 v78 v81 σ
noncomputable def fX12_odds_0b77 (K48 : Int32 → Int32 → Int32 → Int32 → Int32 → ST → (Int32 × ST)) (l1 : Int32) (l2 : Int32) (l3 : Int32) (l6 : Int32) (t0 : Int32) (σ : ST) : (Int32 × ST) :=
  fX12_odds_0b78 K48 l1 l2 l3 l6 0 t0 σ
noncomputable def fX12_odds_0b70 (K48 : Int32 → Int32 → Int32 → Int32 → Int32 → ST → (Int32 × ST)) (l1 : Int32) (l2 : Int32) (l3 : Int32) (l6 : Int32) (t0 : Int32) (σ : ST) : (Int32 × ST) :=
  bd ((1 : Int32) <<< (l6 &&& 31)) fun v73 =>
  fX12_odds_0b78 K48 l1 l2 l3 l6 v73 t0 σ
noncomputable def fX12_odds_0b57 (K48 : Int32 → Int32 → Int32 → Int32 → Int32 → ST → (Int32 × ST)) (l1 : Int32) (l2 : Int32) (l3 : Int32) (l5 : Int32) (l6 : Int32) (σ : ST) : (Int32 × ST) :=
  bd (σ.2.2 86 l6.toNatClampNeg) fun v65 =>
  if v65 = l1 then
    fX12_odds_0b70 K48 l1 l2 l3 l6 l5 σ
  else
    fX12_odds_0b77 K48 l1 l2 l3 l6 l5 σ
noncomputable def fX12_odds_0b48 (K48 : Int32 → Int32 → Int32 → Int32 → Int32 → ST → (Int32 × ST)) (l1 : Int32) (l2 : Int32) (l3 : Int32) (l5 : Int32) (l6 : Int32) (σ : ST) : (Int32 × ST) :=
  bd (σ.1 35) fun v51 =>
  if v51 ≤ l6 then
    fX12_odds_0b87 l2 l3 l5 σ
  else
    fX12_odds_0b57 K48 l1 l2 l3 l5 l6 σ
noncomputable def fX12_odds_0l48 : Nat → Int32 → Int32 → Int32 → Int32 → Int32 → ST → (Int32 × ST)
  | 0, _, _, _, _, _, σ => (0, σ)
  | fu + 1, l1, l2, l3, l5, l6, σ => fX12_odds_0b48 (fX12_odds_0l48 fu) l1 l2 l3 l5 l6 σ
noncomputable def fX12_odds_0b42 (l1 : Int32) (l2 : Int32) (l3 : Int32) (σ : ST) : (Int32 × ST) :=
  fX12_odds_0l48 4096 l1 l2 l3 0 0 σ
noncomputable def fX12_odds_0b39 (l4 : Int32) (σ : ST) : (Int32 × ST) :=
  (l4, σ)
noncomputable def fX12_odds_0b32 (l1 : Int32) (l2 : Int32) (l3 : Int32) (t0 : Int32) (σ : ST) : (Int32 × ST) :=
  if t0 = 0 then
    fX12_odds_0b42 l1 l2 l3 σ
  else
    fX12_odds_0b39 t0 σ
noncomputable def fX12_odds_0b31 (l1 : Int32) (l2 : Int32) (l3 : Int32) (σ : ST) : (Int32 × ST) :=
  fX12_odds_0b32 l1 l2 l3 (-1) σ
noncomputable def fX12_odds_0b23 (l1 : Int32) (l2 : Int32) (l3 : Int32) (σ : ST) : (Int32 × ST) :=
  bp (fX12_wrong_0 l1 σ) fun v25 s25 =>
  fX12_odds_0b32 l1 l2 l3 v25 s25
noncomputable def fX12_odds_0b14 (l1 : Int32) (l2 : Int32) (l3 : Int32) (σ : ST) : (Int32 × ST) :=
  bd (fX12_in_0 l3 0 1 σ) fun v17 =>
  if v17 = 0 then
    fX12_odds_0b31 l1 l2 l3 σ
  else
    fX12_odds_0b23 l1 l2 l3 σ
noncomputable def fX12_odds_0b0 (l1 : Int32) (l2 : Int32) (l3 : Int32) (σ : ST) : (Int32 × ST) :=
  bd (σ.1 40) fun v3 =>
  bd (v3 - 1) fun v7 =>
  bd (fX12_in_0 l2 0 v7 σ) fun v8 =>
  if v8 = 0 then
    fX12_odds_0b31 l1 l2 l3 σ
  else
    fX12_odds_0b14 l1 l2 l3 σ
noncomputable def fX12_odds_0 (p1 : Int32) (p2 : Int32) (p3 : Int32) (σ : ST) : (Int32 × ST) := fX12_odds_0b0 p1 p2 p3 σ
noncomputable def fX12_heapOfRow_0b27 (t0 : Int32) (σ : ST) : Int32 :=
  t0
noncomputable def fX12_heapOfRow_0b16 (l1 : Int32) (σ : ST) : Int32 :=
  bd (σ.2.2 77 l1.toNatClampNeg) fun v25 =>
  bd (σ.2.2 86 v25.toNatClampNeg) fun v26 =>
  fX12_heapOfRow_0b27 v26 σ
noncomputable def fX12_heapOfRow_0b11 (σ : ST) : Int32 :=
  fX12_heapOfRow_0b27 (-9) σ
noncomputable def fX12_heapOfRow_0b0 (l1 : Int32) (σ : ST) : Int32 :=
  bd (σ.2.2 77 l1.toNatClampNeg) fun v5 =>
  if v5 = (-9) then
    fX12_heapOfRow_0b11 σ
  else
    fX12_heapOfRow_0b16 l1 σ
noncomputable def fX12_heapOfRow_0 (p1 : Int32) (σ : ST) : Int32 := fX12_heapOfRow_0b0 p1 σ
noncomputable def fX12_show_0b37 (σ : ST) : (Int32 × ST) :=
  bd (σ.1 31) fun v39 =>
  bd (sI σ 33 v39) fun s42 =>
  bd (sI s42 34 1) fun s47 =>
  bd (s47.1 31) fun v51 =>
  (v51, s47)
noncomputable def fX12_show_0b20 (K12 : Int32 → ST → (Int32 × ST)) (l1 : Int32) (σ : ST) : (Int32 × ST) :=
  bd (fX12_heapOfRow_0 l1 σ) fun v27 =>
  bd (sA σ 74 (upd (σ.2.2 74) l1.toNatClampNeg v27)) fun s30 =>
  bd (l1 + 1) fun v31 =>
  K12 v31 s30
noncomputable def fX12_show_0b12 (K12 : Int32 → ST → (Int32 × ST)) (l1 : Int32) (σ : ST) : (Int32 × ST) :=
  bd (σ.1 31) fun v14 =>
  if v14 ≤ l1 then
    fX12_show_0b37 σ
  else
    fX12_show_0b20 K12 l1 σ
noncomputable def fX12_show_0l12 : Nat → Int32 → ST → (Int32 × ST)
  | 0, _, σ => (0, σ)
  | fu + 1, l1, σ => fX12_show_0b12 (fX12_show_0l12 fu) l1 σ
noncomputable def fX12_show_0b10 (σ : ST) : (Int32 × ST) :=
  fX12_show_0l12 4096 0 σ
noncomputable def fX12_show_0b7 (σ : ST) : (Int32 × ST) :=
  ((-2), σ)
noncomputable def fX12_show_0b0 (σ : ST) : (Int32 × ST) :=
  bp (fX12_findBest_0 σ) fun v1 s1 =>
  if v1 = 0 then
    fX12_show_0b7 s1
  else
    fX12_show_0b10 s1
noncomputable def fX12_show_0  (σ : ST) : (Int32 × ST) := fX12_show_0b0  σ
noncomputable def fX12_otherwise_0b14 (σ : ST) : (Int32 × ST) :=
  ((-2), σ)
noncomputable def fX12_otherwise_0b65 (l1 : Int32) (σ : ST) : (Int32 × ST) :=
  (l1, σ)
noncomputable def fX12_otherwise_0b57 (K21 : Int32 → Int32 → ST → (Int32 × ST)) (l2 : Int32) (t0 : Int32) (t1 : Int32) (σ : ST) : (Int32 × ST) :=
  bd (t1 + t0) fun v57 =>
  bd (l2 + 1) fun v59 =>
  K21 v57 v59 σ
noncomputable def fX12_otherwise_0b56 (K21 : Int32 → Int32 → ST → (Int32 × ST)) (l2 : Int32) (t0 : Int32) (σ : ST) : (Int32 × ST) :=
  fX12_otherwise_0b57 K21 l2 1 t0 σ
noncomputable def fX12_otherwise_0b52 (K21 : Int32 → Int32 → ST → (Int32 × ST)) (l2 : Int32) (t0 : Int32) (σ : ST) : (Int32 × ST) :=
  fX12_otherwise_0b57 K21 l2 0 t0 σ
noncomputable def fX12_otherwise_0b37 (K21 : Int32 → Int32 → ST → (Int32 × ST)) (l1 : Int32) (l2 : Int32) (σ : ST) : (Int32 × ST) :=
  bd (σ.2.2 74 l2.toNatClampNeg) fun v43 =>
  bd (fX12_heapOfRow_0 l2 σ) fun v46 =>
  if v43 = v46 then
    fX12_otherwise_0b52 K21 l2 l1 σ
  else
    fX12_otherwise_0b56 K21 l2 l1 σ
noncomputable def fX12_otherwise_0b29 (K21 : Int32 → Int32 → ST → (Int32 × ST)) (l1 : Int32) (l2 : Int32) (σ : ST) : (Int32 × ST) :=
  bd (σ.1 31) fun v31 =>
  if v31 ≤ l2 then
    fX12_otherwise_0b65 l1 σ
  else
    fX12_otherwise_0b37 K21 l1 l2 σ
noncomputable def fX12_otherwise_0b21 (K21 : Int32 → Int32 → ST → (Int32 × ST)) (l1 : Int32) (l2 : Int32) (σ : ST) : (Int32 × ST) :=
  bd (σ.1 33) fun v23 =>
  if v23 ≤ l2 then
    fX12_otherwise_0b65 l1 σ
  else
    fX12_otherwise_0b29 K21 l1 l2 σ
noncomputable def fX12_otherwise_0l21 : Nat → Int32 → Int32 → ST → (Int32 × ST)
  | 0, _, _, σ => (0, σ)
  | fu + 1, l1, l2, σ => fX12_otherwise_0b21 (fX12_otherwise_0l21 fu) l1 l2 σ
noncomputable def fX12_otherwise_0b17 (σ : ST) : (Int32 × ST) :=
  fX12_otherwise_0l21 4096 0 0 σ
noncomputable def fX12_otherwise_0b7 (σ : ST) : (Int32 × ST) :=
  bp (fX12_findBest_0 σ) fun v8 s8 =>
  if v8 = 0 then
    fX12_otherwise_0b14 s8
  else
    fX12_otherwise_0b17 s8
noncomputable def fX12_otherwise_0b0 (σ : ST) : (Int32 × ST) :=
  bd (σ.1 34) fun v1 =>
  if v1 = 0 then
    fX12_otherwise_0b14 σ
  else
    fX12_otherwise_0b7 σ
noncomputable def fX12_otherwise_0  (σ : ST) : (Int32 × ST) := fX12_otherwise_0b0  σ
noncomputable def fX12_word_0b23 (l1 : Int32) (l2 : Int32) (σ : ST) : (Int32 × ST) :=
  bd (σ.1 32) fun v28 =>
  bd (sA σ 72 (upd (σ.2.2 72) v28.toNatClampNeg l1)) fun s32 =>
  bd (s32.1 32) fun v38 =>
  bd (sA s32 73 (upd (s32.2.2 73) v38.toNatClampNeg l2)) fun s42 =>
  bd (s42.1 32) fun v45 =>
  bd (v45 + 1) fun v49 =>
  bd (sI s42 32 v49) fun s50 =>
  bd (s50.1 32) fun v54 =>
  bd (v54 - 1) fun v58 =>
  (v58, s50)
noncomputable def fX12_word_0b20 (σ : ST) : (Int32 × ST) :=
  ((-3), σ)
noncomputable def fX12_word_0b11 (l1 : Int32) (l2 : Int32) (σ : ST) : (Int32 × ST) :=
  bd (σ.1 32) fun v12 =>
  if v12 = 12 then
    fX12_word_0b20 σ
  else
    fX12_word_0b23 l1 l2 σ
noncomputable def fX12_word_0b9 (σ : ST) : (Int32 × ST) :=
  ((-1), σ)
noncomputable def fX12_word_0b0 (l1 : Int32) (l2 : Int32) (σ : ST) : (Int32 × ST) :=
  bd (fX12_areRows_0 l1 l2 σ) fun v3 =>
  if v3 = 0 then
    fX12_word_0b9 σ
  else
    fX12_word_0b11 l1 l2 σ
noncomputable def fX12_word_0 (p1 : Int32) (p2 : Int32) (σ : ST) : (Int32 × ST) := fX12_word_0b0 p1 p2 σ
noncomputable def fX12_hung_0b23 (σ : ST) : (Int32 × ST) :=
  ((-1), σ)
noncomputable def fX12_hung_0b179 (t0 : Int32) (σ : ST) : (Int32 × ST) :=
  (t0, σ)
noncomputable def fX12_hung_0b177 (l5 : Int32) (σ : ST) : (Int32 × ST) :=
  fX12_hung_0b179 l5 σ
noncomputable def fX12_hung_0b173 (l3 : Int32) (σ : ST) : (Int32 × ST) :=
  fX12_hung_0b179 l3 σ
noncomputable def fX12_hung_0b169 (l2 : Int32) (l3 : Int32) (l5 : Int32) (σ : ST) : (Int32 × ST) :=
  if l2 = 0 then
    fX12_hung_0b173 l3 σ
  else
    fX12_hung_0b177 l5 σ
noncomputable def fX12_hung_0b160 (K41 : Int32 → Int32 → Int32 → Int32 → Int32 → Int32 → ST → (Int32 × ST)) (l1 : Int32) (l2 : Int32) (l3 : Int32) (l4 : Int32) (l6 : Int32) (t0 : Int32) (t1 : Int32) (σ : ST) : (Int32 × ST) :=
  bd (t1 + t0) fun v160 =>
  bd (l6 + 1) fun v163 =>
  K41 l1 l2 l3 l4 v160 v163 σ
noncomputable def fX12_hung_0b159 (K41 : Int32 → Int32 → Int32 → Int32 → Int32 → Int32 → ST → (Int32 × ST)) (l1 : Int32) (l2 : Int32) (l3 : Int32) (l4 : Int32) (l6 : Int32) (t0 : Int32) (σ : ST) : (Int32 × ST) :=
  fX12_hung_0b160 K41 l1 l2 l3 l4 l6 0 t0 σ
noncomputable def fX12_hung_0b155 (K41 : Int32 → Int32 → Int32 → Int32 → Int32 → Int32 → ST → (Int32 × ST)) (l1 : Int32) (l2 : Int32) (l3 : Int32) (l4 : Int32) (l6 : Int32) (t0 : Int32) (σ : ST) : (Int32 × ST) :=
  fX12_hung_0b160 K41 l1 l2 l3 l4 l6 1 t0 σ
noncomputable def fX12_hung_0b146 (K41 : Int32 → Int32 → Int32 → Int32 → Int32 → Int32 → ST → (Int32 × ST)) (l1 : Int32) (l2 : Int32) (l3 : Int32) (l5 : Int32) (l6 : Int32) (l7 : Int32) (t0 : Int32) (σ : ST) : (Int32 × ST) :=
  if l7 ≤ 0 then
    fX12_hung_0b159 K41 l1 l2 l3 t0 l6 l5 σ
  else
    fX12_hung_0b155 K41 l1 l2 l3 t0 l6 l5 σ
noncomputable def fX12_hung_0b144 (K41 : Int32 → Int32 → Int32 → Int32 → Int32 → Int32 → ST → (Int32 × ST)) (l1 : Int32) (l2 : Int32) (l3 : Int32) (l4 : Int32) (l5 : Int32) (l6 : Int32) (l7 : Int32) (σ : ST) : (Int32 × ST) :=
  fX12_hung_0b146 K41 l1 l2 l3 l5 l6 l7 l4 σ
noncomputable def fX12_hung_0b139 (K41 : Int32 → Int32 → Int32 → Int32 → Int32 → Int32 → ST → (Int32 × ST)) (l1 : Int32) (l2 : Int32) (l3 : Int32) (l5 : Int32) (l6 : Int32) (l7 : Int32) (σ : ST) : (Int32 × ST) :=
  fX12_hung_0b146 K41 l1 l2 l3 l5 l6 l7 l7 σ
noncomputable def fX12_hung_0b131 (K41 : Int32 → Int32 → Int32 → Int32 → Int32 → Int32 → ST → (Int32 × ST)) (l1 : Int32) (l2 : Int32) (l4 : Int32) (l5 : Int32) (l6 : Int32) (l7 : Int32) (t0 : Int32) (σ : ST) : (Int32 × ST) :=
  if l7 ≤ l4 then
    fX12_hung_0b144 K41 l1 l2 t0 l4 l5 l6 l7 σ
  else
    fX12_hung_0b139 K41 l1 l2 t0 l5 l6 l7 σ
noncomputable def fX12_hung_0b130 (K41 : Int32 → Int32 → Int32 → Int32 → Int32 → Int32 → ST → (Int32 × ST)) (l1 : Int32) (l2 : Int32) (l3 : Int32) (l4 : Int32) (l5 : Int32) (l6 : Int32) (l7 : Int32) (σ : ST) : (Int32 × ST) :=
  fX12_hung_0b131 K41 l1 l2 l4 l5 l6 l7 l3 σ
noncomputable def fX12_hung_0b125 (K41 : Int32 → Int32 → Int32 → Int32 → Int32 → Int32 → ST → (Int32 × ST)) (l1 : Int32) (l2 : Int32) (l4 : Int32) (l5 : Int32) (l6 : Int32) (l7 : Int32) (σ : ST) : (Int32 × ST) :=
  fX12_hung_0b131 K41 l1 l2 l4 l5 l6 l7 l6 σ
noncomputable def fX12_hung_0b118 (K41 : Int32 → Int32 → Int32 → Int32 → Int32 → Int32 → ST → (Int32 × ST)) (l1 : Int32) (l2 : Int32) (l3 : Int32) (l4 : Int32) (l5 : Int32) (l6 : Int32) (l7 : Int32) (σ : ST) : (Int32 × ST) :=
  if l7 ≤ l4 then
    fX12_hung_0b130 K41 l1 l2 l3 l4 l5 l6 l7 σ
  else
    fX12_hung_0b125 K41 l1 l2 l4 l5 l6 l7 σ
noncomputable def fX12_hung_0b109 (K41 : Int32 → Int32 → Int32 → Int32 → Int32 → Int32 → ST → (Int32 × ST)) (K62 : Int32 → Int32 → Int32 → Int32 → Int32 → Int32 → Int32 → Int32 → ST → (Int32 × ST)) (l1 : Int32) (l2 : Int32) (l3 : Int32) (l4 : Int32) (l5 : Int32) (l6 : Int32) (l8 : Int32) (t0 : Int32) (t1 : Int32) (σ : ST) : (Int32 × ST) :=
  bd (t1 + t0) fun v109 =>
  bd (l8 + 1) fun v112 =>
  K62 l1 l2 l3 l4 l5 l6 v109 v112 σ
noncomputable def fX12_hung_0b108 (K41 : Int32 → Int32 → Int32 → Int32 → Int32 → Int32 → ST → (Int32 × ST)) (K62 : Int32 → Int32 → Int32 → Int32 → Int32 → Int32 → Int32 → Int32 → ST → (Int32 × ST)) (l1 : Int32) (l2 : Int32) (l3 : Int32) (l4 : Int32) (l5 : Int32) (l6 : Int32) (l8 : Int32) (t0 : Int32) (σ : ST) : (Int32 × ST) :=
  fX12_hung_0b109 K41 K62 l1 l2 l3 l4 l5 l6 l8 0 t0 σ
noncomputable def fX12_hung_0b104 (K41 : Int32 → Int32 → Int32 → Int32 → Int32 → Int32 → ST → (Int32 × ST)) (K62 : Int32 → Int32 → Int32 → Int32 → Int32 → Int32 → Int32 → Int32 → ST → (Int32 × ST)) (l1 : Int32) (l2 : Int32) (l3 : Int32) (l4 : Int32) (l5 : Int32) (l6 : Int32) (l8 : Int32) (t0 : Int32) (σ : ST) : (Int32 × ST) :=
  fX12_hung_0b109 K41 K62 l1 l2 l3 l4 l5 l6 l8 1 t0 σ
noncomputable def fX12_hung_0b82 (K41 : Int32 → Int32 → Int32 → Int32 → Int32 → Int32 → ST → (Int32 × ST)) (K62 : Int32 → Int32 → Int32 → Int32 → Int32 → Int32 → Int32 → Int32 → ST → (Int32 × ST)) (l1 : Int32) (l2 : Int32) (l3 : Int32) (l4 : Int32) (l5 : Int32) (l6 : Int32) (l7 : Int32) (l8 : Int32) (σ : ST) : (Int32 × ST) :=
  bd (σ.2.2 72 l1.toNatClampNeg) fun v91 =>
  bd (σ.2.2 73 l1.toNatClampNeg) fun v97 =>
  bd (fX12_in_0 l8 v91 v97 σ) fun v98 =>
  if v98 = 0 then
    fX12_hung_0b108 K41 K62 l1 l2 l3 l4 l5 l6 l8 l7 σ
  else
    fX12_hung_0b104 K41 K62 l1 l2 l3 l4 l5 l6 l8 l7 σ
noncomputable def fX12_hung_0b62 (K41 : Int32 → Int32 → Int32 → Int32 → Int32 → Int32 → ST → (Int32 × ST)) (K62 : Int32 → Int32 → Int32 → Int32 → Int32 → Int32 → Int32 → Int32 → ST → (Int32 × ST)) (l1 : Int32) (l2 : Int32) (l3 : Int32) (l4 : Int32) (l5 : Int32) (l6 : Int32) (l7 : Int32) (l8 : Int32) (σ : ST) : (Int32 × ST) :=
  bd (σ.2.2 75 l6.toNatClampNeg) fun v70 =>
  bd (σ.2.2 76 l6.toNatClampNeg) fun v77 =>
  bd (v70 + v77) fun v78 =>
  if v78 ≤ l8 then
    fX12_hung_0b118 K41 l1 l2 l3 l4 l5 l6 l7 σ
  else
    fX12_hung_0b82 K41 K62 l1 l2 l3 l4 l5 l6 l7 l8 σ
noncomputable def fX12_hung_0l62 (K41 : Int32 → Int32 → Int32 → Int32 → Int32 → Int32 → ST → (Int32 × ST)) : Nat → Int32 → Int32 → Int32 → Int32 → Int32 → Int32 → Int32 → Int32 → ST → (Int32 × ST)
  | 0, _, _, _, _, _, _, _, _, σ => (0, σ)
  | fu + 1, l1, l2, l3, l4, l5, l6, l7, l8, σ => fX12_hung_0b62 K41 (fX12_hung_0l62 K41 fu) l1 l2 l3 l4 l5 l6 l7 l8 σ
noncomputable def fX12_hung_0b50 (K41 : Int32 → Int32 → Int32 → Int32 → Int32 → Int32 → ST → (Int32 × ST)) (l1 : Int32) (l2 : Int32) (l3 : Int32) (l4 : Int32) (l5 : Int32) (l6 : Int32) (σ : ST) : (Int32 × ST) :=
  bd (σ.2.2 75 l6.toNatClampNeg) fun v59 =>
  fX12_hung_0l62 K41 8589934592 l1 l2 l3 l4 l5 l6 0 v59 σ
noncomputable def fX12_hung_0b41 (K41 : Int32 → Int32 → Int32 → Int32 → Int32 → Int32 → ST → (Int32 × ST)) (l1 : Int32) (l2 : Int32) (l3 : Int32) (l4 : Int32) (l5 : Int32) (l6 : Int32) (σ : ST) : (Int32 × ST) :=
  bd (σ.1 35) fun v44 =>
  if v44 ≤ l6 then
    fX12_hung_0b169 l2 l3 l5 σ
  else
    fX12_hung_0b50 K41 l1 l2 l3 l4 l5 l6 σ
noncomputable def fX12_hung_0l41 : Nat → Int32 → Int32 → Int32 → Int32 → Int32 → Int32 → ST → (Int32 × ST)
  | 0, _, _, _, _, _, _, σ => (0, σ)
  | fu + 1, l1, l2, l3, l4, l5, l6, σ => fX12_hung_0b41 (fX12_hung_0l41 fu) l1 l2 l3 l4 l5 l6 σ
noncomputable def fX12_hung_0b25 (l1 : Int32) (l2 : Int32) (σ : ST) : (Int32 × ST) :=
  bd (fX12_findPieces_0 σ) fun s26 =>
  fX12_hung_0l41 4096 l1 l2 (-9) 0 0 0 s26
noncomputable def fX12_hung_0b14 (l1 : Int32) (l2 : Int32) (σ : ST) : (Int32 × ST) :=
  bd (fX12_in_0 l2 0 1 σ) fun v17 =>
  if v17 = 0 then
    fX12_hung_0b23 σ
  else
    fX12_hung_0b25 l1 l2 σ
noncomputable def fX12_hung_0b0 (l1 : Int32) (l2 : Int32) (σ : ST) : (Int32 × ST) :=
  bd (σ.1 32) fun v3 =>
  bd (v3 - 1) fun v7 =>
  bd (fX12_in_0 l1 0 v7 σ) fun v8 =>
  if v8 = 0 then
    fX12_hung_0b23 σ
  else
    fX12_hung_0b14 l1 l2 σ
noncomputable def fX12_hung_0 (p1 : Int32) (p2 : Int32) (σ : ST) : (Int32 × ST) := fX12_hung_0b0 p1 p2 σ
noncomputable def fX12_truth_0b18 (σ : ST) : (Int32 × ST) :=
  ((-1), σ)
noncomputable def fX12_truth_0b67 (l4 : Int32) (σ : ST) : (Int32 × ST) :=
  (l4, σ)
noncomputable def fX12_truth_0b50 (K26 : Int32 → Int32 → Int32 → Int32 → ST → (Int32 × ST)) (l2 : Int32) (l3 : Int32) (l5 : Int32) (t0 : Int32) (t1 : Int32) (σ : ST) : (Int32 × ST) :=
  bd (t1 + t0) fun v50 =>
  bd (sA σ 71 (upd (σ.2.2 71) l5.toNatClampNeg l3)) fun s60 =>
  bd (l5 + 1) fun v61 =>
  K26 l2 l3 v50 v61 s60
noncomputable def fX12_truth_0b49 (K26 : Int32 → Int32 → Int32 → Int32 → ST → (Int32 × ST)) (l2 : Int32) (l3 : Int32) (l5 : Int32) (t0 : Int32) (σ : ST) : (Int32 × ST) :=
  fX12_truth_0b50 K26 l2 l3 l5 1 t0 σ
noncomputable def fX12_truth_0b45 (K26 : Int32 → Int32 → Int32 → Int32 → ST → (Int32 × ST)) (l2 : Int32) (l3 : Int32) (l5 : Int32) (t0 : Int32) (σ : ST) : (Int32 × ST) :=
  fX12_truth_0b50 K26 l2 l3 l5 0 t0 σ
noncomputable def fX12_truth_0b32 (K26 : Int32 → Int32 → Int32 → Int32 → ST → (Int32 × ST)) (l2 : Int32) (l3 : Int32) (l4 : Int32) (l5 : Int32) (σ : ST) : (Int32 × ST) :=
  bd (σ.2.2 71 l5.toNatClampNeg) fun v40 =>
  if v40 = l3 then
    fX12_truth_0b45 K26 l2 l3 l5 l4 σ
  else
    fX12_truth_0b49 K26 l2 l3 l5 l4 σ
noncomputable def fX12_truth_0b26 (K26 : Int32 → Int32 → Int32 → Int32 → ST → (Int32 × ST)) (l2 : Int32) (l3 : Int32) (l4 : Int32) (l5 : Int32) (σ : ST) : (Int32 × ST) :=
  if l2 < l5 then
    fX12_truth_0b67 l4 σ
  else
    fX12_truth_0b32 K26 l2 l3 l4 l5 σ
noncomputable def fX12_truth_0l26 : Nat → Int32 → Int32 → Int32 → Int32 → ST → (Int32 × ST)
  | 0, _, _, _, _, σ => (0, σ)
  | fu + 1, l2, l3, l4, l5, σ => fX12_truth_0b26 (fX12_truth_0l26 fu) l2 l3 l4 l5 σ
noncomputable def fX12_truth_0b20 (l1 : Int32) (l2 : Int32) (l3 : Int32) (σ : ST) : (Int32 × ST) :=
  fX12_truth_0l26 4096 l2 l3 0 l1 σ
noncomputable def fX12_truth_0b9 (l1 : Int32) (l2 : Int32) (l3 : Int32) (σ : ST) : (Int32 × ST) :=
  bd (fX12_in_0 l3 0 5 σ) fun v12 =>
  if v12 = 0 then
    fX12_truth_0b18 σ
  else
    fX12_truth_0b20 l1 l2 l3 σ
noncomputable def fX12_truth_0b0 (l1 : Int32) (l2 : Int32) (l3 : Int32) (σ : ST) : (Int32 × ST) :=
  bd (fX12_areRows_0 l1 l2 σ) fun v3 =>
  if v3 = 0 then
    fX12_truth_0b18 σ
  else
    fX12_truth_0b9 l1 l2 l3 σ
noncomputable def fX12_truth_0 (p1 : Int32) (p2 : Int32) (p3 : Int32) (σ : ST) : (Int32 × ST) := fX12_truth_0b0 p1 p2 p3 σ
noncomputable def fX12_mostRight_0b239 (σ : ST) : (Int32 × ST) :=
  bd (σ.2.2 92 (3071 : Int32).toNatClampNeg) fun v246 =>
  (v246, σ)
noncomputable def fX12_mostRight_0b233 (K105 : Int32 → ST → (Int32 × ST)) (l1 : Int32) (σ : ST) : (Int32 × ST) :=
  bd (l1 + 1) fun v233 =>
  K105 v233 σ
noncomputable def fX12_mostRight_0b214 (K105 : Int32 → ST → (Int32 × ST)) (K113 : Int32 → Int32 → ST → (Int32 × ST)) (l1 : Int32) (l2 : Int32) (l3 : Int32) (σ : ST) : (Int32 × ST) :=
  bd ((512 : Int32) * l1) fun v222 =>
  bd (v222 + l2) fun v224 =>
  bd (sA σ 92 (upd (σ.2.2 92) v224.toNatClampNeg l3)) fun s226 =>
  bd (l2 + 1) fun v227 =>
  K113 l1 v227 s226
noncomputable def fX12_mostRight_0b207 (K105 : Int32 → ST → (Int32 × ST)) (K113 : Int32 → Int32 → ST → (Int32 × ST)) (K138 : Int32 → Int32 → Int32 → Int32 → ST → (Int32 × ST)) (l1 : Int32) (l2 : Int32) (l4 : Int32) (t0 : Int32) (σ : ST) : (Int32 × ST) :=
  bd (l4 + 1) fun v208 =>
  K138 l1 l2 t0 v208 σ
noncomputable def fX12_mostRight_0b206 (K105 : Int32 → ST → (Int32 × ST)) (K113 : Int32 → Int32 → ST → (Int32 × ST)) (K138 : Int32 → Int32 → Int32 → Int32 → ST → (Int32 × ST)) (l1 : Int32) (l2 : Int32) (l3 : Int32) (l4 : Int32) (σ : ST) : (Int32 × ST) :=
  fX12_mostRight_0b207 K105 K113 K138 l1 l2 l4 l3 σ
noncomputable def fX12_mostRight_0b201 (K105 : Int32 → ST → (Int32 × ST)) (K113 : Int32 → Int32 → ST → (Int32 × ST)) (K138 : Int32 → Int32 → Int32 → Int32 → ST → (Int32 × ST)) (l1 : Int32) (l2 : Int32) (l4 : Int32) (l5 : Int32) (σ : ST) : (Int32 × ST) :=
  fX12_mostRight_0b207 K105 K113 K138 l1 l2 l4 l5 σ
noncomputable def fX12_mostRight_0b193 (K105 : Int32 → ST → (Int32 × ST)) (K113 : Int32 → Int32 → ST → (Int32 × ST)) (K138 : Int32 → Int32 → Int32 → Int32 → ST → (Int32 × ST)) (l1 : Int32) (l2 : Int32) (l3 : Int32) (l4 : Int32) (t0 : Int32) (σ : ST) : (Int32 × ST) :=
  if t0 ≤ l3 then
    fX12_mostRight_0b206 K105 K113 K138 l1 l2 l3 l4 σ
  else
    fX12_mostRight_0b201 K105 K113 K138 l1 l2 l4 t0 σ
noncomputable def fX12_mostRight_0b192 (K105 : Int32 → ST → (Int32 × ST)) (K113 : Int32 → Int32 → ST → (Int32 × ST)) (K138 : Int32 → Int32 → Int32 → Int32 → ST → (Int32 × ST)) (l1 : Int32) (l2 : Int32) (l3 : Int32) (l4 : Int32) (σ : ST) : (Int32 × ST) :=
  fX12_mostRight_0b193 K105 K113 K138 l1 l2 l3 l4 0 σ
noncomputable def fX12_mostRight_0b155 (K105 : Int32 → ST → (Int32 × ST)) (K113 : Int32 → Int32 → ST → (Int32 × ST)) (K138 : Int32 → Int32 → Int32 → Int32 → ST → (Int32 × ST)) (l1 : Int32) (l2 : Int32) (l3 : Int32) (l4 : Int32) (σ : ST) : (Int32 × ST) :=
  bd (l1 - 1) fun v164 =>
  bd ((512 : Int32) * v164) fun v165 =>
  bd ((1 : Int32) <<< (l4 &&& 31)) fun v170 =>
  bd (v170 ^^^ (-1)) fun v172 =>
  bd (l2 &&& v172) fun v173 =>
  bd (v165 + v173) fun v174 =>
  bd (σ.2.2 92 v174.toNatClampNeg) fun v175 =>
  bd ((9 : Int32) * l1) fun v183 =>
  bd (v183 + l4) fun v186 =>
  bd (σ.2.2 93 v186.toNatClampNeg) fun v187 =>
  bd (v175 + v187) fun v188 =>
  fX12_mostRight_0b193 K105 K113 K138 l1 l2 l3 l4 v188 σ
noncomputable def fX12_mostRight_0b145 (K105 : Int32 → ST → (Int32 × ST)) (K113 : Int32 → Int32 → ST → (Int32 × ST)) (K138 : Int32 → Int32 → Int32 → Int32 → ST → (Int32 × ST)) (l1 : Int32) (l2 : Int32) (l3 : Int32) (l4 : Int32) (σ : ST) : (Int32 × ST) :=
  bd (l2 >>> (l4 &&& 31)) fun v148 =>
  bd (v148 &&& 1) fun v150 =>
  if v150 = 1 then
    fX12_mostRight_0b155 K105 K113 K138 l1 l2 l3 l4 σ
  else
    fX12_mostRight_0b192 K105 K113 K138 l1 l2 l3 l4 σ
noncomputable def fX12_mostRight_0b138 (K105 : Int32 → ST → (Int32 × ST)) (K113 : Int32 → Int32 → ST → (Int32 × ST)) (K138 : Int32 → Int32 → Int32 → Int32 → ST → (Int32 × ST)) (l1 : Int32) (l2 : Int32) (l3 : Int32) (l4 : Int32) (σ : ST) : (Int32 × ST) :=
  if 9 ≤ l4 then
    fX12_mostRight_0b214 K105 K113 l1 l2 l3 σ
  else
    fX12_mostRight_0b145 K105 K113 K138 l1 l2 l3 l4 σ
noncomputable def fX12_mostRight_0l138 (K105 : Int32 → ST → (Int32 × ST)) (K113 : Int32 → Int32 → ST → (Int32 × ST)) : Nat → Int32 → Int32 → Int32 → Int32 → ST → (Int32 × ST)
  | 0, _, _, _, _, σ => (0, σ)
  | fu + 1, l1, l2, l3, l4, σ => fX12_mostRight_0b138 K105 K113 (fX12_mostRight_0l138 K105 K113 fu) l1 l2 l3 l4 σ
noncomputable def fX12_mostRight_0b120 (K105 : Int32 → ST → (Int32 × ST)) (K113 : Int32 → Int32 → ST → (Int32 × ST)) (l1 : Int32) (l2 : Int32) (σ : ST) : (Int32 × ST) :=
  bd (l1 - 1) fun v129 =>
  bd ((512 : Int32) * v129) fun v130 =>
  bd (v130 + l2) fun v132 =>
  bd (σ.2.2 92 v132.toNatClampNeg) fun v133 =>
  fX12_mostRight_0l138 K105 K113 4096 l1 l2 v133 0 σ
noncomputable def fX12_mostRight_0b113 (K105 : Int32 → ST → (Int32 × ST)) (K113 : Int32 → Int32 → ST → (Int32 × ST)) (l1 : Int32) (l2 : Int32) (σ : ST) : (Int32 × ST) :=
  if 512 ≤ l2 then
    fX12_mostRight_0b233 K105 l1 σ
  else
    fX12_mostRight_0b120 K105 K113 l1 l2 σ
noncomputable def fX12_mostRight_0l113 (K105 : Int32 → ST → (Int32 × ST)) : Nat → Int32 → Int32 → ST → (Int32 × ST)
  | 0, _, _, σ => (0, σ)
  | fu + 1, l1, l2, σ => fX12_mostRight_0b113 K105 (fX12_mostRight_0l113 K105 fu) l1 l2 σ
noncomputable def fX12_mostRight_0b111 (K105 : Int32 → ST → (Int32 × ST)) (l1 : Int32) (σ : ST) : (Int32 × ST) :=
  fX12_mostRight_0l113 K105 4096 l1 0 σ
noncomputable def fX12_mostRight_0b105 (K105 : Int32 → ST → (Int32 × ST)) (l1 : Int32) (σ : ST) : (Int32 × ST) :=
  if 6 ≤ l1 then
    fX12_mostRight_0b239 σ
  else
    fX12_mostRight_0b111 K105 l1 σ
noncomputable def fX12_mostRight_0l105 : Nat → Int32 → ST → (Int32 × ST)
  | 0, _, σ => (0, σ)
  | fu + 1, l1, σ => fX12_mostRight_0b105 (fX12_mostRight_0l105 fu) l1 σ
noncomputable def fX12_mostRight_0b103 (σ : ST) : (Int32 × ST) :=
  fX12_mostRight_0l105 4096 1 σ
noncomputable def fX12_mostRight_0b90 (K83 : Int32 → ST → (Int32 × ST)) (l1 : Int32) (σ : ST) : (Int32 × ST) :=
  bd (sA σ 92 (upd (σ.2.2 92) l1.toNatClampNeg 0)) fun s96 =>
  bd (l1 + 1) fun v97 =>
  K83 v97 s96
noncomputable def fX12_mostRight_0b83 (K83 : Int32 → ST → (Int32 × ST)) (l1 : Int32) (σ : ST) : (Int32 × ST) :=
  if 512 ≤ l1 then
    fX12_mostRight_0b103 σ
  else
    fX12_mostRight_0b90 K83 l1 σ
noncomputable def fX12_mostRight_0l83 : Nat → Int32 → ST → (Int32 × ST)
  | 0, _, σ => (0, σ)
  | fu + 1, l1, σ => fX12_mostRight_0b83 (fX12_mostRight_0l83 fu) l1 σ
noncomputable def fX12_mostRight_0b81 (σ : ST) : (Int32 × ST) :=
  fX12_mostRight_0l83 4096 0 σ
noncomputable def fX12_mostRight_0b75 (K23 : Int32 → ST → (Int32 × ST)) (l1 : Int32) (σ : ST) : (Int32 × ST) :=
  bd (l1 + 1) fun v75 =>
  K23 v75 σ
noncomputable def fX12_mostRight_0b51 (K23 : Int32 → ST → (Int32 × ST)) (l1 : Int32) (σ : ST) : (Int32 × ST) :=
  bd (σ.2.2 71 l1.toNatClampNeg) fun v62 =>
  bd ((9 : Int32) * v62) fun v63 =>
  bd (fX12_heapOfRow_0 l1 σ) fun v66 =>
  bd (v63 + v66) fun v69 =>
  bd (σ.2.2 93 v69.toNatClampNeg) fun v71 =>
  bd (v71 + 1) fun v73 =>
  bd (sA σ 93 (upd (σ.2.2 93) v69.toNatClampNeg v73)) fun s74 =>
  fX12_mostRight_0b75 K23 l1 s74
noncomputable def fX12_mostRight_0b42 (K23 : Int32 → ST → (Int32 × ST)) (l1 : Int32) (σ : ST) : (Int32 × ST) :=
  bd (σ.2.2 71 l1.toNatClampNeg) fun v47 =>
  if v47 ≤ 0 then
    fX12_mostRight_0b75 K23 l1 σ
  else
    fX12_mostRight_0b51 K23 l1 σ
noncomputable def fX12_mostRight_0b31 (K23 : Int32 → ST → (Int32 × ST)) (l1 : Int32) (σ : ST) : (Int32 × ST) :=
  bd (σ.2.2 77 l1.toNatClampNeg) fun v36 =>
  if v36 = (-9) then
    fX12_mostRight_0b75 K23 l1 σ
  else
    fX12_mostRight_0b42 K23 l1 σ
noncomputable def fX12_mostRight_0b23 (K23 : Int32 → ST → (Int32 × ST)) (l1 : Int32) (σ : ST) : (Int32 × ST) :=
  bd (σ.1 31) fun v25 =>
  if v25 ≤ l1 then
    fX12_mostRight_0b81 σ
  else
    fX12_mostRight_0b31 K23 l1 σ
noncomputable def fX12_mostRight_0l23 : Nat → Int32 → ST → (Int32 × ST)
  | 0, _, σ => (0, σ)
  | fu + 1, l1, σ => fX12_mostRight_0b23 (fX12_mostRight_0l23 fu) l1 σ
noncomputable def fX12_mostRight_0b21 (σ : ST) : (Int32 × ST) :=
  fX12_mostRight_0l23 4096 0 σ
noncomputable def fX12_mostRight_0b8 (K2 : Int32 → ST → (Int32 × ST)) (l1 : Int32) (σ : ST) : (Int32 × ST) :=
  bd (sA σ 93 (upd (σ.2.2 93) l1.toNatClampNeg 0)) fun s14 =>
  bd (l1 + 1) fun v15 =>
  K2 v15 s14
noncomputable def fX12_mostRight_0b2 (K2 : Int32 → ST → (Int32 × ST)) (l1 : Int32) (σ : ST) : (Int32 × ST) :=
  if 54 ≤ l1 then
    fX12_mostRight_0b21 σ
  else
    fX12_mostRight_0b8 K2 l1 σ
noncomputable def fX12_mostRight_0l2 : Nat → Int32 → ST → (Int32 × ST)
  | 0, _, σ => (0, σ)
  | fu + 1, l1, σ => fX12_mostRight_0b2 (fX12_mostRight_0l2 fu) l1 σ
noncomputable def fX12_mostRight_0b0 (σ : ST) : (Int32 × ST) :=
  fX12_mostRight_0l2 4096 0 σ
noncomputable def fX12_mostRight_0  (σ : ST) : (Int32 × ST) := fX12_mostRight_0b0  σ
noncomputable def fX12_errors_0b164 (t0 : Int32) (σ : ST) : (Int32 × ST) :=
  (t0, σ)
noncomputable def fX12_errors_0b162 (σ : ST) : (Int32 × ST) :=
  fX12_errors_0b164 (-2) σ
noncomputable def fX12_errors_0b152 (l4 : Int32) (σ : ST) : (Int32 × ST) :=
  bp (fX12_mostRight_0 σ) fun v155 s155 =>
  bd (l4 - v155) fun v158 =>
  fX12_errors_0b164 v158 s155
noncomputable def fX12_errors_0b145 (l4 : Int32) (σ : ST) : (Int32 × ST) :=
  bp (fX12_findBest_0 σ) fun v146 s146 =>
  if v146 = 0 then
    fX12_errors_0b162 s146
  else
    fX12_errors_0b152 l4 s146
noncomputable def fX12_errors_0b144 (t0 : Int32) (σ : ST) : (Int32 × ST) :=
  (t0, σ)
noncomputable def fX12_errors_0b143 (l3 : Int32) (σ : ST) : (Int32 × ST) :=
  fX12_errors_0b144 l3 σ
noncomputable def fX12_errors_0b139 (l2 : Int32) (σ : ST) : (Int32 × ST) :=
  fX12_errors_0b144 l2 σ
noncomputable def fX12_errors_0b135 (l1 : Int32) (l2 : Int32) (l3 : Int32) (σ : ST) : (Int32 × ST) :=
  if l1 = 0 then
    fX12_errors_0b139 l2 σ
  else
    fX12_errors_0b143 l3 σ
noncomputable def fX12_errors_0b130 (l1 : Int32) (l2 : Int32) (l3 : Int32) (l4 : Int32) (σ : ST) : (Int32 × ST) :=
  if 2 ≤ l1 then
    fX12_errors_0b145 l4 σ
  else
    fX12_errors_0b135 l1 l2 l3 σ
noncomputable def fX12_errors_0b121 (K25 : Int32 → Int32 → Int32 → Int32 → Int32 → ST → (Int32 × ST)) (l1 : Int32) (l2 : Int32) (l3 : Int32) (l5 : Int32) (t0 : Int32) (t1 : Int32) (σ : ST) : (Int32 × ST) :=
  bd (t1 + t0) fun v121 =>
  bd (l5 + 1) fun v124 =>
  K25 l1 l2 l3 v121 v124 σ
noncomputable def fX12_errors_0b120 (K25 : Int32 → Int32 → Int32 → Int32 → Int32 → ST → (Int32 × ST)) (l1 : Int32) (l2 : Int32) (l3 : Int32) (l5 : Int32) (t0 : Int32) (σ : ST) : (Int32 × ST) :=
  fX12_errors_0b121 K25 l1 l2 l3 l5 0 t0 σ
noncomputable def fX12_errors_0b116 (K25 : Int32 → Int32 → Int32 → Int32 → Int32 → ST → (Int32 × ST)) (l1 : Int32) (l2 : Int32) (l3 : Int32) (l5 : Int32) (t0 : Int32) (σ : ST) : (Int32 × ST) :=
  fX12_errors_0b121 K25 l1 l2 l3 l5 1 t0 σ
noncomputable def fX12_errors_0b106 (K25 : Int32 → Int32 → Int32 → Int32 → Int32 → ST → (Int32 × ST)) (l1 : Int32) (l2 : Int32) (l3 : Int32) (l5 : Int32) (t0 : Int32) (σ : ST) : (Int32 × ST) :=
  bd (σ.2.2 71 l5.toNatClampNeg) fun v112 =>
  if v112 ≤ 0 then
    fX12_errors_0b120 K25 l1 l2 l3 l5 t0 σ
  else
    fX12_errors_0b116 K25 l1 l2 l3 l5 t0 σ
noncomputable def fX12_errors_0b97 (K25 : Int32 → Int32 → Int32 → Int32 → Int32 → ST → (Int32 × ST)) (l1 : Int32) (l2 : Int32) (l4 : Int32) (l5 : Int32) (l6 : Int32) (t0 : Int32) (t1 : Int32) (σ : ST) : (Int32 × ST) :=
  bd (t1 + t0) fun v97 =>
  if l6 = 0 then
    fX12_errors_0b120 K25 l1 l2 v97 l5 l4 σ
  else
    fX12_errors_0b106 K25 l1 l2 v97 l5 l4 σ
noncomputable def fX12_errors_0b96 (K25 : Int32 → Int32 → Int32 → Int32 → Int32 → ST → (Int32 × ST)) (l1 : Int32) (l2 : Int32) (l4 : Int32) (l5 : Int32) (l6 : Int32) (t0 : Int32) (σ : ST) : (Int32 × ST) :=
  fX12_errors_0b97 K25 l1 l2 l4 l5 l6 0 t0 σ
noncomputable def fX12_errors_0b92 (K25 : Int32 → Int32 → Int32 → Int32 → Int32 → ST → (Int32 × ST)) (l1 : Int32) (l2 : Int32) (l4 : Int32) (l5 : Int32) (l6 : Int32) (t0 : Int32) (σ : ST) : (Int32 × ST) :=
  fX12_errors_0b97 K25 l1 l2 l4 l5 l6 1 t0 σ
noncomputable def fX12_errors_0b82 (K25 : Int32 → Int32 → Int32 → Int32 → Int32 → ST → (Int32 × ST)) (l1 : Int32) (l2 : Int32) (l4 : Int32) (l5 : Int32) (l6 : Int32) (t0 : Int32) (σ : ST) : (Int32 × ST) :=
  bd (σ.2.2 71 l5.toNatClampNeg) fun v88 =>
  if v88 = 0 then
    fX12_errors_0b92 K25 l1 l2 l4 l5 l6 t0 σ
  else
    fX12_errors_0b96 K25 l1 l2 l4 l5 l6 t0 σ
noncomputable def fX12_errors_0b74 (K25 : Int32 → Int32 → Int32 → Int32 → Int32 → ST → (Int32 × ST)) (l1 : Int32) (l3 : Int32) (l4 : Int32) (l5 : Int32) (l6 : Int32) (t0 : Int32) (t1 : Int32) (σ : ST) : (Int32 × ST) :=
  bd (t1 + t0) fun v74 =>
  if l6 = 0 then
    fX12_errors_0b96 K25 l1 v74 l4 l5 l6 l3 σ
  else
    fX12_errors_0b82 K25 l1 v74 l4 l5 l6 l3 σ
noncomputable def fX12_errors_0b73 (K25 : Int32 → Int32 → Int32 → Int32 → Int32 → ST → (Int32 × ST)) (l1 : Int32) (l3 : Int32) (l4 : Int32) (l5 : Int32) (l6 : Int32) (t0 : Int32) (σ : ST) : (Int32 × ST) :=
  fX12_errors_0b74 K25 l1 l3 l4 l5 l6 0 t0 σ
noncomputable def fX12_errors_0b69 (K25 : Int32 → Int32 → Int32 → Int32 → Int32 → ST → (Int32 × ST)) (l1 : Int32) (l3 : Int32) (l4 : Int32) (l5 : Int32) (l6 : Int32) (t0 : Int32) (σ : ST) : (Int32 × ST) :=
  fX12_errors_0b74 K25 l1 l3 l4 l5 l6 1 t0 σ
noncomputable def fX12_errors_0b59 (K25 : Int32 → Int32 → Int32 → Int32 → Int32 → ST → (Int32 × ST)) (l1 : Int32) (l3 : Int32) (l4 : Int32) (l5 : Int32) (l6 : Int32) (t0 : Int32) (σ : ST) : (Int32 × ST) :=
  bd (σ.2.2 71 l5.toNatClampNeg) fun v65 =>
  if v65 ≤ 0 then
    fX12_errors_0b73 K25 l1 l3 l4 l5 l6 t0 σ
  else
    fX12_errors_0b69 K25 l1 l3 l4 l5 l6 t0 σ
noncomputable def fX12_errors_0b51 (K25 : Int32 → Int32 → Int32 → Int32 → Int32 → ST → (Int32 × ST)) (l1 : Int32) (l2 : Int32) (l3 : Int32) (l4 : Int32) (l5 : Int32) (t0 : Int32) (σ : ST) : (Int32 × ST) :=
  if t0 = 0 then
    fX12_errors_0b59 K25 l1 l3 l4 l5 t0 l2 σ
  else
    fX12_errors_0b73 K25 l1 l3 l4 l5 t0 l2 σ
noncomputable def fX12_errors_0b50 (K25 : Int32 → Int32 → Int32 → Int32 → Int32 → ST → (Int32 × ST)) (l1 : Int32) (l2 : Int32) (l3 : Int32) (l4 : Int32) (l5 : Int32) (σ : ST) : (Int32 × ST) :=
  fX12_errors_0b51 K25 l1 l2 l3 l4 l5 0 σ
noncomputable def fX12_errors_0b46 (K25 : Int32 → Int32 → Int32 → Int32 → Int32 → ST → (Int32 × ST)) (l1 : Int32) (l2 : Int32) (l3 : Int32) (l4 : Int32) (l5 : Int32) (σ : ST) : (Int32 × ST) :=
  fX12_errors_0b51 K25 l1 l2 l3 l4 l5 1 σ
noncomputable def fX12_errors_0b34 (K25 : Int32 → Int32 → Int32 → Int32 → Int32 → ST → (Int32 × ST)) (l1 : Int32) (l2 : Int32) (l3 : Int32) (l4 : Int32) (l5 : Int32) (σ : ST) : (Int32 × ST) :=
  bd (σ.2.2 77 l5.toNatClampNeg) fun v40 =>
  if v40 = (-9) then
    fX12_errors_0b50 K25 l1 l2 l3 l4 l5 σ
  else
    fX12_errors_0b46 K25 l1 l2 l3 l4 l5 σ
noncomputable def fX12_errors_0b25 (K25 : Int32 → Int32 → Int32 → Int32 → Int32 → ST → (Int32 × ST)) (l1 : Int32) (l2 : Int32) (l3 : Int32) (l4 : Int32) (l5 : Int32) (σ : ST) : (Int32 × ST) :=
  bd (σ.1 31) fun v28 =>
  if v28 ≤ l5 then
    fX12_errors_0b130 l1 l2 l3 l4 σ
  else
    fX12_errors_0b34 K25 l1 l2 l3 l4 l5 σ
noncomputable def fX12_errors_0l25 : Nat → Int32 → Int32 → Int32 → Int32 → Int32 → ST → (Int32 × ST)
  | 0, _, _, _, _, _, σ => (0, σ)
  | fu + 1, l1, l2, l3, l4, l5, σ => fX12_errors_0b25 (fX12_errors_0l25 fu) l1 l2 l3 l4 l5 σ
noncomputable def fX12_errors_0b11 (l1 : Int32) (σ : ST) : (Int32 × ST) :=
  bd (fX12_findPieces_0 σ) fun s12 =>
  fX12_errors_0l25 4096 l1 0 0 0 0 s12
noncomputable def fX12_errors_0b9 (σ : ST) : (Int32 × ST) :=
  ((-1), σ)
noncomputable def fX12_errors_0b0 (l1 : Int32) (σ : ST) : (Int32 × ST) :=
  bd (fX12_in_0 l1 0 2 σ) fun v3 =>
  if v3 = 0 then
    fX12_errors_0b9 σ
  else
    fX12_errors_0b11 l1 σ
noncomputable def fX12_errors_0 (p1 : Int32) (σ : ST) : (Int32 × ST) := fX12_errors_0b0 p1 σ
noncomputable def fX12_weight_0b22 (σ : ST) : (Int32 × ST) :=
  ((-1), σ)
noncomputable def fX12_weight_0b96 (l3 : Int32) (σ : ST) : (Int32 × ST) :=
  bd (σ.2.1 3) fun v98 =>
  bd (v98 + (1 : Int64)) fun v102 =>
  bd (sL σ 3 v102) fun s103 =>
  (l3, s103)
noncomputable def fX12_weight_0b108 (l4 : Int32) (σ : ST) : (Int32 × ST) :=
  bd (σ.2.1 3) fun v110 =>
  bd (v110 + (11 : Int64)) fun v116 =>
  bd (sL σ 3 v116) fun s117 =>
  (l4, s117)
noncomputable def fX12_weight_0b123 (l5 : Int32) (σ : ST) : (Int32 × ST) :=
  bd (σ.2.1 3) fun v125 =>
  bd (v125 + (111 : Int64)) fun v131 =>
  bd (sL σ 3 v131) fun s132 =>
  (l5, s132)
noncomputable def fX12_weight_0b138 (l5 : Int32) (σ : ST) : (Int32 × ST) :=
  bd (σ.2.1 3) fun v140 =>
  bd (v140 + (1111 : Int64)) fun v146 =>
  bd (sL σ 3 v146) fun s147 =>
  bd (l5 + 1) fun v153 =>
  bd (v153 / 2) fun v155 =>
  (v155, s147)
noncomputable def fX12_weight_0b183 (t0 : Int32) (σ : ST) : (Int32 × ST) :=
  (t0, σ)
noncomputable def fX12_weight_0b179 (l5 : Int32) (σ : ST) : (Int32 × ST) :=
  bd (l5 - 3) fun v182 =>
  fX12_weight_0b183 v182 σ
noncomputable def fX12_weight_0b175 (σ : ST) : (Int32 × ST) :=
  fX12_weight_0b183 0 σ
noncomputable def fX12_weight_0b157 (l5 : Int32) (σ : ST) : (Int32 × ST) :=
  bd (σ.2.1 3) fun v159 =>
  bd (v159 + (10111 : Int64)) fun v165 =>
  bd (sL σ 3 v165) fun s166 =>
  if 3 ≤ l5 then
    fX12_weight_0b179 l5 s166
  else
    fX12_weight_0b175 s166
noncomputable def fX12_weight_0b184 (l4 : Int32) (σ : ST) : (Int32 × ST) :=
  bd (σ.2.1 3) fun v186 =>
  bd (v186 + (100011 : Int64)) fun v192 =>
  bd (sL σ 3 v192) fun s193 =>
  bd (l4 / 3) fun v199 =>
  (v199, s193)
noncomputable def fX12_weight_0b201 (l4 : Int32) (σ : ST) : (Int32 × ST) :=
  bd (σ.2.1 3) fun v203 =>
  bd (v203 + (1000011 : Int64)) fun v209 =>
  bd (sL σ 3 v209) fun s210 =>
  bd (s210.1 40) fun v218 =>
  bd ((7 : Int32) * v218) fun v221 =>
  bd (l4 + v221) fun v222 =>
  (v222, s210)
noncomputable def fX12_weight_0b224 (l3 : Int32) (σ : ST) : (Int32 × ST) :=
  bd (σ.2.1 3) fun v226 =>
  bd (v226 + (10000001 : Int64)) fun v232 =>
  bd (sL σ 3 v232) fun s233 =>
  bd (l3 * l3) fun v238 =>
  bd (v238 - v238 / 89 * 89) fun v241 =>
  (v241, s233)
noncomputable def fX12_weight_0b24 (l1 : Int32) (l2 : Int32) (σ : ST) : (Int32 × ST) :=
  bd (σ.2.2 76 l2.toNatClampNeg) fun v29 =>
  bd ((4 : Int32) * l2) fun v38 =>
  bd (σ.2.2 78 v38.toNatClampNeg) fun v39 =>
  bd (v29 + v39) fun v40 =>
  bd (σ.2.2 79 l2.toNatClampNeg) fun v50 =>
  bd (v40 + v50) fun v51 =>
  if l1 = 0 then fX12_weight_0b96 v29 σ else
  if l1 = 1 then fX12_weight_0b108 v40 σ else
  if l1 = 2 then fX12_weight_0b123 v51 σ else
  if l1 = 3 then fX12_weight_0b138 v51 σ else
  if l1 = 4 then fX12_weight_0b157 v51 σ else
  if l1 = 5 then fX12_weight_0b184 v40 σ else
  if l1 = 6 then fX12_weight_0b201 v40 σ else
  fX12_weight_0b224 v29 σ
noncomputable def fX12_weight_0b14 (l1 : Int32) (l2 : Int32) (σ : ST) : (Int32 × ST) :=
  bd (fX12_isPiece_0 l2 σ) fun v16 =>
  if v16 = 0 then
    fX12_weight_0b22 σ
  else
    fX12_weight_0b24 l1 l2 σ
noncomputable def fX12_weight_0b0 (l1 : Int32) (l2 : Int32) (σ : ST) : (Int32 × ST) :=
  bd (fX12_findPieces_0 σ) fun s1 =>
  bd (fX12_in_0 l1 0 7 s1) fun v8 =>
  if v8 = 0 then
    fX12_weight_0b22 s1
  else
    fX12_weight_0b14 l1 l2 s1
noncomputable def fX12_weight_0 (p1 : Int32) (p2 : Int32) (σ : ST) : (Int32 × ST) := fX12_weight_0b0 p1 p2 σ
noncomputable def fX12_count_0b40 (σ : ST) : Int32 :=
  bd (σ.1 31) fun v41 =>
  v41
noncomputable def fX12_count_0b78 (l2 : Int32) (σ : ST) : Int32 :=
  l2
noncomputable def fX12_count_0b70 (K47 : Int32 → Int32 → ST → Int32) (l3 : Int32) (t0 : Int32) (t1 : Int32) (σ : ST) : Int32 :=
  bd (t1 + t0) fun v70 =>
  bd (l3 + 1) fun v72 =>
  K47 v70 v72 σ
noncomputable def fX12_count_0b69 (K47 : Int32 → Int32 → ST → Int32) (l3 : Int32) (t0 : Int32) (σ : ST) : Int32 :=
  fX12_count_0b70 K47 l3 0 t0 σ
noncomputable def fX12_count_0b65 (K47 : Int32 → Int32 → ST → Int32) (l3 : Int32) (t0 : Int32) (σ : ST) : Int32 :=
  fX12_count_0b70 K47 l3 1 t0 σ
noncomputable def fX12_count_0b55 (K47 : Int32 → Int32 → ST → Int32) (l2 : Int32) (l3 : Int32) (σ : ST) : Int32 :=
  bd (σ.2.2 69 l3.toNatClampNeg) fun v61 =>
  if v61 = 0 then
    fX12_count_0b69 K47 l3 l2 σ
  else
    fX12_count_0b65 K47 l3 l2 σ
noncomputable def fX12_count_0b47 (K47 : Int32 → Int32 → ST → Int32) (l2 : Int32) (l3 : Int32) (σ : ST) : Int32 :=
  bd (σ.1 31) fun v49 =>
  if v49 ≤ l3 then
    fX12_count_0b78 l2 σ
  else
    fX12_count_0b55 K47 l2 l3 σ
noncomputable def fX12_count_0l47 : Nat → Int32 → Int32 → ST → Int32
  | 0, _, _, σ => 0
  | fu + 1, l2, l3, σ => fX12_count_0b47 (fX12_count_0l47 fu) l2 l3 σ
noncomputable def fX12_count_0b45 (l2 : Int32) (σ : ST) : Int32 :=
  fX12_count_0l47 4096 l2 0 σ
noncomputable def fX12_count_0b113 (l2 : Int32) (σ : ST) : Int32 :=
  l2
noncomputable def fX12_count_0b105 (K82 : Int32 → Int32 → ST → Int32) (l3 : Int32) (t0 : Int32) (t1 : Int32) (σ : ST) : Int32 :=
  bd (t1 + t0) fun v105 =>
  bd (l3 + 1) fun v107 =>
  K82 v105 v107 σ
noncomputable def fX12_count_0b104 (K82 : Int32 → Int32 → ST → Int32) (l3 : Int32) (t0 : Int32) (σ : ST) : Int32 :=
  fX12_count_0b105 K82 l3 0 t0 σ
noncomputable def fX12_count_0b100 (K82 : Int32 → Int32 → ST → Int32) (l3 : Int32) (t0 : Int32) (σ : ST) : Int32 :=
  fX12_count_0b105 K82 l3 1 t0 σ
noncomputable def fX12_count_0b90 (K82 : Int32 → Int32 → ST → Int32) (l2 : Int32) (l3 : Int32) (σ : ST) : Int32 :=
  bd (σ.2.2 70 l3.toNatClampNeg) fun v96 =>
  if v96 = 0 then
    fX12_count_0b104 K82 l3 l2 σ
  else
    fX12_count_0b100 K82 l3 l2 σ
noncomputable def fX12_count_0b82 (K82 : Int32 → Int32 → ST → Int32) (l2 : Int32) (l3 : Int32) (σ : ST) : Int32 :=
  bd (σ.1 31) fun v84 =>
  if v84 ≤ l3 then
    fX12_count_0b113 l2 σ
  else
    fX12_count_0b90 K82 l2 l3 σ
noncomputable def fX12_count_0l82 : Nat → Int32 → Int32 → ST → Int32
  | 0, _, _, σ => 0
  | fu + 1, l2, l3, σ => fX12_count_0b82 (fX12_count_0l82 fu) l2 l3 σ
noncomputable def fX12_count_0b80 (l2 : Int32) (σ : ST) : Int32 :=
  fX12_count_0l82 4096 l2 0 σ
noncomputable def fX12_count_0b115 (σ : ST) : Int32 :=
  bd (σ.1 40) fun v116 =>
  v116
noncomputable def fX12_count_0b120 (σ : ST) : Int32 :=
  bd (σ.1 32) fun v121 =>
  v121
noncomputable def fX12_count_0b125 (σ : ST) : Int32 :=
  bd (σ.1 25) fun v126 =>
  v126
noncomputable def fX12_count_0b130 (σ : ST) : Int32 :=
  (-1)
noncomputable def fX12_count_0b0 (l1 : Int32) (σ : ST) : Int32 :=
  if l1 = 0 then fX12_count_0b40 σ else
  if l1 = 1 then fX12_count_0b45 0 σ else
  if l1 = 2 then fX12_count_0b80 0 σ else
  if l1 = 3 then fX12_count_0b115 σ else
  if l1 = 4 then fX12_count_0b120 σ else
  if l1 = 5 then fX12_count_0b125 σ else
  fX12_count_0b130 σ
noncomputable def fX12_count_0 (p1 : Int32) (σ : ST) : Int32 := fX12_count_0b0 p1 σ
noncomputable def fX12_trace_0b0 (σ : ST) : Int64 :=
  bd (σ.2.1 3) fun v1 =>
  v1
noncomputable def fX12_trace_0  (σ : ST) : Int64 := fX12_trace_0b0  σ
