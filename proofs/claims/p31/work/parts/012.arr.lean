/-! facts of one array's elements; a heaping as a number -/
def AP (f : Nat → Int32) (lo hi : Nat) (Q : Nat → Int32 → Prop) : Prop := ∀ j, lo ≤ j → j < hi → Q j (f j)
theorem AP.eq {f g : Nat → Int32} {lo hi : Nat} {Q : Nat → Int32 → Prop} (h : AP f lo hi Q) (e : g = f) : AP g lo hi Q := by
  subst e
  exact h
theorem AP.sub {f : Nat → Int32} {lo hi hi' : Nat} {Q : Nat → Int32 → Prop} (h : AP f lo hi Q) (hh : hi' ≤ hi) : AP f lo hi' Q := fun j a b => h j a (Nat.lt_of_lt_of_le b hh)
theorem AP.none {f : Nat → Int32} {lo : Nat} {Q : Nat → Int32 → Prop} : AP f lo lo Q := fun j a b => absurd b (Nat.not_lt.mpr a)
theorem AP.push {f g : Nat → Int32} {lo r : Nat} {x : Int32} {Q : Nat → Int32 → Prop} (h : AP f lo r Q) (e : g = upd f r x) (hq : Q r x) : AP g lo (r + 1) Q := by
  subst e
  intro j a b
  unfold upd
  split
  · rename_i c
    rw [c]
    exact hq
  · exact h j a (by omega)
theorem AP.set {f g : Nat → Int32} {lo hi r : Nat} {x : Int32} {Q : Nat → Int32 → Prop} (h : AP f lo hi Q) (e : g = upd f r x) (hq : Q r x) : AP g lo hi Q := by
  subst e
  intro j a b
  unfold upd
  split
  · rename_i c
    rw [c]
    exact hq
  · exact h j a b
def PQ (P : Nat) : Nat → Int32 → Prop := fun _ x => Opt (-9) P x
theorem PQ.ne {P j : Nat} {x : Int32} (h : PQ P j x) (c : ¬ x = -9) : ∃ n, n < P ∧ x = nI n := h.elim (fun q => absurd q c) id
theorem PQ.up {f : Nat → Int32} {lo hi P P' : Nat} (h : AP f lo hi (PQ P)) (hp : P ≤ P') : AP f lo hi (PQ P') := fun j a b => (h j a b).imp id (fun ⟨n, h1, h2⟩ => ⟨n, Nat.lt_of_lt_of_le h1 hp, h2⟩)
theorem PR.eq {Q : Int32 → Prop} {x y : Int32} (h : Q x) (e : y = x) : Q y := by
  subst e
  exact h
theorem AP.keep {f g : Nat → Int32} {lo hi r : Nat} {x : Int32} {Q : Nat → Int32 → Prop} (h : AP f lo hi Q) (e : g = upd f r x) (hr : r < lo ∨ hi ≤ r) : AP g lo hi Q := by
  subst e
  intro j a b
  unfold upd
  rw [if_neg (by omega)]
  exact h j a b
theorem AP.low {f : Nat → Int32} {r hi : Nat} {Q : Nat → Int32 → Prop} (h : AP f (r + 1) hi Q) (hq : Q r (f r)) : AP f r hi Q := by
  intro j a b
  rcases Nat.eq_or_lt_of_le a with c | c
  · subst c
    exact hq
  · exact h j c b
def TQ (t : Nat) : Nat → Int32 → Prop := fun j x => ∃ n, 1 ≤ n ∧ j + n ≤ t + 1 ∧ x = nI n
def TC (t r n : Nat) (x : Int32) : Prop := (n = 1 ∧ x = 0) ∨ ∃ k, 1 ≤ k ∧ r + k ≤ t + 1 ∧ x = nI k
theorem TC.ne {t r n m : Nat} {x : Int32} (h : TC t r n x) (c : ¬ x = 0) : TC t r m x := h.elim (fun q => absurd q.2 c) Or.inr
theorem TC.done {t r n : Nat} {x : Int32} (h : TC t r n x) (c : n ≠ 1) : TQ t r x := h.elim (fun q => absurd q.1 c) id
def HQ : Nat → Int32 → Prop := fun j x => ∃ n, n ≤ j ∧ n ≤ 8 ∧ x = nI n
theorem HQ.mk {j n : Nat} (h1 : n ≤ j) (h2 : n ≤ 8) : HQ j (nI n) := ⟨n, h1, h2, rfl⟩
theorem HQ.le {j n : Nat} {x : Int32} (h : HQ j x) (e : x = nI n) (hn : n < 2 ^ 31) : n ≤ j := by
  obtain ⟨k, h1, h2, h3⟩ := h
  have e2 : k = n := (nI_eq (by omega) hn).mp (h3.symm.trans e)
  omega
def hv (f : Nat → Int32) : Nat → Nat
  | 0 => 0
  | p + 1 => hv f p * 10 + (f p).toNatClampNeg
theorem HQ.cl {j : Nat} {x : Int32} (h : HQ j x) : x.toNatClampNeg ≤ 8 := by
  obtain ⟨k, h1, h2, h3⟩ := h
  rw [h3, nI_clamp (by omega)]
  exact h2
theorem hv_lt {f : Nat → Int32} (h : AP f 0 10 HQ) : ∀ P, P ≤ 10 → hv f P < 10 ^ P
  | 0, _ => by show 0 < 1; omega
  | P + 1, hP => by
    have h1 := hv_lt h P (by omega)
    have h2 := (h P (Nat.zero_le _) (by omega)).cl
    show hv f P * 10 + _ < 10 ^ P * 10
    omega
theorem hv_bd {f : Nat → Int32} (h : AP f 0 10 HQ) {P : Nat} (hP : P ≤ 9) : hv f P < 1000000000 := Nat.lt_of_lt_of_le (hv_lt h P (by omega)) (Nat.pow_le_pow_right (n := 10) (by omega) hP)
theorem hv_same {f g : Nat → Int32} : ∀ P, (∀ j, j < P → g j = f j) → hv g P = hv f P
  | 0, _ => rfl
  | P + 1, h => by
    show hv g P * 10 + _ = hv f P * 10 + _
    rw [hv_same P (fun j hj => h j (by omega)), h P (by omega)]
theorem hv_up {f g : Nat → Int32} (hf : AP f 0 10 HQ) {p : Nat} (e : ∀ j, j < p → g j = f j) (hs : (g p).toNatClampNeg = (f p).toNatClampNeg + 1) : ∀ P, p < P → P ≤ 10 → hv f P < hv g P
  | 0, hp, _ => absurd hp (Nat.not_lt_zero _)
  | P + 1, hp, hP => by
    show hv f P * 10 + _ < hv g P * 10 + _
    rcases Nat.lt_or_ge p P with c | c
    · have h1 := hv_up hf e hs P c (by omega)
      have h2 := (hf P (Nat.zero_le _) (by omega)).cl
      omega
    · have e2 : p = P := by omega
      subst e2
      rw [hv_same p e]
      omega
def JO (x y : Int32) (P : Nat) (f : Nat → Int32) : Prop := x = -9 ∨ ∃ a b, a < b ∧ b < P ∧ x = nI a ∧ y = nI b ∧ f a = nI a ∧ f b = nI b
theorem JO.ne {x y : Int32} {P : Nat} {f : Nat → Int32} (h : JO x y P f) (c : ¬ x = -9) : ∃ a b, a < b ∧ b < P ∧ x = nI a ∧ y = nI b ∧ f a = nI a ∧ f b = nI b := h.elim (fun q => absurd q c) id
def MG (f g : Nat → Int32) (p a b : Nat) : Prop := ∀ j, g j = if j < p ∧ f j = nI b then nI a else f j
theorem MG.zero {f : Nat → Int32} {a b : Nat} : MG f f 0 a b := fun j => (if_neg (fun q => absurd q.1 (Nat.not_lt_zero _))).symm
theorem MG.at {f g : Nat → Int32} {p a b : Nat} (h : MG f g p a b) : g p = f p := (h p).trans (if_neg (fun q => absurd q.1 (Nat.lt_irrefl _)))
theorem MG.s1 {f g g' : Nat → Int32} {p a b n : Nat} (h : MG f g p a b) (e : g' = upd g p (nI a)) (hn : g p = nI n) (hb : n = b) : MG f g' (p + 1) a b := by
  subst e
  subst hb
  intro j
  unfold upd
  by_cases c : j = p
  · subst c
    rw [if_pos rfl, if_pos ⟨Nat.lt_succ_self _, h.at.symm.trans hn⟩]
  · rw [if_neg c, h j]
    by_cases d : j < p ∧ f j = nI n
    · rw [if_pos d, if_pos ⟨Nat.lt_succ_of_lt d.1, d.2⟩]
    · rw [if_neg d, if_neg (fun q => d ⟨by omega, q.2⟩)]
theorem MG.s2 {f g g' : Nat → Int32} {p a b n : Nat} (h : MG f g p a b) (e : g' = upd g p (nI n)) (hn : g p = nI n) (hb : n ≠ b) (h1 : n < 2 ^ 31) (h2 : b < 2 ^ 31) : MG f g' (p + 1) a b := by
  subst e
  intro j
  unfold upd
  by_cases c : j = p
  · subst c
    have e1 : f j = nI n := h.at.symm.trans hn
    rw [if_pos rfl, if_neg (fun q => hb ((nI_eq h1 h2).mp (e1.symm.trans q.2))), e1]
  · rw [if_neg c, h j]
    by_cases d : j < p ∧ f j = nI b
    · rw [if_pos d, if_pos ⟨Nat.lt_succ_of_lt d.1, d.2⟩]
    · rw [if_neg d, if_neg (fun q => d ⟨by omega, q.2⟩)]
def fx (f : Nat → Int32) : Nat → Nat
  | 0 => 0
  | p + 1 => fx f p + (if f p = nI p then 1 else 0)
theorem fx_le {f g : Nat → Int32} : ∀ P, (∀ j, j < P → g j = nI j → f j = nI j) → fx g P ≤ fx f P
  | 0, _ => Nat.le_refl _
  | P + 1, h => by
    have h1 := fx_le P (fun j hj => h j (by omega))
    have h2 := h P (by omega)
    show fx g P + _ ≤ fx f P + _
    by_cases c : g P = nI P
    · rw [if_pos c, if_pos (h2 c)]
      omega
    · rw [if_neg c]
      omega
theorem fx_st {f g : Nat → Int32} {b : Nat} (hf : f b = nI b) (hg : ¬ g b = nI b) : ∀ P, b < P → (∀ j, j < P → g j = nI j → f j = nI j) → fx g P < fx f P
  | 0, hb, _ => absurd hb (Nat.not_lt_zero _)
  | P + 1, hb, h => by
    show fx g P + _ < fx f P + _
    by_cases c : b = P
    · subst c
      have h1 := fx_le (f := f) (g := g) b (fun j hj => h j (by omega))
      rw [if_neg hg, if_pos hf]
      omega
    · have h1 := fx_st hf hg P (by omega) (fun j hj => h j (by omega))
      have h2 := h P (by omega)
      by_cases d : g P = nI P
      · rw [if_pos d, if_pos (h2 d)]
        omega
      · rw [if_neg d]
        omega
theorem fx_lt {f g : Nat → Int32} {p a b : Nat} (h : MG f g p a b) {P : Nat} (hp : P ≤ p) (hab : a < b) (hb : b < P) (hP : P < 2 ^ 31) (fa : f a = nI a) (fb : f b = nI b) : fx g P < fx f P := by
  refine fx_st fb ?_ P hb ?_
  · rw [h b, if_pos ⟨by omega, fb⟩]
    exact fun q => absurd ((nI_eq (by omega) (by omega)).mp q) (by omega)
  · intro j hj q
    rw [h j] at q
    by_cases c : j < p ∧ f j = nI b
    · rw [if_pos c] at q
      have e := (nI_eq (by omega) (by omega)).mp q
      subst e
      have e2 := (nI_eq (by omega) (by omega)).mp (fa.symm.trans c.2)
      omega
    · rw [if_neg c] at q
      exact q
abbrev LD (x : Int32) : Prop := ¬ x < 0 ∧ ¬ 99 < x
theorem LD.nat {n : Nat} (h : n ≤ 99) : LD (nI n) := ⟨nI_pos (by omega), nI_nlt (a := 99) (b := n) h (by omega)⟩
abbrev LD4 (a b c d : Int32) : Prop := LD a ∧ LD b ∧ LD c ∧ LD d
def rowA (a b c d : Int32) (R : Nat) : Int32 := if LD4 a b c d then (if R < 48 then nI R else -3) else -1
def rowN (a b c d : Int32) (R : Nat) : Nat := if LD4 a b c d ∧ R < 48 then R + 1 else R
theorem rowA_no {a b c d : Int32} {R : Nat} (h : ¬ LD4 a b c d) : rowA a b c d R = -1 := if_neg h
theorem rowN_no {a b c d : Int32} {R : Nat} (h : ¬ LD4 a b c d) : rowN a b c d R = R := if_neg (fun q => h q.1)
theorem rowA_full {a b c d : Int32} {R : Nat} (h : LD4 a b c d) (h2 : ¬ R < 48) : rowA a b c d R = -3 := (if_pos h).trans (if_neg h2)
theorem rowN_full {a b c d : Int32} {R : Nat} (h : LD4 a b c d) (h2 : ¬ R < 48) : rowN a b c d R = R := if_neg (fun q => h2 q.2)
theorem rowA_ok {a b c d : Int32} {R : Nat} (h : LD4 a b c d) (h2 : R < 48) : rowA a b c d R = nI R := (if_pos h).trans (if_pos h2)
theorem rowN_ok {a b c d : Int32} {R : Nat} (h : LD4 a b c d) (h2 : R < 48) : rowN a b c d R = R + 1 := if_pos ⟨h, h2⟩
theorem rowN_le {a b c d : Int32} {R : Nat} (h : R ≤ 48) : rowN a b c d R ≤ 48 := by
  unfold rowN
  split
  · rename_i q
    exact q.2
  · exact h
abbrev DF (x : Int32) : Prop := ¬ x < 1 ∧ ¬ 9 < x
theorem DF.nat {n : Nat} (h1 : 1 ≤ n) (h : n ≤ 9) : DF (nI n) := ⟨nI_nlt (a := n) (b := 1) h1 (by omega), nI_nlt (a := 9) (b := n) h (by omega)⟩
def deafA (x : Int32) (R : Nat) : Int32 := if DF x then (if 48 < R + x.toNatClampNeg then -3 else nI (R + x.toNatClampNeg)) else -1
def deafN (x : Int32) (R : Nat) : Nat := if DF x ∧ R + x.toNatClampNeg ≤ 48 then R + x.toNatClampNeg else R
theorem deafA_no {x : Int32} {R : Nat} (h : ¬ DF x) : deafA x R = -1 := if_neg h
theorem deafN_no {x : Int32} {R : Nat} (h : ¬ DF x) : deafN x R = R := if_neg (fun q => h q.1)
theorem deafA_full {n R : Nat} (h1 : 1 ≤ n) (h2 : n ≤ 9) (h3 : 48 < R + n) : deafA (nI n) R = -3 := by
  unfold deafA
  rw [if_pos (DF.nat h1 h2), nI_clamp (by omega), if_pos h3]
theorem deafN_full {n R : Nat} (h1 : 1 ≤ n) (h2 : n ≤ 9) (h3 : 48 < R + n) : deafN (nI n) R = R := by
  unfold deafN
  rw [nI_clamp (by omega)]
  exact if_neg (fun q => by omega)
theorem deafA_ok {n R : Nat} (h1 : 1 ≤ n) (h2 : n ≤ 9) (h3 : R + n ≤ 48) : deafA (nI n) R = nI (R + n) := by
  unfold deafA
  rw [if_pos (DF.nat h1 h2), nI_clamp (by omega), if_neg (by omega)]
theorem deafN_ok {n R : Nat} (h1 : 1 ≤ n) (h2 : n ≤ 9) (h3 : R + n ≤ 48) : deafN (nI n) R = R + n := by
  unfold deafN
  rw [nI_clamp (by omega)]
  exact if_pos ⟨DF.nat h1 h2, h3⟩
theorem deafN_le {a : Int32} {R : Nat} (h : R ≤ 48) : deafN a R ≤ 48 := by
  unfold deafN
  split
  · rename_i q
    exact q.2
  · exact h
def NX (σ : ST) : Prop := σ.1 28 = 1 → ∃ w, w < 6 ∧ σ.1 29 = nI w
theorem NX.eq {σ τ : ST} (h : NX σ) (e1 : τ.1 28 = σ.1 28) (e2 : τ.1 29 = σ.1 29) : NX τ := by
  unfold NX at h ⊢
  rw [e1, e2]
  exact h
def EQf (f : Nat → Int32) : Nat → Int32 → Prop := fun j x => x = f j
def SQ (f : Nat → Int32) : Nat → Int32 → Prop := fun j x => x.toNatClampNeg = (f j).toNatClampNeg + 1
theorem go_lo {f g s : Nat → Int32} {p : Nat} {x : Int32} (he : f = s) (e : g = upd f p x) : AP g 0 p (EQf s) := by
  subst he
  subst e
  intro j _ hj
  exact pk_un (by omega)
theorem go_tp {f g s : Nat → Int32} {p n : Nat} (he : f = s) (e : g = upd f p (nI (n + 1))) (hn : f p = nI n) (hb : n < 2 ^ 30) : AP g p (p + 1) (SQ s) := by
  subst he
  subst e
  intro j h1 h2
  have e2 : j = p := by omega
  subst e2
  show (upd f j (nI (n + 1)) j).toNatClampNeg = (f j).toNatClampNeg + 1
  rw [pk_us, hn, nI_clamp (by omega), nI_clamp (by omega)]
