/-! what the reference's pieces are: a function of the rows and the rules; made by wip/gen/mkfun.py -/
def EqO (n : Nat) (f g : Nat → Int32) : Prop := ∀ j, j < n → f j = g j
def insK (v : Int32) : Nat → (Nat → Int32) → (Nat → Int32)
  | 0, f => upd f 0 v
  | k + 1, f => if f k ≤ v then upd f (k + 1) v else insK v k (upd f (k + 1) (f k))
theorem insK_eq (v : Int32) (n : Nat) : ∀ (k : Nat) (f g : Nat → Int32), k ≤ n → (∀ j, j ≤ n → j ≠ k → f j = g j) → ∀ j, j ≤ n → insK v k f j = insK v k g j
  | 0, f, g, _, h => fun j hj => by
    show upd f 0 v j = upd g 0 v j
    unfold upd
    by_cases c : j = 0
    · rw [if_pos c, if_pos c]
    · rw [if_neg c, if_neg c]
      exact h j hj c
  | k + 1, f, g, hk, h => fun j hj => by
    have e : f k = g k := h k (by omega) (by omega)
    show (if f k ≤ v then upd f (k + 1) v else insK v k (upd f (k + 1) (f k))) j = (if g k ≤ v then upd g (k + 1) v else insK v k (upd g (k + 1) (g k))) j
    rw [e]
    by_cases c : g k ≤ v
    · rw [if_pos c, if_pos c]
      unfold upd
      by_cases d : j = k + 1
      · rw [if_pos d, if_pos d]
      · rw [if_neg d, if_neg d]
        exact h j hj d
    · rw [if_neg c, if_neg c]
      refine insK_eq v n k _ _ (by omega) (fun i hi hik => ?_) j hj
      unfold upd
      by_cases d : i = k + 1
      · rw [if_pos d, if_pos d]
      · rw [if_neg d, if_neg d]
        exact h i hi d
/-- what is left to do of an insertion -/
def TG (v : Int32) (k n : Nat) (f g : Nat → Int32) : Prop := ∀ j, j ≤ n → insK v k f j = insK v n g j
theorem TG.start {v : Int32} {n : Nat} {f g : Nat → Int32} (h : EqO n f g) : TG v n n f g := insK_eq v n n f g (Nat.le_refl _) (fun j hj c => h j (by omega))
theorem TG.eq {v : Int32} {k n : Nat} {f f' g : Nat → Int32} (h : TG v k n f g) (e : f' = f) : TG v k n f' g := by
  subst e
  exact h
theorem TG.step {v : Int32} {k n : Nat} {f f' g : Nat → Int32} (h : TG v k n f g) (hk : 1 ≤ k) (c : ¬ f (k - 1) ≤ v) (e : f' = upd f k (f (k - 1))) : TG v (k - 1) n f' g := by
  obtain ⟨i, rfl⟩ : ∃ i, k = i + 1 := ⟨k - 1, by omega⟩
  subst e
  intro j hj
  have h1 := h j hj
  have h2 : insK v (i + 1) f = insK v i (upd f (i + 1) (f i)) := if_neg c
  rw [h2] at h1
  exact h1
theorem TG.end0 {v : Int32} {k n : Nat} {f f' g : Nat → Int32} (h : TG v k n f g) (hk : k = 0) (e : f' = upd f k v) : EqO (n + 1) f' (insK v n g) := by
  subst hk
  subst e
  intro j hj
  exact h j (by omega)
theorem TG.end1 {v : Int32} {k n : Nat} {f f' g : Nat → Int32} (h : TG v k n f g) (hk : 1 ≤ k) (c : f (k - 1) ≤ v) (e : f' = upd f k v) : EqO (n + 1) f' (insK v n g) := by
  obtain ⟨i, rfl⟩ : ∃ i, k = i + 1 := ⟨k - 1, by omega⟩
  subst e
  intro j hj
  have h1 := h j (by omega)
  have h2 : insK v (i + 1) f = upd f (i + 1) v := if_pos c
  rw [h2] at h1
  exact h1
def lnS (num ask : Nat → Int32) (i : Nat) : Nat → (Nat → Int32) × Nat
  | 0 => (fun _ => 0, 0)
  | r + 1 => if ask r = 0 then lnS num ask i r else (insK (num (4 * r + i)) (lnS num ask i r).2 (lnS num ask i r).1, (lnS num ask i r).2 + 1)
theorem lnS_skip {num ask : Nat → Int32} {i r : Nat} (h : ask r = 0) : lnS num ask i (r + 1) = lnS num ask i r := if_pos h
theorem lnS_take {num ask : Nat → Int32} {i r : Nat} (h : ¬ ask r = 0) : lnS num ask i (r + 1) = (insK (num (4 * r + i)) (lnS num ask i r).2 (lnS num ask i r).1, (lnS num ask i r).2 + 1) := if_neg h
theorem lnS_ask {num a b : Nat → Int32} (i : Nat) : ∀ R, (∀ r, r < R → a r = b r) → lnS num a i R = lnS num b i R
  | 0, _ => rfl
  | R + 1, h => by
    have h1 := lnS_ask (num := num) i R (fun r hr => h r (by omega))
    show (if a R = 0 then _ else _) = (if b R = 0 then _ else _)
    rw [h R (by omega), h1]
def absJ (d : Int32) : Int32 := if d < 0 then -d else d
def apI (L : Nat → Int32) (m a : Int32) : Nat → Int32
  | 0 => a
  | k + 1 => apI L m a k + absJ (L k - m)
def midS (q : (Nat → Int32) × Nat) : Int32 := if q.2 = 0 then 0 else q.1 ((q.2 + 1) / 2 - 1)
def spS (num ask : Nat → Int32) (R : Nat) : Nat → Int32
  | 0 => 0
  | i + 1 => apI (lnS num ask i R).1 (midS (lnS num ask i R)) (spS num ask R i) (lnS num ask i R).2
theorem spS_ask {num a b : Nat → Int32} {R : Nat} (h : ∀ r, r < R → a r = b r) : ∀ i, spS num a R i = spS num b R i
  | 0 => rfl
  | i + 1 => by
    show apI _ _ _ _ = apI _ _ _ _
    rw [lnS_ask i R h, spS_ask h i]
def askS (x y : Int32) : Nat → Int32 := fun r => if ¬ nI r < x ∧ ¬ y < nI r then 1 else 0
/-- the spread of n rows from one on -/
def spA (num : Nat → Int32) (R : Nat) (x n : Int32) : Int32 := spS num (askS x (x + n - 1)) R 4
def FD (Sp : Nat → Nat → Int32) (pr : Int32) (le : Nat → Int32) (r : Nat) : Nat → Int32 × Nat
  | 0 => (0, 0)
  | n + 1 => if (FD Sp pr le r n).2 = 0 ∨ Sp r (n + 1) + pr + le (r + (n + 1)) ≤ (FD Sp pr le r n).1 then (Sp r (n + 1) + pr + le (r + (n + 1)), n + 1) else FD Sp pr le r n
theorem FD_eq {Sp : Nat → Nat → Int32} {pr : Int32} {le le' : Nat → Int32} {r : Nat} : ∀ n, (∀ j, r < j → j ≤ r + n → le j = le' j) → FD Sp pr le r n = FD Sp pr le' r n
  | 0, _ => rfl
  | n + 1, h => by
    have h1 := FD_eq (Sp := Sp) (pr := pr) n (fun j a b => h j a (by omega))
    have h2 := h (r + (n + 1)) (by omega) (Nat.le_refl _)
    show (if _ ∨ _ then _ else _) = (if _ ∨ _ then _ else _)
    rw [h1, h2]
/-- row r is settled -/
def LTr (Sp : Nat → Nat → Int32) (pr : Int32) (t : Nat) (le tk : Nat → Int32) (r : Nat) : Prop := le r = (FD Sp pr le r (t + 1 - r)).1 ∧ tk r = nI (FD Sp pr le r (t + 1 - r)).2
theorem LT_un {Sp : Nat → Nat → Int32} {pr : Int32} {t : Nat} {le tk le' tk' : Nat → Int32} (h0 : le (t + 1) = le' (t + 1)) {lo : Nat} (h : ∀ r, lo ≤ r → r ≤ t → LTr Sp pr t le tk r) (h' : ∀ r, lo ≤ r → r ≤ t → LTr Sp pr t le' tk' r) : ∀ d r, t + 1 - r ≤ d → lo ≤ r → r ≤ t + 1 → le r = le' r ∧ (r ≤ t → tk r = tk' r)
  | 0, r, hd, _, hr => by
    have e : r = t + 1 := by omega
    subst e
    exact ⟨h0, fun q => by omega⟩
  | d + 1, r, hd, hl, hr => by
    rcases Nat.eq_or_lt_of_le hr with e | e
    · subst e
      exact ⟨h0, fun q => by omega⟩
    · have hrt : r ≤ t := by omega
      have key := FD_eq (Sp := Sp) (pr := pr) (le := le) (le' := le') (r := r) (t + 1 - r) (fun j a b => (LT_un h0 h h' d j (by omega) (by omega) (by omega)).1)
      obtain ⟨a1, a2⟩ := h r hl hrt
      obtain ⟨b1, b2⟩ := h' r hl hrt
      refine ⟨by rw [a1, b1, key], fun _ => by rw [a2, b2, key]⟩
def jmp (tk : Nat → Int32) (t : Nat) : Nat → Nat → Nat
  | 0, _ => 0
  | f + 1, r => if r ≤ t then 1 + jmp tk t f (r + (tk r).toNatClampNeg) else 0
theorem jmp_eq {tk tk' : Nat → Int32} {t : Nat} {lo : Nat} (h : ∀ r, lo ≤ r → r ≤ t → tk r = tk' r) : ∀ f r, lo ≤ r → jmp tk t f r = jmp tk' t f r
  | 0, _, _ => rfl
  | f + 1, r, hr => by
    show (if r ≤ t then _ else _) = (if r ≤ t then _ else _)
    by_cases c : r ≤ t
    · rw [if_pos c, if_pos c, h r hr c, jmp_eq h f _ (by omega)]
    · rw [if_neg c, if_neg c]
theorem jmp_fuel {tk : Nat → Int32} {t lo : Nat} (h : ∀ r, lo ≤ r → r ≤ t → 1 ≤ (tk r).toNatClampNeg) : ∀ f r, lo ≤ r → t + 1 - r ≤ f → jmp tk t f r = jmp tk t (t + 1 - r) r
  | 0, r, _, hf => by
    rw [show t + 1 - r = 0 by omega]
  | f + 1, r, hr, hf => by
    by_cases c : r ≤ t
    · obtain ⟨g, hg⟩ : ∃ g, t + 1 - r = g + 1 := ⟨t - r, by omega⟩
      have h1 := h r hr c
      rw [hg]
      show (if r ≤ t then _ else _) = (if r ≤ t then _ else _)
      rw [if_pos c, if_pos c, jmp_fuel h f _ (by omega) (by omega), jmp_fuel h g (r + (tk r).toNatClampNeg) (by omega) (by omega)]
    · rw [show t + 1 - r = 0 by omega]
      show (if r ≤ t then _ else _) = 0
      rw [if_neg c]
theorem jmp_step {tk : Nat → Int32} {t lo r k : Nat} (h : ∀ r, lo ≤ r → r ≤ t → 1 ≤ (tk r).toNatClampNeg) (hr : lo ≤ r) (hrt : r ≤ t) (hk : tk r = nI k) (hb : k < 2 ^ 31) : jmp tk t (t + 1 - r) r = 1 + jmp tk t (t + 1 - (r + k)) (r + k) := by
  obtain ⟨g, hg⟩ : ∃ g, t + 1 - r = g + 1 := ⟨t - r, by omega⟩
  have h1 := h r hr hrt
  rw [hg]
  show (if r ≤ t then 1 + jmp tk t g (r + (tk r).toNatClampNeg) else 0) = _
  rw [if_pos hrt, jmp_fuel h g _ (by omega) (by omega), hk, nI_clamp hb]
/-- a stretch falls into so many pieces -/
def CutR (Sp : Nat → Nat → Int32) (pr : Int32) (a t n : Nat) : Prop := ∃ le tk : Nat → Int32, le (t + 1) = 0 ∧ (∀ r, a ≤ r → r ≤ t → LTr Sp pr t le tk r) ∧ jmp tk t (t + 1 - a) a = n
theorem CutR.un {Sp : Nat → Nat → Int32} {pr : Int32} {a t n n' : Nat} (h : CutR Sp pr a t n) (h' : CutR Sp pr a t n') : n = n' := by
  obtain ⟨le, tk, e0, e1, e2⟩ := h
  obtain ⟨le', tk', f0, f1, f2⟩ := h'
  have key := LT_un (e0.trans f0.symm) e1 f1
  rw [← e2, ← f2]
  exact jmp_eq (lo := a) (fun r h1 h2 => (key _ r (Nat.le_refl _) h1 (by omega)).2 h2) _ a (Nat.le_refl _)
noncomputable def cutN (Sp : Nat → Nat → Int32) (pr : Int32) (a t : Nat) : Nat := @dite Nat (∃ n, CutR Sp pr a t n) (Classical.propDecidable _) (fun h => Classical.choose h) (fun _ => 0)
theorem cutN_of {Sp : Nat → Nat → Int32} {pr : Int32} {a t n : Nat} (h : CutR Sp pr a t n) : cutN Sp pr a t = n := by
  have hx : ∃ n, CutR Sp pr a t n := ⟨n, h⟩
  unfold cutN
  rw [dif_pos hx]
  exact (Classical.choose_spec hx).un h
def hdS (num de ou ru : Nat → Int32) (r : Nat) : Bool := decide (de r = 0) && decide (ou r = 0) && !decide (num (4 * r) + num (4 * r + 1) + num (4 * r + 2) + num (4 * r + 3) < ru 1)
/-- the last row of a stretch -/
def ndS (hd : Nat → Bool) (R : Nat) : Nat → Nat → Nat
  | 0, r => r
  | f + 1, r => if r + 1 < R ∧ hd (r + 1) = true then ndS hd R f (r + 1) else r
theorem ndS_fuel {hd : Nat → Bool} {R : Nat} : ∀ f r, R - (r + 1) ≤ f → ndS hd R f r = ndS hd R (R - (r + 1)) r
  | 0, r, hf => by rw [show R - (r + 1) = 0 by omega]
  | f + 1, r, hf => by
    by_cases c : r + 1 < R
    · obtain ⟨g, hg⟩ : ∃ g, R - (r + 1) = g + 1 := ⟨R - (r + 1) - 1, by omega⟩
      rw [hg]
      show (if r + 1 < R ∧ hd (r + 1) = true then _ else _) = (if r + 1 < R ∧ hd (r + 1) = true then _ else _)
      rw [ndS_fuel f (r + 1) (by omega), ndS_fuel g (r + 1) (by omega)]
    · rw [show R - (r + 1) = 0 by omega]
      show (if r + 1 < R ∧ hd (r + 1) = true then _ else _) = r
      rw [if_neg (fun q => c q.1)]
theorem ndS_step {hd : Nat → Bool} {R r : Nat} (c : r + 1 < R) (h : hd (r + 1) = true) : ndS hd R (R - (r + 1)) r = ndS hd R (R - (r + 2)) (r + 1) := by
  obtain ⟨g, hg⟩ : ∃ g, R - (r + 1) = g + 1 := ⟨R - (r + 1) - 1, by omega⟩
  rw [hg]
  show (if r + 1 < R ∧ hd (r + 1) = true then _ else _) = _
  rw [if_pos ⟨c, h⟩, ndS_fuel g (r + 1) (by omega)]
theorem ndS_stop {hd : Nat → Bool} {R r : Nat} (c : ¬ (r + 1 < R ∧ hd (r + 1) = true)) : ndS hd R (R - (r + 1)) r = r := by
  cases R - (r + 1) with
  | zero => rfl
  | succ g => exact if_neg c
def fpS (cn : Nat → Nat → Nat) (hd : Nat → Bool) (R : Nat) : Nat → Nat → Nat
  | 0, _ => 0
  | f + 1, r => if r < R then (if hd r = true then cn r (ndS hd R (R - (r + 1)) r) + fpS cn hd R f (ndS hd R (R - (r + 1)) r + 1) else fpS cn hd R f (r + 1)) else 0
theorem ndS_le {hd : Nat → Bool} {R : Nat} : ∀ f r, r ≤ ndS hd R f r
  | 0, r => Nat.le_refl _
  | f + 1, r => by
    show r ≤ (if _ then _ else _)
    split
    · exact Nat.le_trans (Nat.le_succ _) (ndS_le f (r + 1))
    · exact Nat.le_refl _
theorem fpS_fuel {cn : Nat → Nat → Nat} {hd : Nat → Bool} {R : Nat} : ∀ f r, R - r ≤ f → fpS cn hd R f r = fpS cn hd R (R - r) r
  | 0, r, hf => by rw [show R - r = 0 by omega]
  | f + 1, r, hf => by
    by_cases c : r < R
    · obtain ⟨g, hg⟩ : ∃ g, R - r = g + 1 := ⟨R - r - 1, by omega⟩
      have hn := ndS_le (hd := hd) (R := R) (R - (r + 1)) r
      rw [hg]
      show (if r < R then _ else _) = (if r < R then _ else _)
      rw [if_pos c, if_pos c, fpS_fuel f _ (by omega), fpS_fuel f (r + 1) (by omega), fpS_fuel g (ndS hd R (R - (r + 1)) r + 1) (by omega), fpS_fuel g (r + 1) (by omega)]
    · rw [show R - r = 0 by omega]
      exact if_neg c
theorem fpS_no {cn : Nat → Nat → Nat} {hd : Nat → Bool} {R r : Nat} (c : r < R) (h : hd r = false) : fpS cn hd R (R - r) r = fpS cn hd R (R - (r + 1)) (r + 1) := by
  obtain ⟨g, hg⟩ : ∃ g, R - r = g + 1 := ⟨R - r - 1, by omega⟩
  rw [hg]
  show (if r < R then _ else _) = _
  rw [if_pos c, if_neg (by rw [h]; decide), fpS_fuel g (r + 1) (by omega)]
theorem fpS_yes {cn : Nat → Nat → Nat} {hd : Nat → Bool} {R r t : Nat} (c : r < R) (h : hd r = true) (ht : ndS hd R (R - (r + 1)) r = t) : fpS cn hd R (R - r) r = cn r t + fpS cn hd R (R - (t + 1)) (t + 1) := by
  subst ht
  have hn := ndS_le (hd := hd) (R := R) (R - (r + 1)) r
  obtain ⟨g, hg⟩ : ∃ g, R - r = g + 1 := ⟨R - r - 1, by omega⟩
  rw [hg]
  show (if r < R then _ else _) = _
  rw [if_pos c, if_pos h, fpS_fuel g _ (by omega)]
theorem fpS_end {cn : Nat → Nat → Nat} {hd : Nat → Bool} {R r : Nat} (c : R ≤ r) : fpS cn hd R (R - r) r = 0 := by
  rw [show R - r = 0 by omega]
  rfl
/-- so many pieces the rows fall into -/
noncomputable def FPn (num de ou ru : Nat → Int32) (R : Nat) : Nat := fpS (cutN (fun r n => spA num R (nI r) (nI n)) (ru 0)) (hdS num de ou ru) R R 0
theorem hdS_t {num de ou ru : Nat → Int32} {r : Nat} (h1 : de r = 0) (h2 : ou r = 0) (h3 : ¬ num (4 * r) + num (4 * r + 1) + num (4 * r + 2) + num (4 * r + 3) < ru 1) : hdS num de ou ru r = true := by
  unfold hdS
  rw [decide_eq_true h1, decide_eq_true h2, decide_eq_false h3]
  rfl
theorem hdS_f1 {num de ou ru : Nat → Int32} {r : Nat} (h1 : ¬ de r = 0) : hdS num de ou ru r = false := by
  unfold hdS
  rw [decide_eq_false h1]
  rfl
theorem hdS_f2 {num de ou ru : Nat → Int32} {r : Nat} (h2 : ¬ ou r = 0) : hdS num de ou ru r = false := by
  unfold hdS
  rw [decide_eq_false h2, Bool.and_false]
  rfl
theorem hdS_f3 {num de ou ru : Nat → Int32} {r : Nat} (h3 : num (4 * r) + num (4 * r + 1) + num (4 * r + 2) + num (4 * r + 3) < ru 1) : hdS num de ou ru r = false := by
  unfold hdS
  rw [decide_eq_true h3, Bool.not_true, Bool.and_false]
theorem PF.eq {Q : (Nat → Int32) → Prop} {f g : Nat → Int32} (h : Q f) (e : g = f) : Q g := by
  subst e
  exact h
theorem midS_0 {q : (Nat → Int32) × Nat} (h : q.2 = 0) : midS q = 0 := if_pos h
theorem midS_1 {q : (Nat → Int32) × Nat} (h : ¬ q.2 = 0) : midS q = q.1 ((q.2 + 1) / 2 - 1) := if_neg h
theorem absJ_n {d : Int32} (h : d < 0) : absJ d = -d := if_pos h
theorem absJ_p {d : Int32} (h : ¬ d < 0) : absJ d = d := if_neg h
theorem askS_1 {x y : Int32} {r : Nat} (h1 : ¬ nI r < x) (h2 : ¬ y < nI r) : vp_nar .boolean 1 = askS x y r := by
  unfold askS
  rw [if_pos ⟨h1, h2⟩]
  rfl
theorem askS_0 {x y : Int32} {r : Nat} (h : ¬ (¬ nI r < x ∧ ¬ y < nI r)) : vp_nar .boolean 0 = askS x y r := by
  unfold askS
  rw [if_neg h]
  rfl
theorem FD_le {Sp : Nat → Nat → Int32} {pr : Int32} {le : Nat → Int32} {r : Nat} : ∀ n, (FD Sp pr le r n).2 ≤ n
  | 0 => Nat.le_refl _
  | n + 1 => by
    have h := FD_le (Sp := Sp) (pr := pr) (le := le) (r := r) n
    show (if _ ∨ _ then (_, n + 1) else FD Sp pr le r n).2 ≤ n + 1
    split
    · exact Nat.le_refl _
    · omega
/-- where row r's search stands, m lengths tried -/
def FDC (Sp : Nat → Nat → Int32) (pr : Int32) (r m : Nat) (le : Nat → Int32) (y : Int32) : Prop := y = nI (FD Sp pr le r m).2 ∧ ((FD Sp pr le r m).2 ≠ 0 → le r = (FD Sp pr le r m).1)
theorem FDC.zero {Sp : Nat → Nat → Int32} {pr : Int32} {r : Nat} {le : Nat → Int32} {y : Int32} (h : y = 0) : FDC Sp pr r 0 le y := ⟨h, fun q => absurd rfl q⟩
theorem FDC.take {Sp : Nat → Nat → Int32} {pr : Int32} {r n : Nat} {le le' : Nat → Int32} {y sm : Int32} (h : FDC Sp pr r (n - 1) le y) (h1 : 1 ≤ n) (hn : n < 2 ^ 31) (c : y = 0 ∨ sm ≤ le r) (hs : sm = Sp r n + pr + le (r + n)) (e : le' = upd le r sm) : FDC Sp pr r n le' (nI n) := by
  obtain ⟨m, rfl⟩ : ∃ m, n = m + 1 := ⟨n - 1, by omega⟩
  subst e
  have h : FDC Sp pr r m le y := h
  have hle := FD_le (Sp := Sp) (pr := pr) (le := le) (r := r) m
  have key : FD Sp pr (upd le r sm) r (m + 1) = (sm, m + 1) := by
    rw [FD_eq (le' := le) (m + 1) (fun j a b => pk_un (by omega))]
    show (if _ ∨ _ then _ else _) = _
    rw [← hs]
    refine if_pos ?_
    by_cases d : (FD Sp pr le r m).2 = 0
    · exact Or.inl d
    · refine Or.inr ?_
      rcases c with c | c
      · exact absurd ((nI_eq (by omega) (by omega)).mp (h.1.symm.trans (c.trans nI_0.symm))) d
      · rw [← h.2 d]
        exact c
  refine ⟨by rw [key], fun _ => ?_⟩
  rw [key]
  exact pk_us
theorem FDC.skip {Sp : Nat → Nat → Int32} {pr : Int32} {r n : Nat} {le : Nat → Int32} {y sm : Int32} (h : FDC Sp pr r (n - 1) le y) (h1 : 1 ≤ n) (c1 : ¬ y = 0) (c2 : ¬ sm ≤ le r) (hs : sm = Sp r n + pr + le (r + n)) : FDC Sp pr r n le y := by
  obtain ⟨m, rfl⟩ : ∃ m, n = m + 1 := ⟨n - 1, by omega⟩
  have d : ¬ (FD Sp pr le r m).2 = 0 := fun q => c1 (h.1.trans (by rw [show m + 1 - 1 = m by omega, q]; exact nI_0))
  have key : FD Sp pr le r (m + 1) = FD Sp pr le r m := by
    show (if _ ∨ _ then _ else _) = _
    rw [← hs]
    refine if_neg (fun q => q.elim d (fun q => c2 ?_))
    rw [h.2 d]
    exact q
  unfold FDC
  rw [key]
  exact h
def LTA (Sp : Nat → Nat → Int32) (pr : Int32) (t lo : Nat) (le tk : Nat → Int32) : Prop := ∀ j, lo ≤ j → j ≤ t → LTr Sp pr t le tk j
theorem LTA.none {Sp : Nat → Nat → Int32} {pr : Int32} {t : Nat} {le tk : Nat → Int32} : LTA Sp pr t (t + 1) le tk := fun j a b => by omega
theorem LTA.le {Sp : Nat → Nat → Int32} {pr : Int32} {t r : Nat} {le le' tk : Nat → Int32} {x : Int32} (h : LTA Sp pr t (r + 1) le tk) (e : le' = upd le r x) : LTA Sp pr t (r + 1) le' tk := by
  subst e
  intro j a b
  obtain ⟨h1, h2⟩ := h j a b
  have key : FD Sp pr (upd le r x) j (t + 1 - j) = FD Sp pr le j (t + 1 - j) := FD_eq _ (fun i c d => pk_un (by omega))
  exact ⟨by rw [key, ← h1]; exact pk_un (by omega), by rw [key]; exact h2⟩
theorem LTA.tk {Sp : Nat → Nat → Int32} {pr : Int32} {t r : Nat} {le tk tk' : Nat → Int32} {x : Int32} (h : LTA Sp pr t (r + 1) le tk) (e : tk' = upd tk r x) : LTA Sp pr t (r + 1) le tk' := by
  subst e
  intro j a b
  obtain ⟨h1, h2⟩ := h j a b
  exact ⟨h1, by rw [← h2]; exact pk_un (by omega)⟩
theorem LTA.low {Sp : Nat → Nat → Int32} {pr : Int32} {t r n : Nat} {le tk : Nat → Int32} (h : LTA Sp pr t (r + 1) le tk) (f : FDC Sp pr r (n - 1) le (tk r)) (hn : n - 1 = t + 1 - r) (hk : TQ t r (tk r)) (ht : t < 2 ^ 30) : LTA Sp pr t r le tk := by
  intro j a b
  rcases Nat.eq_or_lt_of_le a with c | c
  · subst c
    rw [hn] at f
    refine ⟨f.2 (fun q => ?_), f.1⟩
    obtain ⟨k, k1, k2, k3⟩ := hk
    have e := f.1.symm.trans k3
    rw [q] at e
    have e2 := (nI_eq (by omega) (by omega)).mp e
    omega
  · exact h j c b
theorem PF2.eq {Q : (Nat → Int32) → (Nat → Int32) → Prop} {f g f' g' : Nat → Int32} (h : Q f g) (e1 : f' = f) (e2 : g' = g) : Q f' g' := by
  subst e1
  subst e2
  exact h
theorem TQ.pos {f : Nat → Int32} {lo t : Nat} (h : AP f lo (t + 1) (TQ t)) (ht : t < 2 ^ 30) : ∀ r, lo ≤ r → r ≤ t → 1 ≤ (f r).toNatClampNeg := by
  intro r a b
  obtain ⟨k, k1, k2, k3⟩ := h r a (by omega)
  rw [k3, nI_clamp (by omega)]
  exact k1
theorem jmp_end {tk : Nat → Int32} {t r : Nat} (h : t < r) : jmp tk t (t + 1 - r) r = 0 := by
  rw [show t + 1 - r = 0 by omega]
  rfl
