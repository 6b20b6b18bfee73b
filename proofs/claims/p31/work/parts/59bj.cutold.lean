/-! rows and rules that change: the cut is old then -/
theorem jcut_old {σ : ST} (h : σ.1 22 = 1) : JCUT σ := fun q => absurd (h.symm.trans q) (by decide)
def cRW (I A : List (Nat × Nat)) : Bool := ([2, 31].all (fun k => !inR I k) && [3, 4, 5, 6, 68, 69, 70, 71].all (fun k => !inR A k)) && ([20, 32].all (fun k => !inR I k) && [52, 53, 72, 73].all (fun k => !inR A k))
def cTU (I A : List (Nat × Nat)) : Bool := [0, 25].all (fun k => !inR I k) && [0, 67, 1, 66].all (fun k => !inR A k)
def cCU (I A : List (Nat × Nat)) : Bool := subR I [(0, 1), (3, 4), (9, 21), (23, 999)] && subR A [(0, 0), (2, 2), (6, 11), (18, 9999)]
theorem JCUT.fr {I A : List (Nat × Nat)} {σ τ : ST} (h : JCUT σ) (f : Fr I A σ τ) (hh : cCU I A = true) : JCUT τ := by
  unfold cCU at hh
  rw [Bool.and_eq_true] at hh
  exact h.same (U := 9999) (f.wide hh.1 hh.2)
def cVV (I A : List (Nat × Nat)) : Bool := !inR I 20 && !inR A 52 && !inR A 53
theorem kcs {α : Type} {x : α × ST} {r : α} {τ : ST} (h : KCU x.2) (e : x = (r, τ)) : KCU τ := by
  rw [e] at h
  exact h
theorem ans2 {α : Type} {x : α × ST} {g : ST → α × ST} {r1 r2 : α} {τ ρ : ST} (h : x.1 = (g x.2).1) (e1 : x = (r1, τ)) (e2 : g τ = (r2, ρ)) : r1 = r2 := by
  subst e1
  show (r1, τ).1 = r2
  rw [h, e2]
theorem nf22 (σ : ST) : (fX11_nothingIsFound_0 σ).1 22 = 1 := by
  unfold fX11_nothingIsFound_0 fX11_nothingIsFound_0b0
  simp only [bd_e]
  rw [sI_ne _ _ rfl, sI_ne _ _ rfl, sI_eq]
theorem deaf22 : ∀ (fu : Nat) (a b : Int32) (τ : ST), (fX11_deaf_0l35 fu a b τ).2.1 22 = τ.1 22
  | 0, _, _, _ => rfl
  | fu + 1, a, b, τ => by
    have e : fX11_deaf_0l35 (fu + 1) a b τ = if a ≤ b then (τ.1 2, τ) else fX11_deaf_0l35 fu a (b + 1) (fX7_addDeaf_0 τ).2 := by
      show fX11_deaf_0b35 (fX11_deaf_0l35 fu) a b τ = _
      unfold fX11_deaf_0b35 fX11_deaf_0b54 fX11_deaf_0b40
      simp only [bd_e, bp_e]
    rw [e]
    by_cases c : a ≤ b
    · rw [if_pos c]
    · rw [if_neg c, deaf22 fu]
      exact fr_fX7_addDeaf_0.1 22 rfl
theorem cut_row {σ σ1 : ST} {a b c d r1 : Int32} (h : JCUT σ) (x1 : fX11_row_0 a b c d σ = (r1, σ1)) : JCUT σ1 := by
  rw [row_X] at x1
  by_cases c1 : LD4 a b c d
  · rw [if_pos c1] at x1
    by_cases c2 : σ.1 2 < 48
    · rw [if_pos c2] at x1
      refine jcut_old ?_
      have e : σ1 = (fX7_addRow_0 a b c d (fX11_nothingIsFound_0 σ)).2 := (congrArg Prod.snd x1).symm
      rw [e]
      exact (fr_fX7_addRow_0.1 22 rfl).trans (nf22 σ)
    · rw [if_neg c2] at x1
      rw [← pin2 x1]
      exact h
  · rw [if_neg c1] at x1
    rw [← pin2 x1]
    exact h
theorem cut_deaf {σ σ1 : ST} {a r1 : Int32} (h : JCUT σ) (x1 : fX11_deaf_0 a σ = (r1, σ1)) : JCUT σ1 := by
  rw [deaf_X] at x1
  by_cases c1 : DFi a
  · rw [if_pos c1] at x1
    by_cases c2 : σ.1 2 + a ≤ 48
    · rw [if_pos c2] at x1
      refine jcut_old ?_
      have e : σ1 = (fX11_deaf_0l35 4096 a 0 (fX11_nothingIsFound_0 σ)).2 := (congrArg Prod.snd x1).symm
      rw [e, deaf22]
      exact nf22 σ
    · rw [if_neg c2] at x1
      rw [← pin2 x1]
      exact h
  · rw [if_neg c1] at x1
    rw [← pin2 x1]
    exact h
theorem cut_hush {σ σ1 : ST} {r1 : Int32} (x1 : fX11_hush_0 σ = (r1, σ1)) : JCUT σ1 := by
  simp only [fX11_hush_0, fX11_hush_0b0, bd_e] at x1
  refine jcut_old ?_
  rw [← pin2 x1]
  exact nf22 _
theorem cntN_0 {f : Nat → Int32} {v : Int32} : ∀ n a, cntN f v a n = 0 → putN f v a n = f
  | 0, a, _ => putN_0 f v a
  | n + 1, a, h => by
    have h' : (if f a = v then 0 else 1) + cntN f v (a + 1) n = 0 := h
    by_cases c : f a = v
    · rw [if_pos c, Nat.zero_add] at h'
      rw [← putN_same c]
      exact cntN_0 n (a + 1) h'
    · rw [if_neg c] at h'
      omega
theorem cut_out {σ σ1 : ST} {a b o r1 : Int32} (hR : JR σ) (h : JCUT σ) (x1 : fX11_out_0 a b o σ = (r1, σ1)) : JCUT σ1 := by
  obtain ⟨R, hR48, h2, _, _⟩ := hR
  rw [out_X h2 hR48] at x1
  by_cases c1 : AR a b R ∧ ¬ o < 0 ∧ ¬ 1 < o
  · rw [if_pos c1] at x1
    obtain ⟨f, t, rfl, rfl, hft, htR⟩ := c1.1.nat hR48
    obtain ⟨τ', e1, e2⟩ := setOut_X h2 hR48 hft htR (OUTv_n o)
    have fs : Fr [] [(5, 5)] σ (fX7_setOut_0 (nI f) (nI t) (OUTv o) σ).2 := fr_fX7_setOut_0
    rw [e1] at x1 fs
    have cl := cntN_le (f := σ.2.2 5) (v := OUTv o) (t + 1 - f) f
    by_cases c2 : nI (cntN (σ.2.2 5) (OUTv o) f (t + 1 - f)) ≤ 0
    · have c3 := (leN (b := 0) (by omega) (by omega)).mp c2
      have c4 := cntN_0 (f := σ.2.2 5) (v := OUTv o) (t + 1 - f) f (by omega)
      rw [if_pos (show (nI (cntN (σ.2.2 5) (OUTv o) f (t + 1 - f)), τ').1 ≤ 0 from c2)] at x1
      have e : σ1 = τ' := (pin2 x1).symm
      rw [e]
      refine h.fr (I := []) (A := []) ⟨fs.1, fun k _ => ?_⟩ rfl
      by_cases q : k = 5
      · subst q
        exact e2.trans c4
      · refine fs.2 k ?_
        show (Nat.ble 5 k && Nat.ble k 5 || false) = false
        rcases Nat.lt_or_ge k 5 with w | w
        · have z : Nat.ble 5 k = false := by
            cases hb : Nat.ble 5 k
            · rfl
            · exact absurd (Nat.le_of_ble_eq_true hb) (by omega)
          rw [z]
          rfl
        · have z : Nat.ble k 5 = false := by
            cases hb : Nat.ble k 5
            · rfl
            · exact absurd (Nat.le_of_ble_eq_true hb) (by omega)
          rw [z, Bool.and_false]
          rfl
    · rw [if_neg (show ¬ (nI (cntN (σ.2.2 5) (OUTv o) f (t + 1 - f)), τ').1 ≤ 0 from c2)] at x1
      refine jcut_old ?_
      rw [← pin2 x1]
      exact nf22 _
  · rw [if_neg c1] at x1
    rw [← pin2 x1]
    exact h
theorem cut_rules {σ σ1 : ST} {r1 : Int32} (hT : JT σ) (h : JCUT σ) (x1 : fX11_rules_0 σ = (r1, σ1)) : JCUT σ1 := by
  obtain ⟨t, T, hx, hm⟩ := hT
  have rX := read_X hx
  have hTT := hx.2.1
  rw [rules_X] at x1
  have q1 := pin2 x1
  by_cases c : (fX8_read_0 σ).1 < 0
  · rw [if_pos c] at q1
    rw [← q1]
    rcases rX with ⟨m, td', g1, g2, g3, g4, g5⟩ | ⟨g1, a, ha, g2, g3, g4⟩
    · rw [g2] at c
      exact absurd c (nI_pos (by omega))
    · have fs : Fr [(0, 1)] [(1, 2)] σ (fX8_read_0 σ).2 := fr_fX8_read_0
      refine h.fr (I := [(0, 1)]) (A := [(2, 2)]) ⟨fs.1, fun k hk => ?_⟩ rfl
      by_cases q : k = 1
      · subst q
        exact g4
      · refine fs.2 k ?_
        have hk' : (Nat.ble 2 k && Nat.ble k 2 || false) = false := hk
        show (Nat.ble 1 k && Nat.ble k 2 || false) = false
        rcases Nat.lt_or_ge k 2 with w | w
        · have z : Nat.ble 1 k = false := by
            cases hb : Nat.ble 1 k
            · rfl
            · exact absurd (Nat.le_of_ble_eq_true hb) (by omega)
          rw [z]
          rfl
        · have z : Nat.ble 2 k = true := Nat.ble_eq.mpr w
          rw [z] at hk'
          cases hb : Nat.ble k 2
          · rw [Bool.and_false]
            rfl
          · rw [hb] at hk'
            exact absurd hk' (by decide)
  · rw [if_neg c] at q1
    refine jcut_old ?_
    rw [← q1]
    exact nf22 _
