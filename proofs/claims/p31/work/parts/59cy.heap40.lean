/-! what the class counts together; its most right -/
theorem q55 {h : Nat} (hh : h < 9) : inR [(55, 63)] (55 + h) = true := by
  rcases (show h = 0 ∨ h = 1 ∨ h = 2 ∨ h = 3 ∨ h = 4 ∨ h = 5 ∨ h = 6 ∨ h = 7 ∨ h = 8 by omega) with rfl | rfl | rfl | rfl | rfl | rfl | rfl | rfl | rfl <;> rfl
theorem q55' {h : Nat} (hh : h < 9) : inR [(64, 64)] (55 + h) = false := by
  rcases (show h = 0 ∨ h = 1 ∨ h = 2 ∨ h = 3 ∨ h = 4 ∨ h = 5 ∨ h = 6 ∨ h = 7 ∨ h = 8 by omega) with rfl | rfl | rfl | rfl | rfl | rfl | rfl | rfl | rfl <;> rfl
theorem ct3_l : ∀ (fu d h : Nat) (τ : ST), h + d = 9 → d < fu → (∀ x, x < h → ∀ t, t < 5 → τ.2.2 (55 + x) t = 0) → ∃ τ', fX9_countTogether_0l3 fu (nI h) τ = fX9_countTogether_0b27 τ' ∧ (∀ x, x < 9 → ∀ t, t < 5 → τ'.2.2 (55 + x) t = 0) ∧ Fr [] [(55, 63)] τ τ'
  | 0, _, _, _, _, h, _ => absurd h (Nat.not_lt_zero _)
  | fu + 1, 0, h, τ, hd, _, h0 => by
    have eh : h = 9 := by omega
    subst eh
    refine ⟨τ, ?_, h0, Fr.refl τ⟩
    show fX9_countTogether_0b3 (fX9_countTogether_0l3 fu) (nI 9) τ = _
    unfold fX9_countTogether_0b3
    rw [if_pos (show 9 ≤ nI 9 by decide)]
  | fu + 1, d + 1, h, τ, hd, hf, h0 => by
    have f1 : Fr [] [(55, 63)] τ (sA τ (55 + h) (fun j => if j < 5 then 0 else τ.2.2 (55 + h) j)) := (Fr.refl τ).putA (q55 (by omega))
    obtain ⟨τ2, z1, z2, z3⟩ := ct3_l fu d (h + 1) (sA τ (55 + h) (fun j => if j < 5 then 0 else τ.2.2 (55 + h) j)) (by omega) (by omega) (fun x hx t ht => by
      by_cases c : x = h
      · subst c
        rw [sA_eq]
        exact if_pos ht
      · rw [sA_ne _ _ (beq_f (by omega))]
        exact h0 x (by omega) t ht)
    refine ⟨τ2, ?_, z2, f1.call z3 rfl rfl⟩
    rw [← z1]
    show fX9_countTogether_0b3 (fX9_countTogether_0l3 fu) (nI h) τ = _
    unfold fX9_countTogether_0b3 fX9_countTogether_0b10
    rw [if_neg (show ¬ 9 ≤ nI h from fun q => absurd ((leN (a := 9) (by omega) (by omega)).mp q) (by omega))]
    simp only [bd_e, n_add1, show (nI h).toNatClampNeg = h from nI_clamp (by omega)]
/-- what counting stands on -/
def CTS (s : PSt) (a tr : Nat → Nat) (n N : Nat) (σ : ST) : Prop := N ≤ 48 ∧ n ≤ 9 ∧ σ.1 2 = nI N ∧ (∀ r, r < 48 → σ.2.2 17 r = s.2.2 r) ∧ (∀ q, q < n → σ.2.2 41 q = nI (a q) ∧ a q < 9) ∧ TRU tr N σ
theorem CTS.fr {s : PSt} {a tr : Nat → Nat} {n N : Nat} {I J : List (Nat × Nat)} {σ τ : ST} (h : CTS s a tr n N σ) (f : Fr I J σ τ) (hh : (!inR I 2 && !inR J 17 && !inR J 41 && !inR J 6 && !inR J 71) = true) : CTS s a tr n N τ := by
  simp only [Bool.and_eq_true, Bool.not_eq_true'] at hh
  obtain ⟨⟨⟨⟨h1, h2⟩, h3⟩, h4⟩, h5⟩ := hh
  exact ⟨h.1, h.2.1, by rw [f.1 _ h1]; exact h.2.2.1, by rw [f.2 _ h2]; exact h.2.2.2.1, by rw [f.2 _ h3]; exact h.2.2.2.2.1, h.2.2.2.2.2.fr f h4 h5⟩
theorem ct33_l {s : PSt} {a tr : Nat → Nat} {n N : Nat} (hs : s.1 = n) (hp : PCO s) : ∀ (fu d r : Nat) (τ : ST), r + d = N → d < fu → CTS s a tr n N τ → (∀ h, h < 9 → ∀ t, t < 5 → τ.2.2 (55 + h) t = nI (TG2 s a tr t h r)) → ∃ τ', fX9_countTogether_0l33 fu (nI (tB s tr r)) (nI r) τ = (nI (tB s tr N), τ') ∧ (∀ h, h < 9 → ∀ t, t < 5 → τ'.2.2 (55 + h) t = nI (TG2 s a tr t h N)) ∧ Fr [] [(55, 63)] τ τ' := by
  intro fu
  induction fu with
  | zero =>
    intro d r τ _ h
    exact absurd h (Nat.not_lt_zero _)
  | succ fu ih =>
    intro d r τ hd hf hC h0
    have hC' := hC
    obtain ⟨hN, hn, h2, h17, h41, hT⟩ := hC'
    cases d with
    | zero =>
      have er : r = N := by omega
      subst er
      refine ⟨τ, ?_, h0, Fr.refl τ⟩
      show fX9_countTogether_0b33 (fX9_countTogether_0l33 fu) (nI (tB s tr r)) (nI r) τ = _
      unfold fX9_countTogether_0b33 fX9_countTogether_0b113
      rw [bd_e, h2, if_pos ((leN (by omega) (by omega)).mpr (Nat.le_refl _))]
    | succ d =>
      obtain ⟨t1, _, t3⟩ := hT r (by omega)
      have nr : (nI r).toNatClampNeg = r := nI_clamp (by omega)
      have e3 : tB s tr (r + 1) = tB s tr r + (if decide (0 < tr r ∧ ¬ s.2.2 r = -9) = true then 1 else 0) := rfl
      have eT : ∀ t h, TG2 s a tr t h (r + 1) = TG2 s a tr t h r + (if decide (¬ s.2.2 r = -9 ∧ tr r = t + 1 ∧ HR s a r = h) = true then 1 else 0) := fun _ _ => rfl
      have eA : fX9_countTogether_0l33 (fu + 1) (nI (tB s tr r)) (nI r) τ = if s.2.2 r < 0 then fX9_countTogether_0b107 (fX9_countTogether_0l33 fu) (nI (tB s tr r)) (nI r) τ else fX9_countTogether_0b67 (fX9_countTogether_0l33 fu) (nI (tB s tr r)) (nI r) (s.2.2 r) (nI (tr r) - 1) τ := by
        show fX9_countTogether_0b33 (fX9_countTogether_0l33 fu) (nI (tB s tr r)) (nI r) τ = _
        unfold fX9_countTogether_0b33
        rw [bd_e, h2, if_neg (fun q => absurd ((leN (by omega) (by omega)).mp q) (by omega))]
        unfold fX9_countTogether_0b42
        rw [bd_e, bd_e, bd_e, nr, h17 r (by omega), t1]
      have e107 : ∀ (x : Int32) (ρ : ST), fX9_countTogether_0b107 (fX9_countTogether_0l33 fu) x (nI r) ρ = fX9_countTogether_0l33 fu x (nI (r + 1)) ρ := fun x ρ => by
        unfold fX9_countTogether_0b107
        rw [bd_e, n_add1]
      have skip : fX9_countTogether_0l33 (fu + 1) (nI (tB s tr r)) (nI r) τ = fX9_countTogether_0l33 fu (nI (tB s tr r)) (nI (r + 1)) τ → (¬ (0 < tr r ∧ ¬ s.2.2 r = -9)) → ∃ τ', fX9_countTogether_0l33 (fu + 1) (nI (tB s tr r)) (nI r) τ = (nI (tB s tr N), τ') ∧ (∀ h, h < 9 → ∀ t, t < 5 → τ'.2.2 (55 + h) t = nI (TG2 s a tr t h N)) ∧ Fr [] [(55, 63)] τ τ' := fun e hne => by
        obtain ⟨τ2, z1, z2, z3⟩ := ih d (r + 1) τ (by omega) (by omega) hC (fun h hh t ht => by
          rw [eT, if_neg (fun w => by
            have q := of_decide_eq_true w
            exact hne ⟨by omega, q.1⟩), Nat.add_zero]
          exact h0 h hh t ht)
        rw [e3, if_neg (fun w => hne (of_decide_eq_true w)), Nat.add_zero] at z1
        exact ⟨τ2, e.trans z1, z2, z3⟩
      rcases hp r with z | ⟨q, q1, q2, _, _⟩
      · refine skip ?_ (fun w => w.2 z)
        rw [eA, z, if_pos (show (-9 : Int32) < 0 by decide), e107]
      · have nq : (nI q).toNatClampNeg = q := nI_clamp (by omega)
        obtain ⟨a1, a2⟩ := h41 q (by omega)
        have eB : fX9_countTogether_0l33 (fu + 1) (nI (tB s tr r)) (nI r) τ = fX9_countTogether_0b74 (fX9_countTogether_0l33 fu) (nI (tB s tr r)) (nI r) (nI q) (nI (tr r) - 1) τ := by
          rw [eA, q2, if_neg (nI_pos (by omega))]
          unfold fX9_countTogether_0b67
          rw [if_neg (show ¬ 9 ≤ nI q from fun w => absurd ((leN (a := 9) (by omega) (by omega)).mp w) (by omega))]
        by_cases c1 : tr r = 0
        · refine skip ?_ (fun w => by omega)
          rw [eB, c1]
          unfold fX9_countTogether_0b74
          rw [if_pos (show nI 0 - 1 < 0 by decide), e107]
        · have et : nI (tr r) - 1 = nI (tr r - 1) := pk_sub (b := 1) (by omega)
          have nt : (nI (tr r - 1)).toNatClampNeg = tr r - 1 := nI_clamp (by omega)
          have hne : ¬ s.2.2 r = -9 := by
            rw [q2]
            exact neg9_nI (by omega)
          have eH : HR s a r = a q := by
            unfold HR
            rw [q2, nq]
          have na : (nI (a q)).toNatClampNeg = a q := nI_clamp (by omega)
          have f1 : Fr [] [(55, 63)] τ (sA τ (55 + a q) (upd (τ.2.2 (55 + a q)) (tr r - 1) (nI (TG2 s a tr (tr r - 1) (a q) r + 1)))) := (Fr.refl τ).putA (q55 a2)
          have eC : fX9_countTogether_0l33 (fu + 1) (nI (tB s tr r)) (nI r) τ = fX9_countTogether_0l33 fu (nI (tB s tr r + 1)) (nI (r + 1)) (sA τ (55 + a q) (upd (τ.2.2 (55 + a q)) (tr r - 1) (nI (TG2 s a tr (tr r - 1) (a q) r + 1)))) := by
            rw [eB, et]
            unfold fX9_countTogether_0b74
            rw [if_neg (nI_pos (by omega))]
            unfold fX9_countTogether_0b79
            rw [if_neg (show ¬ 5 ≤ nI (tr r - 1) from fun w => absurd ((leN (a := 5) (by omega) (by omega)).mp w) (by omega))]
            unfold fX9_countTogether_0b85
            simp only [bd_e, nq, a1, na, nt, h0 (a q) a2 (tr r - 1) (by omega), n_add1]
            rw [e107]
          obtain ⟨τ2, z1, z2, z3⟩ := ih d (r + 1) _ (by omega) (by omega) (hC.fr f1 rfl) (fun h hh t ht => by
            rw [eT]
            by_cases ch : h = a q
            · subst ch
              rw [sA_eq]
              by_cases ctt : t = tr r - 1
              · rw [ctt, pk_us, if_pos (decide_eq_true ⟨hne, by omega, eH⟩)]
              · rw [pk_un ctt, if_neg (fun w => by have := (of_decide_eq_true w).2.1; omega), Nat.add_zero]
                exact h0 (a q) hh t ht
            · rw [sA_ne _ _ (beq_f (by omega)), if_neg (fun w => ch (by rw [← (of_decide_eq_true w).2.2, eH])), Nat.add_zero]
              exact h0 h hh t ht)
          rw [e3, if_pos (decide_eq_true ⟨by omega, hne⟩)] at z1
          exact ⟨τ2, eC.trans z1, z2, f1.call z3 rfl rfl⟩
theorem tog_X {s : PSt} {a tr : Nat → Nat} {n N : Nat} {σ : ST} (hs : s.1 = n) (hp : PCO s) (hC : CTS s a tr n N σ) : ∃ τ', fX9_countTogether_0 σ = (nI (tB s tr N), τ') ∧ (∀ h, h < 9 → ∀ t, t < 5 → τ'.2.2 (55 + h) t = nI (TG2 s a tr t h N)) ∧ Fr [] [(55, 63)] σ τ' := by
  obtain ⟨τ1, y1, y2, y3⟩ := ct3_l 4096 9 0 σ (by omega) (by omega) (fun x hx => absurd hx (Nat.not_lt_zero _))
  obtain ⟨τ2, z1, z2, z3⟩ := ct33_l hs hp 4096 N 0 τ1 (by omega) (by have := hC.1; omega) (hC.fr y3 rfl) (fun h hh t ht => by
    rw [y2 h hh t ht]
    exact nI_0.symm)
  refine ⟨τ2, ?_, z2, y3.call z3 rfl rfl⟩
  rw [← z1]
  have e : fX9_countTogether_0 σ = fX9_countTogether_0b27 τ1 := by
    rw [← y1, nI_0]
    rfl
  rw [e, show tB s tr 0 = 0 from rfl, nI_0]
  rfl
theorem TG2_le (s : PSt) (a tr : Nat → Nat) (t h : Nat) {N : Nat} (hN : N ≤ 48) : TG2 s a tr t h N ≤ 48 := Nat.le_trans (cn_le _ N) hN
/-- a set's best gift of one more heap -/
theorem give_l {w : Nat → Nat → Nat} {g : Nat → Nat} {S h : Nat} (hS : S < 32) (hh : h < 9) (hw : ∀ t k, w t k ≤ 48) (hg : ∀ x, g x ≤ 1000) : ∀ (fu d t : Nat) (τ : ST), t + d = 5 → d < fu → (∀ t, t < 5 → τ.2.2 (55 + h) t = nI (w t h)) → (∀ x, x < S → τ.2.2 64 x = nI (g x)) → τ.2.2 64 S = nI (gvv g w h S t) → ∃ τ', fX9_giveOne_0l2 fu (nI S) h (nI t) τ = τ' ∧ τ'.2.2 64 S = nI (gvv g w h S 5) ∧ (∀ x, x ≠ S → τ'.2.2 64 x = τ.2.2 64 x) ∧ Fr [] [(64, 64)] τ τ'
  | 0, _, _, _, _, h, _, _, _ => absurd h (Nat.not_lt_zero _)
  | fu + 1, 0, t, τ, hd, _, hW, hG, h0 => by
    have e5 : t = 5 := by omega
    subst e5
    refine ⟨τ, ?_, h0, fun _ _ => rfl, Fr.refl τ⟩
    show fX9_giveOne_0b2 (fX9_giveOne_0l2 fu) (nI S) h (nI 5) τ = _
    unfold fX9_giveOne_0b2 fX9_giveOne_0b54
    rw [if_pos (show 5 ≤ nI 5 by decide)]
  | fu + 1, d + 1, t, τ, hd, hf, hW, hG, h0 => by
    have nS : (nI S).toNatClampNeg = S := nI_clamp (by omega)
    have nt : (nI t).toNatClampNeg = t := nI_clamp (by omega)
    have eg : gvv g w h S (t + 1) = if S.testBit t = true then max (gvv g w h S t) (g (S - 2 ^ t) + w t h) else gvv g w h S t := rfl
    have e0 : fX9_giveOne_0l2 (fu + 1) (nI S) h (nI t) τ = fX9_giveOne_0b7 (fX9_giveOne_0l2 fu) (nI S) h (nI t) τ := by
      show fX9_giveOne_0b2 (fX9_giveOne_0l2 fu) (nI S) h (nI t) τ = _
      unfold fX9_giveOne_0b2
      rw [if_neg (show ¬ 5 ≤ nI t from fun q => absurd ((leN (a := 5) (by omega) (by omega)).mp q) (by omega))]
    have e48 : ∀ ρ : ST, fX9_giveOne_0b48 (fX9_giveOne_0l2 fu) (nI S) h (nI t) ρ = fX9_giveOne_0l2 fu (nI S) h (nI (t + 1)) ρ := fun ρ => by
      unfold fX9_giveOne_0b48
      rw [bd_e, n_add1]
    have e1 : fX9_giveOne_0b7 (fX9_giveOne_0l2 fu) (nI S) h (nI t) τ = if nI (if S.testBit t = true then S - 2 ^ t else S) = nI S then fX9_giveOne_0b48 (fX9_giveOne_0l2 fu) (nI S) h (nI t) τ else fX9_giveOne_0b22 (fX9_giveOne_0l2 fu) (nI S) h (nI t) (nI (if S.testBit t = true then S - 2 ^ t else S)) τ := by
      unfold fX9_giveOne_0b7
      simp only [bd_e, clr (show S < 512 by omega) (show t < 9 by omega)]
    by_cases c : S.testBit t = true
    · have p := bit_pos c
      have p0 : 0 < 2 ^ t := Nat.two_pow_pos t
      have gle := gvv_le (w := w) (k := h) (S := S) (b := 1000) hg hw t
      have g1 := hg (S - 2 ^ t)
      have w1 := hw t h
      rw [if_pos c] at e1 eg
      rw [if_neg (fun q => absurd ((nI_eq (by omega) (by omega)).mp q) (by omega))] at e1
      have em : (if nI (gvv g w h S t) < nI (g (S - 2 ^ t) + w t h) then nI (g (S - 2 ^ t) + w t h) else nI (gvv g w h S t)) = nI (gvv g w h S (t + 1)) := by
        rw [eg]
        by_cases q : gvv g w h S t < g (S - 2 ^ t) + w t h
        · rw [if_pos ((nI_ltI (by omega) (by omega)).mpr q), Nat.max_eq_right (by omega)]
        · rw [if_neg (fun z => q (y_lt (by omega) (by omega) z)), Nat.max_eq_left (by omega)]
      have f1 : Fr [] [(64, 64)] τ (sA τ 64 (upd (τ.2.2 64) S (nI (gvv g w h S (t + 1))))) := (Fr.refl τ).putA rfl
      have e2 : fX9_giveOne_0b22 (fX9_giveOne_0l2 fu) (nI S) h (nI t) (nI (S - 2 ^ t)) τ = fX9_giveOne_0l2 fu (nI S) h (nI (t + 1)) (sA τ 64 (upd (τ.2.2 64) S (nI (gvv g w h S (t + 1))))) := by
        unfold fX9_giveOne_0b22
        simp only [bd_e, nS, nt, show (nI (S - 2 ^ t)).toNatClampNeg = S - 2 ^ t from nI_clamp (by omega), h0, hG (S - 2 ^ t) (by omega), hW t (by omega), nI_add, em]
        rw [e48]
      obtain ⟨τ2, z1, z2, z3, z4⟩ := give_l hS hh hw hg fu d (t + 1) (sA τ 64 (upd (τ.2.2 64) S (nI (gvv g w h S (t + 1))))) (by omega) (by omega) (fun t ht => by rw [sA_ne _ _ (beq_f (by omega))]; exact hW t ht) (fun x hx => by rw [sA_eq, pk_un (by omega)]; exact hG x hx) (by rw [sA_eq, pk_us])
      exact ⟨τ2, ((e0.trans e1).trans e2).trans z1, z2, fun x hx => by rw [z3 x hx, sA_eq, pk_un hx], f1.call z4 rfl rfl⟩
    · rw [if_neg c] at e1 eg
      rw [if_pos rfl, e48] at e1
      obtain ⟨τ2, z1, z2, z3, z4⟩ := give_l hS hh hw hg fu d (t + 1) τ (by omega) (by omega) hW hG (by rw [eg]; exact h0)
      exact ⟨τ2, (e0.trans e1).trans z1, z2, z3, z4⟩
theorem give_X {w : Nat → Nat → Nat} {g : Nat → Nat} {S h : Nat} {τ : ST} (hS : S < 32) (hh : h < 9) (hw : ∀ t k, w t k ≤ 48) (hg : ∀ x, g x ≤ 1000) (hW : ∀ t, t < 5 → τ.2.2 (55 + h) t = nI (w t h)) (hG : ∀ x, x ≤ S → τ.2.2 64 x = nI (g x)) : (fX9_giveOne_0 (nI S) h τ).2.2 64 S = nI (gvv g w h S 5) ∧ (∀ x, x ≠ S → (fX9_giveOne_0 (nI S) h τ).2.2 64 x = τ.2.2 64 x) ∧ Fr [] [(64, 64)] τ (fX9_giveOne_0 (nI S) h τ) := by
  obtain ⟨τ', y1, y2, y3, y4⟩ := give_l (w := w) (g := g) hS hh hw hg 4096 5 0 τ (by omega) (by omega) hW (fun x hx => hG x (by omega)) (hG S (Nat.le_refl _))
  have e : fX9_giveOne_0 (nI S) h τ = τ' := by
    rw [← y1, nI_0]
    rfl
  rw [e]
  exact ⟨y2, y3, y4⟩
theorem wr45_l {K : Int32 → Int32 → ST → Int32 × ST} {l4 : Int32} {w : Nat → Nat → Nat} {h : Nat} (hh : h < 9) (hw : ∀ t k, w t k ≤ 48) : ∀ (fu S : Nat) (τ : ST), S < 32 → S < fu → (∀ t, t < 5 → τ.2.2 (55 + h) t = nI (w t h)) → (∀ x, x < 32 → τ.2.2 64 x = nI (if S < x then GG w 5 (h + 1) x else GG w 5 h x)) → ∃ τ', fX9_wrong_0l45 K fu l4 (nI h) (nI S) τ = K l4 (nI (h + 1)) τ' ∧ (∀ x, x < 32 → τ'.2.2 64 x = nI (GG w 5 (h + 1) x)) ∧ Fr [] [(64, 64)] τ τ'
  | 0, _, _, _, h, _, _ => absurd h (Nat.not_lt_zero _)
  | fu + 1, 0, τ, _, _, hW, h0 => by
    refine ⟨τ, ?_, fun x hx => ?_, Fr.refl τ⟩
    · show fX9_wrong_0b45 K (fX9_wrong_0l45 K fu) l4 (nI h) (nI 0) τ = _
      unfold fX9_wrong_0b45 fX9_wrong_0b69
      rw [if_pos (show nI 0 ≤ 0 by decide), bd_e, n_add1]
    · rw [h0 x hx]
      by_cases c : 0 < x
      · rw [if_pos c]
      · have x0 : x = 0 := by omega
        subst x0
        have n0 : ∀ J, gvv (GG w 5 h) w h 0 J = GG w 5 h 0 := fun J => by
          induction J with
          | zero => rfl
          | succ J ih =>
            show (if (0 : Nat).testBit J = true then max (gvv (GG w 5 h) w h 0 J) (GG w 5 h (0 - 2 ^ J) + w J h) else gvv (GG w 5 h) w h 0 J) = _
            rw [Nat.zero_testBit, if_neg (by decide), ih]
        rw [if_neg c]
        show _ = nI (gvv (GG w 5 h) w h 0 5)
        rw [n0]
  | fu + 1, S + 1, τ, hS, hf, hW, h0 => by
    have gl : ∀ x, GG w 5 h x ≤ 1000 := fun x => by
      have := GG_le (K := 5) hw h x
      omega
    obtain ⟨g1, g2, g3⟩ := give_X (w := w) (g := GG w 5 h) (S := S + 1) (h := h) (τ := τ) hS hh hw gl hW (fun x hx => by rw [h0 x (by omega), if_neg (by omega)])
    obtain ⟨τ2, z1, z2, z3⟩ := wr45_l (K := K) (l4 := l4) hh hw fu S (fX9_giveOne_0 (nI (S + 1)) h τ) (by omega) (by omega) (fun t ht => by rw [g3.2 _ (q55' hh)]; exact hW t ht) (fun x hx => by
      by_cases c : x = S + 1
      · subst c
        rw [g1, if_pos (by omega)]
        rfl
      · rw [g2 x c, h0 x hx]
        by_cases d : S + 1 < x
        · rw [if_pos d, if_pos (by omega)]
        · rw [if_neg d, if_neg (by omega)])
    refine ⟨τ2, ?_, z2, g3.call z3 rfl rfl⟩
    rw [← z1]
    show fX9_wrong_0b45 K (fX9_wrong_0l45 K fu) l4 (nI h) (nI (S + 1)) τ = _
    unfold fX9_wrong_0b45
    rw [if_neg (show ¬ nI (S + 1) ≤ 0 from fun q => absurd ((leN (b := 0) (by omega) (by omega)).mp q) (by omega))]
    unfold fX9_wrong_0b50
    simp only [bd_e, show (nI h).toNatClampNeg = h from nI_clamp (by omega), y_m1, nI_pred]
theorem wr20_l {w : Nat → Nat → Nat} {p B : Nat} (hp : p ≤ 9) (hw : ∀ t k, w t k ≤ 48) : ∀ (fu d h : Nat) (τ : ST), h + d = p → d < fu → τ.1 10 = nI p → (∀ h, h < 9 → ∀ t, t < 5 → τ.2.2 (55 + h) t = nI (w t h)) → (∀ x, x < 32 → τ.2.2 64 x = nI (GG w 5 h x)) → ∃ τ', fX9_wrong_0l20 fu (nI B) (nI h) τ = (nI B - nI (GG w 5 p 31), τ') ∧ Fr [] [(64, 64)] τ τ'
  | 0, _, _, _, _, h, _, _, _ => absurd h (Nat.not_lt_zero _)
  | fu + 1, 0, h, τ, hd, _, h10, hW, h0 => by
    have eh : h = p := by omega
    subst eh
    refine ⟨τ, ?_, Fr.refl τ⟩
    show fX9_wrong_0b20 (fX9_wrong_0l20 fu) (nI B) (nI h) τ = _
    unfold fX9_wrong_0b20
    rw [bd_e, h10, if_pos ((leN (by omega) (by omega)).mpr (Nat.le_refl _))]
    unfold fX9_wrong_0b75
    rw [bd_e, bd_e, bd_e, show ((32 : Int32) - 1).toNatClampNeg = 31 by decide, h0 31 (by omega)]
  | fu + 1, d + 1, h, τ, hd, hf, h10, hW, h0 => by
    obtain ⟨τ1, y1, y2, y3⟩ := wr45_l (K := fX9_wrong_0l20 fu) (l4 := nI B) (h := h) (w := w) (by omega) hw 4096 31 τ (by omega) (by omega) (hW h (by omega)) (fun x hx => by rw [h0 x hx, if_neg (by omega)])
    obtain ⟨τ2, z1, z2⟩ := wr20_l (B := B) hp hw fu d (h + 1) τ1 (by omega) (by omega) ((y3.1 10 rfl).trans h10) (fun x hx t ht => by rw [y3.2 _ (q55' hx)]; exact hW x hx t ht) y2
    refine ⟨τ2, ?_, y3.call z2 rfl rfl⟩
    rw [← z1, ← y1]
    show fX9_wrong_0b20 (fX9_wrong_0l20 fu) (nI B) (nI h) τ = _
    unfold fX9_wrong_0b20
    rw [bd_e, h10, if_neg (fun q => absurd ((leN (by omega) (by omega)).mp q) (by omega))]
    unfold fX9_wrong_0b29
    rw [if_neg (show ¬ 9 ≤ nI h from fun q => absurd ((leN (a := 9) (by omega) (by omega)).mp q) (by omega))]
    unfold fX9_wrong_0b36
    rw [bd_e, show (32 : Int32) - 1 = nI 31 by decide]
theorem wrong_X {s : PSt} {a tr : Nat → Nat} {n N p : Nat} {σ : ST} (hs : s.1 = n) (hp : PCO s) (hC : CTS s a tr n N σ) (h10 : σ.1 10 = nI p) (hp9 : p ≤ 9) : ∃ τ', fX9_wrong_0 σ = (nI (tB s tr N) - nI (GG (fun t h => TG2 s a tr t h N) 5 p 31), τ') ∧ Fr [] [(55, 64)] σ τ' := by
  obtain ⟨τ1, y1, y2, y3⟩ := tog_X hs hp hC
  have hN := hC.1
  have f2 : Fr [] [(55, 64)] τ1 (sA τ1 64 (fun j => if j < 32 then 0 else τ1.2.2 64 j)) := (Fr.refl τ1).putA rfl
  obtain ⟨τ2, z1, z2⟩ := wr20_l (w := fun t h => TG2 s a tr t h N) (B := tB s tr N) hp9 (fun t k => TG2_le s a tr t k hN) 4096 p 0 (sA τ1 64 (fun j => if j < 32 then 0 else τ1.2.2 64 j)) (by omega) (by omega) ((y3.1 10 rfl).trans h10) (fun h hh t ht => by rw [sA_ne _ _ (beq_f (by omega))]; exact y2 h hh t ht) (fun x hx => by
    rw [sA_eq]
    show (if x < 32 then 0 else τ1.2.2 64 x) = nI 0
    rw [if_pos hx, nI_0])
  refine ⟨τ2, ?_, ((y3.wide rfl rfl).call f2 rfl rfl).call z2 rfl rfl⟩
  rw [← z1, nI_0]
  unfold fX9_wrong_0 fX9_wrong_0b0
  rw [bp_e, y1, bd_e]
