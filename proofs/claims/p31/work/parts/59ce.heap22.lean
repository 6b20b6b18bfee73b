/-! the class's second way, all of it -/
theorem sm_one {f : Nat → Int32} {a : Nat} : ∀ n, a < n → (∀ k, k < n → k ≠ a → f k = 0) → sm f n = f a
  | 0, h, _ => absurd h (Nat.not_lt_zero _)
  | n + 1, h, h0 => by
    show sm f n + f n = f a
    by_cases c : a = n
    · rw [sm_0 n (fun k hk => h0 k (by omega) (by omega)), c, Int32.zero_add]
    · rw [sm_one n (by omega) (fun k hk => h0 k (by omega)), h0 n (by omega) (fun w => c w.symm), Int32.add_zero]
theorem SL_id {L : Nat → Nat → Int32} {n a b : Nat} (ha : a < n) (hb : b < n) : SL L n (fun p => p) a b = L a b := by
  unfold SL
  rw [sm_one n ha (fun p hp hpa => sm_0 n fun q hq => if_neg fun w => hpa w.1), sm_one n hb (fun q hq hqb => if_neg fun w => hqb w.2), if_pos ⟨rfl, rfl⟩]
theorem q31' {a : Nat} (h : a < 9) {J : List (Nat × Nat)} (e : ∀ x, x < 9 → inR J (31 + x) = true) : inR J (31 + a) = true := e a h
theorem jn19_l {K : Int32 → ST → ST} {L : Nat → Nat → Int32} {n a : Nat} (hn : n ≤ 9) (ha : a < n) : ∀ (fu d b : Nat) (τ : ST), b + d = n → d < fu → τ.1 9 = nI n → (∀ x y, x < n → y < n → x ≠ y → τ.2.2 (21 + x) y = L x y) → (∀ y, y < b → τ.2.2 (31 + a) y = τ.2.2 (21 + a) y) → ∃ τ', fX1_join_0l19 K fu (nI a) (nI b) τ = K (nI (a + 1)) τ' ∧ (∀ y, y < n → τ'.2.2 (31 + a) y = τ'.2.2 (21 + a) y) ∧ (∀ x y, x < 9 → x ≠ a → τ'.2.2 (31 + x) y = τ.2.2 (31 + x) y) ∧ Fr [] [(31, 39)] τ τ' := by
  intro fu
  induction fu with
  | zero =>
    intro d b τ _ h
    exact absurd h (Nat.not_lt_zero _)
  | succ fu ih =>
    intro d b τ hd hf h9 hL h0
    cases d with
    | zero =>
      have eb : b = n := by omega
      subst eb
      refine ⟨τ, ?_, h0, fun _ _ _ _ => rfl, Fr.refl τ⟩
      show fX1_join_0b19 K (fX1_join_0l19 K fu) (nI a) (nI b) τ = _
      unfold fX1_join_0b19 fX1_join_0b49
      simp only [bd_e, h9, n_add1]
      rw [if_pos ((leN (by omega) (by omega)).mpr (Nat.le_refl _))]
    | succ d =>
      have na : (nI a).toNatClampNeg = a := nI_clamp (by omega)
      have nb : (nI b).toNatClampNeg = b := nI_clamp (by omega)
      have e0 : fX1_join_0l19 K (fu + 1) (nI a) (nI b) τ = fX1_join_0l19 K fu (nI a) (nI (b + 1)) (sA τ (31 + a) (upd (τ.2.2 (31 + a)) b (τ.2.2 (21 + a) b))) := by
        show fX1_join_0b19 K (fX1_join_0l19 K fu) (nI a) (nI b) τ = _
        unfold fX1_join_0b19 fX1_join_0b27
        simp only [bd_e, h9, na, nb, n_add1]
        rw [if_neg (fun q => absurd ((leN (by omega) (by omega)).mp q) (by omega))]
      have q : inR [(31, 39)] (31 + a) = true := by
        rcases (show a = 0 ∨ a = 1 ∨ a = 2 ∨ a = 3 ∨ a = 4 ∨ a = 5 ∨ a = 6 ∨ a = 7 ∨ a = 8 by omega) with rfl | rfl | rfl | rfl | rfl | rfl | rfl | rfl | rfl <;> rfl
      have f1 : Fr [] [(31, 39)] τ (sA τ (31 + a) (upd (τ.2.2 (31 + a)) b (τ.2.2 (21 + a) b))) := (Fr.refl τ).putA q
      have n21 : ∀ x, x < 9 → (sA τ (31 + a) (upd (τ.2.2 (31 + a)) b (τ.2.2 (21 + a) b))).2.2 (21 + x) = τ.2.2 (21 + x) := fun x hx => sA_ne _ _ (beq_f (by omega))
      obtain ⟨τ2, z1, z2, z3, z4⟩ := ih d (b + 1) (sA τ (31 + a) (upd (τ.2.2 (31 + a)) b (τ.2.2 (21 + a) b))) (by omega) (by omega) h9 (fun x y hx hy hxy => by rw [n21 x (by omega)]; exact hL x y hx hy hxy) (fun y hy => by
        rw [n21 a (by omega), sA_eq]
        rcases Nat.eq_or_lt_of_le (Nat.le_of_lt_succ hy) with c | c
        · rw [c, pk_us]
        · rw [pk_un (by omega)]
          exact h0 y c)
      exact ⟨τ2, e0.trans z1, z2, fun x y hx hxa => by rw [z3 x y hx hxa, sA_ne _ _ (beq_f (by omega))], f1.call z4 rfl rfl⟩
theorem jn2_l {L : Nat → Nat → Int32} {n : Nat} (hn : n ≤ 9) : ∀ (fu d a : Nat) (τ : ST), a + d = n → d < fu → τ.1 9 = nI n → (∀ x y, x < n → y < n → x ≠ y → τ.2.2 (21 + x) y = L x y) → (∀ x, x < a → τ.2.2 46 x = nI x ∧ ∀ y, y < n → τ.2.2 (31 + x) y = τ.2.2 (21 + x) y) → ∃ τ', fX1_join_0l2 fu (nI a) τ = fX1_join_0b55 τ' ∧ (∀ x, x < n → τ'.2.2 46 x = nI x ∧ ∀ y, y < n → τ'.2.2 (31 + x) y = τ'.2.2 (21 + x) y) ∧ Fr [] [(31, 39), (46, 46)] τ τ' := by
  intro fu
  induction fu with
  | zero =>
    intro d a τ _ h
    exact absurd h (Nat.not_lt_zero _)
  | succ fu ih =>
    intro d a τ hd hf h9 hL h0
    cases d with
    | zero =>
      have ea : a = n := by omega
      subst ea
      refine ⟨τ, ?_, h0, Fr.refl τ⟩
      show fX1_join_0b2 (fX1_join_0l2 fu) (nI a) τ = _
      unfold fX1_join_0b2
      simp only [bd_e, h9]
      rw [if_pos ((leN (by omega) (by omega)).mpr (Nat.le_refl _))]
    | succ d =>
      have na : (nI a).toNatClampNeg = a := nI_clamp (by omega)
      have f0 : Fr [] [(31, 39), (46, 46)] τ (sA τ 46 (upd (τ.2.2 46) a (nI a))) := (Fr.refl τ).putA rfl
      have n21 : ∀ x, x < 9 → (sA τ 46 (upd (τ.2.2 46) a (nI a))).2.2 (21 + x) = τ.2.2 (21 + x) := fun x hx => sA_ne _ _ (beq_f (by omega))
      have n31 : ∀ x, x < 9 → (sA τ 46 (upd (τ.2.2 46) a (nI a))).2.2 (31 + x) = τ.2.2 (31 + x) := fun x hx => sA_ne _ _ (beq_f (by omega))
      obtain ⟨τ1, y1, y2, y3, y4⟩ := jn19_l (K := fX1_join_0l2 fu) (L := L) hn (show a < n by omega) 4096 n 0 (sA τ 46 (upd (τ.2.2 46) a (nI a))) (by omega) (by omega) h9 (fun x y hx hy hxy => by rw [n21 x (by omega)]; exact hL x y hx hy hxy) (fun y hy => absurd hy (Nat.not_lt_zero _))
      have q21 : ∀ x, x < 9 → inR [(31, 39)] (21 + x) = false := fun x hx => by
        rcases (show x = 0 ∨ x = 1 ∨ x = 2 ∨ x = 3 ∨ x = 4 ∨ x = 5 ∨ x = 6 ∨ x = 7 ∨ x = 8 by omega) with rfl | rfl | rfl | rfl | rfl | rfl | rfl | rfl | rfl <;> rfl
      have e0 : fX1_join_0l2 (fu + 1) (nI a) τ = fX1_join_0l2 fu (nI (a + 1)) τ1 := by
        rw [← y1, nI_0]
        show fX1_join_0b2 (fX1_join_0l2 fu) (nI a) τ = _
        unfold fX1_join_0b2 fX1_join_0b10
        simp only [bd_e, h9, na]
        rw [if_neg (fun q => absurd ((leN (by omega) (by omega)).mp q) (by omega))]
      have f1 : Fr [] [(31, 39), (46, 46)] τ τ1 := f0.call y4 rfl rfl
      obtain ⟨τ2, z1, z2, z3⟩ := ih d (a + 1) τ1 (by omega) (by omega) ((f1.1 9 rfl).trans h9) (fun x y hx hy hxy => by rw [y4.2 _ (q21 x (by omega)), n21 x (by omega)]; exact hL x y hx hy hxy) (fun x hx => by
        rcases Nat.eq_or_lt_of_le (Nat.le_of_lt_succ hx) with c | c
        · subst c
          refine ⟨?_, y2⟩
          rw [y4.2 46 rfl, sA_eq, pk_us]
        · refine ⟨?_, fun y hy => ?_⟩
          · rw [y4.2 46 rfl, sA_eq, pk_un (by omega)]
            exact (h0 x c).1
          · rw [y3 x y (by omega) (by omega), n31 x (by omega), y4.2 _ (q21 x (by omega)), n21 x (by omega)]
            exact (h0 x c).2 y hy)
      exact ⟨τ2, e0.trans z1, z2, f1.call z3 rfl rfl⟩
theorem jn59_l {L : Nat → Nat → Int32} {n : Nat} (hn : n ≤ 9) (hs : ∀ x y, x < n → y < n → L x y = L y x) : ∀ (k fu t : Nat) (g : Nat → Nat) (τ : ST), t + k = n → k + 1 < fu → LST1 n g → JST L n g τ → ∃ τ', fX1_join_0l59 fu 1 (nI t) τ = fX1_join_0b83 τ' ∧ JST L n (jl L n k g) τ' ∧ Fr [] [(31, 39), (46, 46)] τ τ' := by
  intro k
  induction k with
  | zero =>
    intro fu t g τ ht hf hS hJ
    obtain ⟨fu, rfl⟩ : ∃ f, fu = f + 1 := ⟨fu - 1, by omega⟩
    have et : t = n := by omega
    subst et
    refine ⟨τ, ?_, hJ, Fr.refl τ⟩
    show fX1_join_0b59 (fX1_join_0l59 fu) 1 (nI t) τ = _
    unfold fX1_join_0b59
    simp only [bd_e, hJ.1]
    rw [if_pos ((leN (by omega) (by omega)).mpr (Nat.le_refl _))]
  | succ k ih =>
    intro fu t g τ ht hf hS hJ
    obtain ⟨fu, rfl⟩ : ∃ f, fu = f + 1 + 1 := ⟨fu - 2, by omega⟩
    obtain ⟨j1, j2⟩ := joinTwo_X hn hs hS hJ
    have el : jl L n (k + 1) g = if (PICK (SL L n g) n g).1 = true then jl L n k (jn g (PICK (SL L n g) n g).2.1 (PICK (SL L n g) n g).2.2.1) else g := rfl
    have eA : ∀ v τ1, fX1_joinTwo_0 τ = (v, τ1) → fX1_join_0l59 (fu + 1 + 1) 1 (nI t) τ = fX1_join_0l59 (fu + 1) v (nI (t + 1)) τ1 := fun v τ1 e => by
      show fX1_join_0b59 (fX1_join_0l59 (fu + 1)) 1 (nI t) τ = _
      unfold fX1_join_0b59 fX1_join_0b67 fX1_join_0b71
      simp only [bd_e, bp_e, hJ.1, e, n_add1]
      rw [if_neg (fun q => absurd ((leN (by omega) (by omega)).mp q) (by omega)), if_neg (show ¬ (1 : Int32) = 0 by decide)]
    by_cases c : (PICK (SL L n g) n g).1 = true
    · obtain ⟨τ1, y1, y2, y3⟩ := j1 c
      obtain ⟨p1, _, p3, _⟩ := PICK_ok (SL L n g) n g c
      obtain ⟨τ2, z1, z2, z3⟩ := ih (fu + 1) (t + 1) _ τ1 (by omega) (by omega) (hS.join p1 p3) y2
      rw [el, if_pos c]
      exact ⟨τ2, (eA 1 τ1 y1).trans z1, z2, y3.call z3 rfl rfl⟩
    · rw [el, if_neg c]
      refine ⟨τ, ?_, hJ, Fr.refl τ⟩
      rw [eA 0 τ (j2 c)]
      show fX1_join_0b59 (fX1_join_0l59 fu) 0 (nI (t + 1)) τ = _
      unfold fX1_join_0b59 fX1_join_0b67
      simp only [bd_e, hJ.1]
      by_cases d : nI n ≤ nI (t + 1)
      · rw [if_pos d]
      · rw [if_neg d, if_pos trivial]
theorem nh16_l {n : Nat} {g : Nat → Nat} (hn : n ≤ 9) (hS : LST1 n g) : ∀ (fu d p : Nat) (τ : ST), p + d = n → d < fu → τ.1 17 = nI (rc g p) → (∀ j, j < n → τ.2.2 46 j = nI (if j < p then JN g j else g j)) → (∀ v, v < 9 → τ.2.2 47 v = if v < p ∧ g v = v then nI (rc g v) else -9) → ∃ τ', fX4_numberHeaps_0l16 fu (nI n) (nI p) τ = τ' ∧ τ'.1 17 = nI (rc g n) ∧ (∀ j, j < n → τ'.2.2 46 j = nI (JN g j)) ∧ Fr [(17, 17)] [(46, 47)] τ τ' := by
  intro fu
  induction fu with
  | zero =>
    intro d p τ _ h
    exact absurd h (Nat.not_lt_zero _)
  | succ fu ih =>
    intro d p τ hd hf h17 h46 h47
    have e0 : fX4_numberHeaps_0l16 (fu + 1) (nI n) (nI p) τ = fX4_numberHeaps_0b16 (fX4_numberHeaps_0l16 fu) (nI n) (nI p) τ := rfl
    cases d with
    | zero =>
      have ep : p = n := by omega
      subst ep
      refine ⟨τ, ?_, h17, fun j hj => by rw [h46 j hj, if_pos hj], Fr.refl τ⟩
      rw [e0]
      unfold fX4_numberHeaps_0b16 fX4_numberHeaps_0b107
      rw [if_pos ((leN (by omega) (by omega)).mpr (Nat.le_refl _))]
    | succ d =>
      have hp : p < n := by omega
      obtain ⟨s1, s2⟩ := hS p hp
      have np : (nI p).toNatClampNeg = p := nI_clamp (by omega)
      have ngp : (nI (g p)).toNatClampNeg = g p := nI_clamp (by omega)
      have e46 : τ.2.2 46 p = nI (g p) := by rw [h46 p hp, if_neg (Nat.lt_irrefl _)]
      have e47 := h47 (g p) (by omega)
      have rl := rc_le g p
      have eA : fX4_numberHeaps_0l16 (fu + 1) (nI n) (nI p) τ = if τ.2.2 47 (g p) = -9 then fX4_numberHeaps_0b55 (fX4_numberHeaps_0l16 fu) (nI n) (nI p) (nI (g p)) τ else fX4_numberHeaps_0b75 (fX4_numberHeaps_0l16 fu) (nI n) (nI p) (nI (g p)) τ := by
        rw [e0]
        unfold fX4_numberHeaps_0b16 fX4_numberHeaps_0b21 fX4_numberHeaps_0b27 fX4_numberHeaps_0b38 fX4_numberHeaps_0b44
        simp only [bd_e, np, e46, ngp]
        rw [if_neg (fun q => absurd ((leN (by omega) (by omega)).mp q) (by omega)), if_neg (show ¬ 9 ≤ nI p from fun q => absurd ((leN (a := 9) (by omega) (by omega)).mp q) (by omega)), if_neg (nI_pos (by omega)), if_neg (show ¬ 9 ≤ nI (g p) from fun q => absurd ((leN (a := 9) (by omega) (by omega)).mp q) (by omega))]
      have e75 : ∀ ρ : ST, fX4_numberHeaps_0b75 (fX4_numberHeaps_0l16 fu) (nI n) (nI p) (nI (g p)) ρ = fX4_numberHeaps_0l16 fu (nI n) (nI (p + 1)) (sA ρ 46 (upd (ρ.2.2 46) p (ρ.2.2 47 (g p)))) := fun ρ => by
        unfold fX4_numberHeaps_0b75 fX4_numberHeaps_0b84 fX4_numberHeaps_0b90 fX4_numberHeaps_0b100
        simp only [bd_e, np, ngp, n_add1]
        rw [if_neg (nI_pos (by omega)), if_neg (show ¬ 9 ≤ nI (g p) from fun q => absurd ((leN (a := 9) (by omega) (by omega)).mp q) (by omega))]
      have er : rc g (p + 1) = rc g p + (if g p = p then 1 else 0) := rfl
      by_cases c : g p = p
      · have e47' : τ.2.2 47 (g p) = -9 := by rw [e47, if_neg (fun w => by omega)]
        rw [if_pos c] at er
        generalize g1 : sI (sA τ 47 (upd (τ.2.2 47) p (nI (rc g p)))) 17 (nI (rc g (p + 1))) = τ1
        have f1 : Fr [(17, 17)] [(46, 47)] τ τ1 := by
          rw [← g1]
          exact ((Fr.refl τ).putA rfl).putI rfl
        have a47 : τ1.2.2 47 = upd (τ.2.2 47) p (nI (rc g p)) := by rw [← g1, sI_22, sA_eq]
        have a46 : τ1.2.2 46 = τ.2.2 46 := by rw [← g1, sI_22, sA_ne _ _ rfl]
        have eB : fX4_numberHeaps_0l16 (fu + 1) (nI n) (nI p) τ = fX4_numberHeaps_0l16 fu (nI n) (nI (p + 1)) (sA τ1 46 (upd (τ.2.2 46) p (nI (rc g p)))) := by
          rw [eA, if_pos e47']
          have e55 : fX4_numberHeaps_0b55 (fX4_numberHeaps_0l16 fu) (nI n) (nI p) (nI (g p)) τ = fX4_numberHeaps_0b75 (fX4_numberHeaps_0l16 fu) (nI n) (nI p) (nI (g p)) τ1 := by
            unfold fX4_numberHeaps_0b55
            simp only [bd_e, ngp, h17, sA_1, n_add1]
            rw [c, ← er, g1]
          rw [e55, e75, a46, a47, c, pk_us]
        have f2 : Fr [(17, 17)] [(46, 47)] τ (sA τ1 46 (upd (τ.2.2 46) p (nI (rc g p)))) := f1.putA rfl
        obtain ⟨τ2, z1, z2, z3, z4⟩ := ih d (p + 1) (sA τ1 46 (upd (τ.2.2 46) p (nI (rc g p)))) (by omega) (by omega) (show τ1.1 17 = _ by rw [← g1, sI_eq]) (fun j hj => by
          rw [sA_eq]
          by_cases e : j = p
          · rw [e, pk_us, if_pos (by omega)]
            unfold JN
            rw [c]
          · rw [pk_un e, h46 j hj]
            by_cases l : j < p
            · rw [if_pos l, if_pos (by omega)]
            · rw [if_neg l, if_neg (by omega)]) (fun v hv => by
          rw [sA_ne _ _ rfl, a47]
          by_cases e : v = p
          · rw [e, pk_us, if_pos ⟨by omega, c⟩]
          · rw [pk_un e, h47 v hv]
            by_cases l : v < p ∧ g v = v
            · rw [if_pos l, if_pos ⟨by omega, l.2⟩]
            · rw [if_neg l, if_neg (fun w => l ⟨by omega, w.2⟩)])
        exact ⟨τ2, eB.trans z1, z2, z3, f2.call z4 rfl rfl⟩
      · have e47' : τ.2.2 47 (g p) = nI (rc g (g p)) := by rw [e47, if_pos ⟨by omega, s2⟩]
        have rl2 := rc_le g (g p)
        rw [if_neg c, Nat.add_zero] at er
        have eB : fX4_numberHeaps_0l16 (fu + 1) (nI n) (nI p) τ = fX4_numberHeaps_0l16 fu (nI n) (nI (p + 1)) (sA τ 46 (upd (τ.2.2 46) p (nI (rc g (g p))))) := by
          rw [eA, e47', if_neg (neg9_nI (by omega)), e75, e47']
        have f2 : Fr [(17, 17)] [(46, 47)] τ (sA τ 46 (upd (τ.2.2 46) p (nI (rc g (g p))))) := (Fr.refl τ).putA rfl
        obtain ⟨τ2, z1, z2, z3, z4⟩ := ih d (p + 1) (sA τ 46 (upd (τ.2.2 46) p (nI (rc g (g p))))) (by omega) (by omega) (by rw [er]; exact h17) (fun j hj => by
          rw [sA_eq]
          by_cases e : j = p
          · rw [e, pk_us, if_pos (by omega)]
            rfl
          · rw [pk_un e, h46 j hj]
            by_cases l : j < p
            · rw [if_pos l, if_pos (by omega)]
            · rw [if_neg l, if_neg (by omega)]) (fun v hv => by
          rw [sA_ne _ _ rfl, h47 v hv]
          by_cases l : v < p ∧ g v = v
          · rw [if_pos l, if_pos ⟨by omega, l.2⟩]
          · rw [if_neg l, if_neg (fun w => l ⟨by
              rcases Nat.eq_or_lt_of_le (Nat.le_of_lt_succ w.1) with q | q
              · rw [q] at w
                exact absurd w.2 c
              · exact q, w.2⟩)])
        exact ⟨τ2, eB.trans z1, z2, z3, f2.call z4 rfl rfl⟩
