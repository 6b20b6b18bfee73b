/-! the reference's way through all dealings out, for any loop that looks at them one by one -/
theorem gl_up {g i : Nat} {a : Nat → Nat} {n : Nat} {τ : ST} (hn : n ≤ 9) (hi : 1 ≤ i) (hin : i < n) (hA : RA a n τ) (h : hpi a i ≤ a i) : fX12_goOn_0l7 (g + 1) (nI (i + 1) - 1) τ = fX12_goOn_0l7 g (nI i - 1) τ := by
  obtain ⟨a1, a2⟩ := hA i hin
  rw [nI_pred]
  show fX12_goOn_0b7 (fX12_goOn_0l7 g) (nI i) τ = _
  unfold fX12_goOn_0b7 fX12_goOn_0b11 fX12_goOn_0b65
  simp only [bd_e, heapsIn_M (a := a) (show i ≤ 9 by omega) (fun j hj => hA j (by omega)), show (nI i).toNatClampNeg = i from nI_clamp (by omega), a1, y_m1]
  rw [if_neg (show ¬ nI i ≤ 0 from fun q => absurd ((leN (b := 0) (by omega) (by omega)).mp q) (by omega)), if_pos ((leN (by omega) (by omega)).mpr h)]
theorem gl_next {g i : Nat} {a b : Nat → Nat} {n : Nat} {τ : ST} (hn : n ≤ 9) (hi : 1 ≤ i) (hin : i < n) (h35 : τ.1 35 = nI n) (hA : RA a n τ) (h : a i < hpi a i) (h9 : a i < 9) (hb1 : ∀ j, j < i → b j = a j) (hb2 : b i = a i + 1) (hb3 : ∀ j, i < j → b j = 0) : ∃ τ', fX12_goOn_0l7 (g + 1) (nI (i + 1) - 1) τ = (1, τ') ∧ RA b n τ' ∧ Fr [] [(85, 85)] τ τ' := by
  obtain ⟨a1, a2⟩ := hA i hin
  have hp := hpi_le (a := a) i (fun k hk => (hA k (by omega)).2)
  have f1 : Fr [] [(85, 85)] τ (sA τ 85 (upd (τ.2.2 85) i (nI (a i + 1)))) := (Fr.refl τ).putA rfl
  obtain ⟨τ2, z1, z2, z3, z4⟩ := z42_l (K := fX12_goOn_0l7 g) hn 4096 (n - (i + 1)) (i + 1) (sA τ 85 (upd (τ.2.2 85) i (nI (a i + 1)))) (by omega) (by omega) h35
  have e : fX12_goOn_0l7 (g + 1) (nI (i + 1) - 1) τ = (1, τ2) := by
    rw [nI_pred, ← z1]
    show fX12_goOn_0b7 (fX12_goOn_0l7 g) (nI i) τ = _
    unfold fX12_goOn_0b7 fX12_goOn_0b11 fX12_goOn_0b28
    simp only [bd_e, heapsIn_M (a := a) (show i ≤ 9 by omega) (fun j hj => hA j (by omega)), show (nI i).toNatClampNeg = i from nI_clamp (by omega), a1, n_add1]
    rw [if_neg (show ¬ nI i ≤ 0 from fun q => absurd ((leN (b := 0) (by omega) (by omega)).mp q) (by omega)), if_neg (fun q => absurd ((leN (by omega) (by omega)).mp q) (by omega))]
  refine ⟨τ2, e, fun j hj => ?_, f1.call z4 rfl rfl⟩
  rcases Nat.lt_trichotomy j i with c | c | c
  · rw [z3 j (by omega), sA_eq, pk_un (by omega), hb1 j c]
    exact hA j hj
  · subst c
    rw [z3 j (by omega), sA_eq, pk_us, hb2]
    exact ⟨rfl, by omega⟩
  · rw [z2 j c hj, hb3 j c]
    exact ⟨nI_0.symm, Nat.zero_le _⟩
theorem gl_end {g i : Nat} (hi : i ≤ 1) (τ : ST) : fX12_goOn_0l7 (g + 1) (nI i - 1) τ = (0, τ) := by
  have c : nI i - 1 ≤ 0 := by
    rcases (show i = 0 ∨ i = 1 by omega) with rfl | rfl <;> decide
  show fX12_goOn_0b7 (fX12_goOn_0l7 g) (nI i - 1) τ = _
  unfold fX12_goOn_0b7 fX12_goOn_0b71
  rw [if_pos c]
/-- a loop that looks at one dealing out after the other -/
def EN (X : Type) (n : Nat) (lp : Nat → X → Int32 → ST → Int32 × ST) (st : X → (Nat → Nat) → X) (Q : ST → Prop) : Prop := (∀ τ τ', Q τ → Fr [] [(85, 85)] τ τ' → Q τ') ∧ (∀ τ, Q τ → τ.1 35 = nI n) ∧ ∀ fu s a τ, Q τ → RA a n τ → lp (fu + 1) s 1 τ = bp (fX12_goOn_0l7 4096 (nI n - 1) τ) fun v t => lp fu (st s a) v t
theorem enum_G {X : Type} {n : Nat} {lp : Nat → X → Int32 → ST → Int32 × ST} {st : X → (Nat → Nat) → X} {Q : ST → Prop} (hE : EN X n lp st Q) (hn : n ≤ 9) : ∀ (d i h : Nat) (a : Nat → Nat) (s : X) (τ : ST) (F : Nat), i + d = n → 1 ≤ i → hpi a i = h → h ≤ i → (∀ j, i ≤ j → a j = 0) → Q τ → RA a n τ → ∃ (a' : Nat → Nat) (τ' : ST) (g : Nat), lp (cnt d h + F) s 1 τ = bp (fX12_goOn_0l7 g (nI i - 1) τ') (fun v t => lp F ((lvs d i a).foldl st s) v t) ∧ 4096 ≤ g + d ∧ RA a' n τ' ∧ (∀ j, j < i → a' j = a j) ∧ Fr [] [(85, 85)] τ τ' := by
  intro d
  induction d with
  | zero =>
    intro i h a s τ F hd hi hh hhi hz hQ hA
    have ei : i = n := by omega
    subst ei
    refine ⟨a, τ, 4096, ?_, by omega, hA, fun _ _ => rfl, Fr.refl τ⟩
    rw [show cnt 0 h + F = F + 1 from Nat.add_comm 1 F]
    exact hE.2.2 F s a τ hQ hA
  | succ d ih =>
    intro i h a s τ F hd hi hh hhi hz hQ hA
    have inner : ∀ (k v : Nat) (s : X) (τ : ST), v + k = h → Q τ → RA (stA a i v) n τ → ∃ (a' : Nat → Nat) (τ' : ST) (g : Nat), lp (sumF (fun v => cnt d (max h (v + 1))) (k + 1) v + F) s 1 τ = bp (fX12_goOn_0l7 g (nI i - 1) τ') (fun v' t => lp F ((lvv (fun v => lvs d (i + 1) (stA a i v)) (k + 1) v).foldl st s) v' t) ∧ 4096 ≤ g + (d + 1) ∧ RA a' n τ' ∧ (∀ j, j < i → a' j = a j) ∧ Fr [] [(85, 85)] τ τ' := by
      intro k
      induction k with
      | zero =>
        intro v s τ hv hQ hA
        have pre : ∀ j, j < i → stA a i v j = a j := fun j hj => if_neg (by omega)
        have at_i : stA a i v i = v := if_pos rfl
        have hp : hpi (stA a i v) (i + 1) = max h (v + 1) := by
          show max (hpi (stA a i v) i) (stA a i v i + 1) = _
          rw [at_i, hpi_congr i pre, hh]
        obtain ⟨a1, τ1, g1, y1, y2, y3, y4, y6⟩ := ih (i + 1) (max h (v + 1)) (stA a i v) s τ (0 + F) (by omega) (by omega) hp (by omega) (fun j hj => (if_neg (show ¬ j = i by omega)).trans (hz j (by omega))) hQ hA
        obtain ⟨g2, rfl⟩ : ∃ g2, g1 = g2 + 1 := ⟨g1 - 1, by omega⟩
        have a1i : a1 i = v := (y4 i (by omega)).trans at_i
        have hp1 : hpi a1 i = h := (hpi_congr i (fun j hj => (y4 j (by omega)).trans (pre j hj))).trans hh
        refine ⟨a1, τ1, g2, ?_, by omega, y3, fun j hj => (y4 j (by omega)).trans (pre j hj), y6⟩
        have es : sumF (fun v => cnt d (max h (v + 1))) (0 + 1) v + F = cnt d (max h (v + 1)) + (0 + F) := Nat.add_assoc _ _ _
        have el : lvv (fun v => lvs d (i + 1) (stA a i v)) (0 + 1) v = lvs d (i + 1) (stA a i v) := List.append_nil _
        rw [es, y1, gl_up hn hi (by omega) y3 (by omega), Nat.zero_add, el]
      | succ k ihk =>
        intro v s τ hv hQ hA
        have pre : ∀ j, j < i → stA a i v j = a j := fun j hj => if_neg (by omega)
        have at_i : stA a i v i = v := if_pos rfl
        have hp : hpi (stA a i v) (i + 1) = max h (v + 1) := by
          show max (hpi (stA a i v) i) (stA a i v i + 1) = _
          rw [at_i, hpi_congr i pre, hh]
        obtain ⟨a1, τ1, g1, y1, y2, y3, y4, y6⟩ := ih (i + 1) (max h (v + 1)) (stA a i v) s τ (sumF (fun v => cnt d (max h (v + 1))) (k + 1) (v + 1) + F) (by omega) (by omega) hp (by omega) (fun j hj => (if_neg (show ¬ j = i by omega)).trans (hz j (by omega))) hQ hA
        obtain ⟨g2, rfl⟩ : ∃ g2, g1 = g2 + 1 := ⟨g1 - 1, by omega⟩
        have a1i : a1 i = v := (y4 i (by omega)).trans at_i
        have hp1 : hpi a1 i = h := (hpi_congr i (fun j hj => (y4 j (by omega)).trans (pre j hj))).trans hh
        have hQ1 := hE.1 τ τ1 hQ y6
        obtain ⟨τ2, w1, w2, w3⟩ := gl_next (g := g2) (i := i) (a := a1) (b := stA a i (v + 1)) (τ := τ1) hn hi (by omega) (hE.2.1 τ1 hQ1) y3 (by omega) (by omega) (fun j hj => (if_neg (show ¬ j = i by omega)).trans ((y4 j (by omega)).trans (pre j hj)).symm) ((if_pos rfl).trans (by rw [a1i])) (fun j hj => (if_neg (show ¬ j = i by omega)).trans (hz j (by omega)))
        obtain ⟨a3, τ3, g3, z1, z2, z3, z4, z6⟩ := ihk (v + 1) ((lvs d (i + 1) (stA a i v)).foldl st s) τ2 (by omega) (hE.1 τ1 τ2 hQ1 w3) w2
        refine ⟨a3, τ3, g3, ?_, z2, z3, z4, (y6.call w3 rfl rfl).call z6 rfl rfl⟩
        have es : sumF (fun v => cnt d (max h (v + 1))) (k + 1 + 1) v + F = cnt d (max h (v + 1)) + (sumF (fun v => cnt d (max h (v + 1))) (k + 1) (v + 1) + F) := Nat.add_assoc _ _ _
        have el : (lvv (fun v => lvs d (i + 1) (stA a i v)) (k + 1 + 1) v).foldl st s = (lvv (fun v => lvs d (i + 1) (stA a i v)) (k + 1) (v + 1)).foldl st ((lvs d (i + 1) (stA a i v)).foldl st s) := List.foldl_append
        rw [es, y1, w1, bp_e, el]
        exact z1
    have hst : stA a i 0 = a := by
      funext j
      show (if j = i then 0 else a j) = a j
      by_cases c : j = i
      · rw [if_pos c, c, hz i (Nat.le_refl _)]
      · rw [if_neg c]
    have z := inner h 0 s τ (by omega) hQ (by rw [hst]; exact hA)
    have el : lvs (d + 1) i a = lvv (fun v => lvs d (i + 1) (stA a i v)) (h + 1) 0 := by
      rw [← hh]
      rfl
    rw [el]
    exact z
theorem loop_G {X : Type} {n : Nat} {lp : Nat → X → Int32 → ST → Int32 × ST} {st : X → (Nat → Nat) → X} {Q : ST → Prop} (hE : EN X n lp st Q) (hn : n ≤ 9) (big : Nat) (hbig : 21149 ≤ big) (s : X) {τ : ST} (hQ : Q τ) (hA : RA (fun _ => 0) n τ) : ∃ (F : Nat) (τ' : ST), lp big s 1 τ = lp (F + 1) ((lvs n 0 (fun _ => 0)).foldl st s) 0 τ' ∧ Fr [] [(85, 85)] τ τ' := by
  rcases Nat.eq_zero_or_pos n with c | c
  · subst c
    obtain ⟨F, rfl⟩ : ∃ F, big = F + 1 + 1 := ⟨big - 2, by omega⟩
    refine ⟨F, τ, ?_, Fr.refl τ⟩
    rw [hE.2.2 (F + 1) s (fun _ => 0) τ hQ hA, gl_end (g := 4095) (i := 0) (by omega) τ, bp_e]
    rfl
  · obtain ⟨m, rfl⟩ : ∃ m, n = m + 1 := ⟨n - 1, by omega⟩
    have hc := cnt_le m (by omega)
    obtain ⟨F, hF⟩ : ∃ F, big = cnt m 1 + (F + 1) := ⟨big - cnt m 1 - 1, by omega⟩
    obtain ⟨a', τ', g, y1, y2, _, _, y6⟩ := enum_G hE hn m 1 1 (fun _ => 0) s τ (F + 1) (by omega) (by omega) rfl (by omega) (fun _ _ => rfl) hQ hA
    obtain ⟨g', rfl⟩ : ∃ g', g = g' + 1 := ⟨g - 1, by omega⟩
    refine ⟨F, τ', ?_, y6⟩
    have e0 : stA (fun _ => 0) 0 0 = fun _ => 0 := by
      funext j
      show (if j = 0 then 0 else 0) = 0
      by_cases c : j = 0
      · rw [if_pos c]
      · rw [if_neg c]
    have el : lvs (m + 1) 0 (fun _ => 0) = lvs m 1 (fun _ => 0) := by
      show lvs m (0 + 1) (stA (fun _ => 0) 0 0) ++ [] = _
      rw [e0, List.append_nil]
    rw [hF, y1, gl_end (g := g') (i := 1) (by omega) τ', bp_e, el]
theorem fv_fold {u : BB → (Nat → Nat) → BB} {f : Nat → BB → BB} {g : Nat → List (Nat → Nat)} (h : ∀ v C, f v C = (g v).foldl u C) : ∀ k v B, fv f k v B = (lvv g k v).foldl u B
  | 0, _, _ => rfl
  | k + 1, v, B => by
    show fv f k (v + 1) (f v B) = (g v ++ lvv g k (v + 1)).foldl u B
    rw [List.foldl_append, fv_fold h k (v + 1) (f v B), h v B]
theorem dfs_fold {L : Nat → Nat → Int32} {n : Nat} : ∀ d i h a B, hpi a i = h → dfs L n d i h a B = (lvs d i a).foldl (fun B x => bbu B (WO L x n) x) B
  | 0, _, _, _, _, _ => rfl
  | d + 1, i, h, a, B, hh => by
    subst hh
    refine fv_fold (g := fun v => lvs d (i + 1) (stA a i v)) (fun v C => dfs_fold d (i + 1) _ (stA a i v) C ?_) _ _ _
    show max (hpi (stA a i v) i) (stA a i v i + 1) = _
    rw [show stA a i v i = v from if_pos rfl, hpi_congr (a := stA a i v) (b := a) i (fun j hj => if_neg (show ¬ j = i by omega))]
theorem fold_in {L : Nat → Nat → Int32} {n : Nat} : ∀ (l : List (Nat → Nat)) (B : BB), (l.foldl (fun B x => bbu B (WO L x n) x) B) = B ∨ ∃ x, x ∈ l ∧ (l.foldl (fun B x => bbu B (WO L x n) x) B).2.1 = WO L x n
  | [], _ => Or.inl rfl
  | y :: l, B => by
    show (l.foldl (fun B x => bbu B (WO L x n) x) (bbu B (WO L y n) y)) = B ∨ ∃ x, x ∈ y :: l ∧ (l.foldl (fun B x => bbu B (WO L x n) x) (bbu B (WO L y n) y)).2.1 = WO L x n
    rcases fold_in (L := L) (n := n) l (bbu B (WO L y n) y) with z | ⟨x, x1, x2⟩
    · rw [z]
      unfold bbu
      by_cases c : B.1 = true ∧ WO L y n ≤ B.2.1
      · rw [if_pos c]
        exact Or.inl rfl
      · rw [if_neg c]
        exact Or.inr ⟨y, List.mem_cons_self, rfl⟩
    · exact Or.inr ⟨x, List.mem_cons_of_mem _ x1, x2⟩
/-- the best is one of all -/
theorem BEST_in (L : Nat → Nat → Int32) (n : Nat) : ∃ x, x ∈ lvs n 0 (fun _ => 0) ∧ (BEST L n).2.1 = WO L x n := by
  have e : BEST L n = (lvs n 0 (fun _ => 0)).foldl (fun B x => bbu B (WO L x n) x) (false, 0, fun _ => 0) := dfs_fold n 0 0 (fun _ => 0) _ rfl
  have t := BEST_t L n
  rcases fold_in (L := L) (n := n) (lvs n 0 (fun _ => 0)) (false, 0, fun _ => 0) with z | ⟨x, x1, x2⟩
  · rw [e, z] at t
    exact absurd t (by decide)
  · exact ⟨x, x1, by rw [e]; exact x2⟩
theorem lvs_RG {n : Nat} : ∀ d i a, i + d = n → RG a i → ∀ x, x ∈ lvs d i a → RG x n
  | 0, i, a, hi, ha, x, hx => by
    have ex : x = a := List.mem_singleton.mp hx
    have ei : i = n := by omega
    rw [ex, ← ei]
    exact ha
  | d + 1, i, a, hi, ha, x, hx => by
    have go : ∀ k v, (∀ u, v ≤ u → u < v + k → u ≤ hpi a i) → x ∈ lvv (fun v => lvs d (i + 1) (stA a i v)) k v → RG x n := by
      intro k
      induction k with
      | zero =>
        intro v _ h
        exact absurd h List.not_mem_nil
      | succ k ih =>
        intro v hv h
        rcases List.mem_append.mp h with z | z
        · refine lvs_RG d (i + 1) (stA a i v) (by omega) (fun j hj => ?_) x z
          have pre : ∀ j, j < i → stA a i v j = a j := fun j hj => if_neg (by omega)
          have at_i : stA a i v i = v := if_pos rfl
          rcases Nat.eq_or_lt_of_le (Nat.le_of_lt_succ hj) with c | c
          · subst c
            rw [at_i, hpi_congr j pre]
            exact hv v (Nat.le_refl _) (by omega)
          · exact (ha.congr pre) j c
        · exact ih (v + 1) (fun u h1 h2 => hv u (by omega) (by omega)) z
    exact go (hpi a i + 1) 0 (fun u _ h => by omega) hx
