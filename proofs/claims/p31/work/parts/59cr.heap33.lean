/-! weight; the trace -/
theorem pmk {α β : Type} (p : α × β) : (p.1, p.2) = p := Eq.trans rfl rfl
theorem sL_eq (σ : ST) (k : Nat) (v : Int64) : (sL σ k v).2.1 k = v := by
  show cond (Nat.beq k k) v (σ.2.1 k) = v
  have e : Nat.beq k k = true := Nat.beq_eq.mpr rfl
  rw [e]
  rfl
theorem sL_22 (σ : ST) (k : Nat) (v : Int64) : (sL σ k v).2.2 = σ.2.2 := rfl
theorem sL_1 (σ : ST) (k : Nat) (v : Int64) : (sL σ k v).1 = σ.1 := rfl
/-- what a kind's body leaves in the trace -/
def WC (k : Nat) : Int64 := ([1, 11, 111, 1111, 10111, 100011, 1000011, 10000001] : List Int64).getD k 0
/-- what it answers, of a piece's rows, first number of its middle, spread, and voices -/
def WV (k : Nat) (n m sp K : Int32) : Int32 := if k = 0 then n else if k = 1 then n + m else if k = 2 then n + m + sp else if k = 3 then (n + m + sp + 1) / 2 else if k = 4 then (if 0 < n + m + sp - 3 then n + m + sp - 3 else 0) else if k = 5 then (n + m) / 3 else if k = 6 then n + m + 7 * K else n * n - n * n / 89 * 89
theorem i64_a (x : Int64) (a b c : Int64) (h : a + b = c) : x + a + b = x + c := by rw [Int64.add_assoc, h]
theorem em_X {n q : Nat} {s ρ : ST} (h5 : s.1 5 = nI n) (hn : n ≤ 48) (hq : q < n) (e1 : ρ.1 = s.1) (e2 : ρ.2.2 = s.2.2) : fX2_middleOf_0 (nI q) 0 ρ = s.2.2 15 (q * 4 + 0) := by
  have z := middleOf_X (σ := ρ) (n := n) (p := q) (k := 0) (by rw [e1]; exact h5) hn hq (by omega)
  rw [nI_0] at z
  rw [z, e2]
theorem span_X {q : Nat} {s ρ : ST} (hq : q < 48) (e2 : ρ.2.2 = s.2.2) : fX6_span_0 (nI q) ρ = (s.2.2 13 q, sL ρ 2 (ρ.2.1 2 + 1)) := by
  simp only [fX6_span_0, fX6_span_0b0, bd_e, show (nI q).toNatClampNeg = q from nI_clamp (by omega), sL_22, e2]
theorem voice_X {n q : Nat} {s ρ : ST} (h5 : s.1 5 = nI n) (hn : n ≤ 48) (hq : q < n) (e1 : ρ.1 = s.1) (e2 : ρ.2.2 = s.2.2) : fX6_voice_0 (nI q) ρ = (s.2.2 13 q + s.2.2 15 (q * 4 + 0), sL (sL ρ 2 (ρ.2.1 2 + 10)) 2 (ρ.2.1 2 + 10 + 1)) := by
  have z := span_X (q := q) (s := s) (ρ := sL ρ 2 (ρ.2.1 2 + 10)) (by omega) e2
  rw [sL_eq] at z
  have em := em_X (ρ := sL (sL ρ 2 (ρ.2.1 2 + 10)) 2 (ρ.2.1 2 + 10 + 1)) h5 hn hq e1 e2
  unfold fX6_voice_0 fX6_voice_0b0
  simp only [bd_e, bp_e, z, em]
theorem talk_X {n q : Nat} {s ρ : ST} (h5 : s.1 5 = nI n) (hn : n ≤ 48) (hq : q < n) (e1 : ρ.1 = s.1) (e2 : ρ.2.2 = s.2.2) : (fX6_talk_0 (nI q) ρ).1 = s.2.2 13 q + s.2.2 15 (q * 4 + 0) + s.2.2 14 q ∧ (fX6_talk_0 (nI q) ρ).2.2.1 2 = ρ.2.1 2 + 100 + 10 + 1 := by
  have z := voice_X (ρ := sL ρ 2 (ρ.2.1 2 + 100)) h5 hn hq e1 e2
  rw [sL_eq] at z
  unfold fX6_talk_0 fX6_talk_0b0
  simp only [bd_e, bp_e, z, show (nI q).toNatClampNeg = q from nI_clamp (by omega), sL_22, e2, sL_eq]
  exact ⟨trivial, trivial⟩
theorem pairL {a : Int32} {ρ : ST} {v w : Int64} (h : v = w) : ((a, sL ρ 2 v) : Int32 × ST).2.2.1 2 = w := by
  rw [← h]
  exact sL_eq ρ 2 v
theorem i64_1 (x : Int64) : x + 10 + 1 = x + 11 := i64_a x 10 1 11 (by decide)
theorem i64_2 (x : Int64) : x + 100 + 10 + 1 = x + 111 := by rw [i64_1]; exact i64_a x 100 11 111 (by decide)
theorem i64_3 (x : Int64) : x + 1000 + 100 + 10 + 1 = x + 1111 := by rw [i64_2]; exact i64_a x 1000 111 1111 (by decide)
theorem i64_4 (x : Int64) : x + 10000 + 100 + 10 + 1 = x + 10111 := by rw [i64_2]; exact i64_a x 10000 111 10111 (by decide)
theorem i64_5 (x : Int64) : x + 100000 + 10 + 1 = x + 100011 := by rw [i64_1]; exact i64_a x 100000 11 100011 (by decide)
theorem i64_6 (x : Int64) : x + 1000000 + 10 + 1 = x + 1000011 := by rw [i64_1]; exact i64_a x 1000000 11 1000011 (by decide)
theorem i64_7 (x : Int64) : x + 10000000 + 1 = x + 10000001 := i64_a x 10000000 1 10000001 (by decide)
theorem weigh0_X {n q : Nat} {K : Int32} {s : ST} (h5 : s.1 5 = nI n) (hn : n ≤ 48) (hq : q < n) : (fX6_weigh_0 (nI 0) (nI q) K s).1 = (s.2.2 13 q) ∧ (fX6_weigh_0 (nI 0) (nI q) K s).2.2.1 2 = s.2.1 2 + 1 := by
  have e : fX6_weigh_0 (nI 0) (nI q) K s = fX6_span_0 (nI q) s := by
    simp only [fX6_weigh_0, fX6_weigh_0b0, fX6_weigh_0b95, fX6_weigh_0b86, fX6_weigh_0b79, fX6_weigh_0b72, fX6_weigh_0b65, fX6_weigh_0b58, fX6_weigh_0b51, fX6_weigh_0b44, bp_e, pmk]
    rw [if_pos (show nI 0 = 0 by decide)]
  rw [e]
  rw [span_X (s := s) (by omega) rfl]
  exact ⟨rfl, pairL rfl⟩
theorem weigh1_X {n q : Nat} {K : Int32} {s : ST} (h5 : s.1 5 = nI n) (hn : n ≤ 48) (hq : q < n) : (fX6_weigh_0 (nI 1) (nI q) K s).1 = (s.2.2 13 q) + (s.2.2 15 (q * 4 + 0)) ∧ (fX6_weigh_0 (nI 1) (nI q) K s).2.2.1 2 = s.2.1 2 + 11 := by
  have e : fX6_weigh_0 (nI 1) (nI q) K s = fX6_voice_0 (nI q) s := by
    simp only [fX6_weigh_0, fX6_weigh_0b0, fX6_weigh_0b95, fX6_weigh_0b86, fX6_weigh_0b79, fX6_weigh_0b72, fX6_weigh_0b65, fX6_weigh_0b58, fX6_weigh_0b51, fX6_weigh_0b44, bp_e, pmk]
    rw [if_neg (show ¬ nI 1 = 0 by decide), if_pos (show nI 1 = 1 by decide)]
  rw [e]
  rw [voice_X h5 hn hq rfl rfl]
  exact ⟨rfl, pairL (i64_1 _)⟩
theorem weigh2_X {n q : Nat} {K : Int32} {s : ST} (h5 : s.1 5 = nI n) (hn : n ≤ 48) (hq : q < n) : (fX6_weigh_0 (nI 2) (nI q) K s).1 = (s.2.2 13 q) + (s.2.2 15 (q * 4 + 0)) + (s.2.2 14 q) ∧ (fX6_weigh_0 (nI 2) (nI q) K s).2.2.1 2 = s.2.1 2 + 111 := by
  have e : fX6_weigh_0 (nI 2) (nI q) K s = fX6_talk_0 (nI q) s := by
    simp only [fX6_weigh_0, fX6_weigh_0b0, fX6_weigh_0b95, fX6_weigh_0b86, fX6_weigh_0b79, fX6_weigh_0b72, fX6_weigh_0b65, fX6_weigh_0b58, fX6_weigh_0b51, fX6_weigh_0b44, bp_e, pmk]
    rw [if_neg (show ¬ nI 2 = 0 by decide), if_neg (show ¬ nI 2 = 1 by decide), if_pos (show nI 2 = 2 by decide)]
  rw [e]
  obtain ⟨z1, z2⟩ := talk_X (ρ := s) h5 hn hq rfl rfl
  rw [z1, z2]
  exact ⟨rfl, i64_2 _⟩
theorem weigh3_X {n q : Nat} {K : Int32} {s : ST} (h5 : s.1 5 = nI n) (hn : n ≤ 48) (hq : q < n) : (fX6_weigh_0 (nI 3) (nI q) K s).1 = ((s.2.2 13 q) + (s.2.2 15 (q * 4 + 0)) + (s.2.2 14 q) + 1) / 2 ∧ (fX6_weigh_0 (nI 3) (nI q) K s).2.2.1 2 = s.2.1 2 + 1111 := by
  have e : fX6_weigh_0 (nI 3) (nI q) K s = fX6_two_0 (nI q) s := by
    simp only [fX6_weigh_0, fX6_weigh_0b0, fX6_weigh_0b95, fX6_weigh_0b86, fX6_weigh_0b79, fX6_weigh_0b72, fX6_weigh_0b65, fX6_weigh_0b58, fX6_weigh_0b51, fX6_weigh_0b44, bp_e, pmk]
    rw [if_neg (show ¬ nI 3 = 0 by decide), if_neg (show ¬ nI 3 = 1 by decide), if_neg (show ¬ nI 3 = 2 by decide), if_pos (show nI 3 = 3 by decide)]
  rw [e]
  obtain ⟨z1, z2⟩ := talk_X (ρ := sL s 2 (s.2.1 2 + 1000)) h5 hn hq rfl rfl
  rw [sL_eq] at z2
  unfold fX6_two_0 fX6_two_0b0
  simp only [bd_e, bp_e]
  rw [z1, z2]
  exact ⟨rfl, i64_3 _⟩
theorem weigh4_X {n q : Nat} {K : Int32} {s : ST} (h5 : s.1 5 = nI n) (hn : n ≤ 48) (hq : q < n) : (fX6_weigh_0 (nI 4) (nI q) K s).1 = (if 0 < (s.2.2 13 q) + (s.2.2 15 (q * 4 + 0)) + (s.2.2 14 q) - 3 then (s.2.2 13 q) + (s.2.2 15 (q * 4 + 0)) + (s.2.2 14 q) - 3 else 0) ∧ (fX6_weigh_0 (nI 4) (nI q) K s).2.2.1 2 = s.2.1 2 + 10111 := by
  have e : fX6_weigh_0 (nI 4) (nI q) K s = fX6_brief_0 (nI q) s := by
    simp only [fX6_weigh_0, fX6_weigh_0b0, fX6_weigh_0b95, fX6_weigh_0b86, fX6_weigh_0b79, fX6_weigh_0b72, fX6_weigh_0b65, fX6_weigh_0b58, fX6_weigh_0b51, fX6_weigh_0b44, bp_e, pmk]
    rw [if_neg (show ¬ nI 4 = 0 by decide), if_neg (show ¬ nI 4 = 1 by decide), if_neg (show ¬ nI 4 = 2 by decide), if_neg (show ¬ nI 4 = 3 by decide), if_pos (show nI 4 = 4 by decide)]
  rw [e]
  obtain ⟨z1, z2⟩ := talk_X (ρ := sL s 2 (s.2.1 2 + 10000)) h5 hn hq rfl rfl
  rw [sL_eq] at z2
  unfold fX6_brief_0 fX6_brief_0b0
  simp only [bd_e, bp_e]
  rw [z1, z2]
  exact ⟨rfl, i64_4 _⟩
theorem weigh5_X {n q : Nat} {K : Int32} {s : ST} (h5 : s.1 5 = nI n) (hn : n ≤ 48) (hq : q < n) : (fX6_weigh_0 (nI 5) (nI q) K s).1 = ((s.2.2 13 q) + (s.2.2 15 (q * 4 + 0))) / 3 ∧ (fX6_weigh_0 (nI 5) (nI q) K s).2.2.1 2 = s.2.1 2 + 100011 := by
  have e : fX6_weigh_0 (nI 5) (nI q) K s = fX6_far_0 (nI q) s := by
    simp only [fX6_weigh_0, fX6_weigh_0b0, fX6_weigh_0b95, fX6_weigh_0b86, fX6_weigh_0b79, fX6_weigh_0b72, fX6_weigh_0b65, fX6_weigh_0b58, fX6_weigh_0b51, fX6_weigh_0b44, bp_e, pmk]
    rw [if_neg (show ¬ nI 5 = 0 by decide), if_neg (show ¬ nI 5 = 1 by decide), if_neg (show ¬ nI 5 = 2 by decide), if_neg (show ¬ nI 5 = 3 by decide), if_neg (show ¬ nI 5 = 4 by decide), if_pos (show nI 5 = 5 by decide)]
  rw [e]
  have z := voice_X (ρ := sL s 2 (s.2.1 2 + 100000)) h5 hn hq rfl rfl
  rw [sL_eq] at z
  unfold fX6_far_0 fX6_far_0b0
  simp only [bd_e, bp_e, z]
  exact ⟨trivial, pairL (a := 0) (i64_5 _)⟩
theorem weigh6_X {n q : Nat} {K : Int32} {s : ST} (h5 : s.1 5 = nI n) (hn : n ≤ 48) (hq : q < n) : (fX6_weigh_0 (nI 6) (nI q) K s).1 = (s.2.2 13 q) + (s.2.2 15 (q * 4 + 0)) + 7 * K ∧ (fX6_weigh_0 (nI 6) (nI q) K s).2.2.1 2 = s.2.1 2 + 1000011 := by
  have e : fX6_weigh_0 (nI 6) (nI q) K s = fX6_known_0 (nI q) K s := by
    simp only [fX6_weigh_0, fX6_weigh_0b0, fX6_weigh_0b95, fX6_weigh_0b86, fX6_weigh_0b79, fX6_weigh_0b72, fX6_weigh_0b65, fX6_weigh_0b58, fX6_weigh_0b51, fX6_weigh_0b44, bp_e, pmk]
    rw [if_neg (show ¬ nI 6 = 0 by decide), if_neg (show ¬ nI 6 = 1 by decide), if_neg (show ¬ nI 6 = 2 by decide), if_neg (show ¬ nI 6 = 3 by decide), if_neg (show ¬ nI 6 = 4 by decide), if_neg (show ¬ nI 6 = 5 by decide), if_pos (show nI 6 = 6 by decide)]
  rw [e]
  have z := voice_X (ρ := sL s 2 (s.2.1 2 + 1000000)) h5 hn hq rfl rfl
  rw [sL_eq] at z
  unfold fX6_known_0 fX6_known_0b0
  simp only [bd_e, bp_e, z]
  exact ⟨trivial, pairL (a := 0) (i64_6 _)⟩
theorem weigh7_X {n q : Nat} {K : Int32} {s : ST} (h5 : s.1 5 = nI n) (hn : n ≤ 48) (hq : q < n) : (fX6_weigh_0 (nI 7) (nI q) K s).1 = (s.2.2 13 q) * (s.2.2 13 q) - (s.2.2 13 q) * (s.2.2 13 q) / 89 * 89 ∧ (fX6_weigh_0 (nI 7) (nI q) K s).2.2.1 2 = s.2.1 2 + 10000001 := by
  have e : fX6_weigh_0 (nI 7) (nI q) K s = fX6_noise_0 (nI q) s := by
    simp only [fX6_weigh_0, fX6_weigh_0b0, fX6_weigh_0b95, fX6_weigh_0b86, fX6_weigh_0b79, fX6_weigh_0b72, fX6_weigh_0b65, fX6_weigh_0b58, fX6_weigh_0b51, fX6_weigh_0b44, bp_e, pmk]
    rw [if_neg (show ¬ nI 7 = 0 by decide), if_neg (show ¬ nI 7 = 1 by decide), if_neg (show ¬ nI 7 = 2 by decide), if_neg (show ¬ nI 7 = 3 by decide), if_neg (show ¬ nI 7 = 4 by decide), if_neg (show ¬ nI 7 = 5 by decide), if_neg (show ¬ nI 7 = 6 by decide)]
  rw [e]
  have z := span_X (s := s) (ρ := sL s 2 (s.2.1 2 + 10000000)) (show q < 48 by omega) rfl
  rw [sL_eq] at z
  unfold fX6_noise_0 fX6_noise_0b0
  simp only [bd_e, bp_e, z]
  exact ⟨trivial, pairL (a := 0) (i64_7 _)⟩
theorem weigh_X {n q k : Nat} {K : Int32} {s : ST} (h5 : s.1 5 = nI n) (hn : n ≤ 48) (hq : q < n) (hk : k < 8) : (fX6_weigh_0 (nI k) (nI q) K s).1 = WV k (s.2.2 13 q) (s.2.2 15 (q * 4 + 0)) (s.2.2 14 q) K ∧ (fX6_weigh_0 (nI k) (nI q) K s).2.2.1 2 = s.2.1 2 + WC k := by
  rcases (show k = 0 ∨ k = 1 ∨ k = 2 ∨ k = 3 ∨ k = 4 ∨ k = 5 ∨ k = 6 ∨ k = 7 by omega) with rfl | rfl | rfl | rfl | rfl | rfl | rfl | rfl
  · exact weigh0_X h5 hn hq
  · exact weigh1_X h5 hn hq
  · exact weigh2_X h5 hn hq
  · exact weigh3_X h5 hn hq
  · exact weigh4_X h5 hn hq
  · exact weigh5_X h5 hn hq
  · exact weigh6_X h5 hn hq
  · exact weigh7_X h5 hn hq
theorem weight_X {n : Nat} (k p : Int32) {σ : ST} (h : (fX11_cutNow_0 σ).1 5 = nI n) : fX11_weight_0 k p σ = if ¬ k < 0 ∧ ¬ 7 < k then (if PN p n then fX6_weigh_0 k p ((fX11_cutNow_0 σ).1 19) (fX11_cutNow_0 σ) else (-1, fX11_cutNow_0 σ)) else (-1, σ) := by
  have e7 : (8 : Int32) - 1 = 7 := by decide
  unfold fX11_weight_0 fX11_weight_0b0 fX11_weight_0b10 fX11_weight_0b18 fX11_weight_0b20
  simp only [bd_e, bp_e, within_X, ite01, e7, isPiece_X p σ h]
  by_cases c : ¬ k < 0 ∧ ¬ 7 < k
  · rw [if_neg (fun w => w c), if_pos (show ¬ k < 0 ∧ ¬ 7 < k from c)]
    by_cases d : PN p n
    · rw [if_neg (fun w => w d), if_pos (show PN p n from d)]
    · rw [if_pos d, if_neg (show ¬ PN p n from d)]
  · rw [if_pos c, if_neg (show ¬ (¬ k < 0 ∧ ¬ 7 < k) from c)]
theorem weight_M {n : Nat} (k p : Int32) {τ : ST} (h : (fX12_findPieces_0 τ).1 35 = nI n) : fX12_weight_0 k p τ = if ¬ k < 0 ∧ ¬ 7 < k then (if PN p n then fX12_weight_0b24 k p (fX12_findPieces_0 τ) else (-1, fX12_findPieces_0 τ)) else (-1, fX12_findPieces_0 τ) := by
  unfold fX12_weight_0 fX12_weight_0b0 fX12_weight_0b14 fX12_weight_0b22
  simp only [bd_e, in_M, ite01, isPiece_M p _ h]
  by_cases c : ¬ k < 0 ∧ ¬ 7 < k
  · rw [if_neg (fun w => w c), if_pos (show ¬ k < 0 ∧ ¬ 7 < k from c)]
    by_cases d : PN p n
    · rw [if_neg (fun w => w d), if_pos (show PN p n from d)]
    · rw [if_pos d, if_neg (show ¬ PN p n from d)]
  · rw [if_pos c, if_neg (show ¬ (¬ k < 0 ∧ ¬ 7 < k) from c)]
theorem weigh_M {q k t : Nat} {τ : ST} (hk : k < 8) (hq : q < 48) (ht : τ.2.2 76 q + τ.2.2 78 (4 * q) + τ.2.2 79 q = nI t) (ht2 : t < 2 ^ 30) : (fX12_weight_0b24 (nI k) (nI q) τ).1 = WV k (τ.2.2 76 q) (τ.2.2 78 (4 * q)) (τ.2.2 79 q) (τ.1 40) ∧ (fX12_weight_0b24 (nI k) (nI q) τ).2.2.1 3 = τ.2.1 3 + WC k ∧ (fX12_weight_0b24 (nI k) (nI q) τ).2.2.1 2 = τ.2.1 2 := by
  have nq : (nI q).toNatClampNeg = q := nI_clamp (by omega)
  have n4 : (nI (4 * q)).toNatClampNeg = 4 * q := nI_clamp (by omega)
  unfold fX12_weight_0b24
  simp only [bd_e, nq, n_4mul, n4]
  rcases (show k = 0 ∨ k = 1 ∨ k = 2 ∨ k = 3 ∨ k = 4 ∨ k = 5 ∨ k = 6 ∨ k = 7 by omega) with rfl | rfl | rfl | rfl | rfl | rfl | rfl | rfl
  · exact ⟨rfl, sL_eq _ _ _, rfl⟩
  · exact ⟨rfl, sL_eq _ _ _, rfl⟩
  · exact ⟨rfl, sL_eq _ _ _, rfl⟩
  · exact ⟨rfl, sL_eq _ _ _, rfl⟩
  · have e : ∀ ρ : ST, (if 3 ≤ nI t then fX12_weight_0b179 (nI t) ρ else fX12_weight_0b175 ρ) = (if 0 < nI t - 3 then nI t - 3 else 0, ρ) := fun ρ => by
      unfold fX12_weight_0b179 fX12_weight_0b175 fX12_weight_0b183
      simp only [bd_e]
      rcases Nat.lt_or_ge t 4 with w | w
      · rcases (show t = 0 ∨ t = 1 ∨ t = 2 ∨ t = 3 by omega) with rfl | rfl | rfl | rfl <;> rfl
      · rw [if_pos (show 3 ≤ nI t from (leN (a := 3) (by omega) (by omega)).mpr (by omega)), show nI t - 3 = nI (t - 3) from pk_sub (b := 3) (by omega), if_pos (show 0 < nI (t - 3) from (nI_ltI (a := 0) (by omega) (by omega)).mpr (by omega))]
    show (fX12_weight_0b157 (τ.2.2 76 q + τ.2.2 78 (4 * q) + τ.2.2 79 q) τ).1 = (if 0 < τ.2.2 76 q + τ.2.2 78 (4 * q) + τ.2.2 79 q - 3 then τ.2.2 76 q + τ.2.2 78 (4 * q) + τ.2.2 79 q - 3 else 0) ∧ (fX12_weight_0b157 (τ.2.2 76 q + τ.2.2 78 (4 * q) + τ.2.2 79 q) τ).2.2.1 3 = _ ∧ (fX12_weight_0b157 (τ.2.2 76 q + τ.2.2 78 (4 * q) + τ.2.2 79 q) τ).2.2.1 2 = _
    rw [ht]
    unfold fX12_weight_0b157
    simp only [bd_e, e]
    exact ⟨trivial, sL_eq _ _ _, rfl⟩
  · exact ⟨rfl, sL_eq _ _ _, rfl⟩
  · exact ⟨rfl, sL_eq _ _ _, rfl⟩
  · exact ⟨rfl, sL_eq _ _ _, rfl⟩
theorem a07 {k : Int32} (h : ¬ k < 0 ∧ ¬ 7 < k) : ∃ x : Nat, k = nI x ∧ x < 8 := by
  obtain ⟨n, hn, e⟩ := nI_of h.1
  have h2 := h.2
  subst e
  have h3 : n ≤ 7 := y_nlt (a := 7) (b := n) (by omega) hn h2
  exact ⟨n, rfl, by omega⟩
theorem weight_both {V : Nat → Nat} {H : Nat → Bool} {c c1 N : Nat} {σ σ1 σ2 : ST} {k p v1 v2 : Int32} (hK : KCU σ) (hF : FACT V H c c1 N σ) (hJ : JK σ) (hT : σ.2.1 2 = σ.2.1 3) (hLG : ∀ τ, (fX11_cutNow_0 τ).2.1 2 = τ.2.1 2 ∧ (fX11_cutNow_0 τ).2.1 3 = τ.2.1 3) (hLM : ∀ τ, (fX12_findPieces_0 τ).2.1 2 = τ.2.1 2 ∧ (fX12_findPieces_0 τ).2.1 3 = τ.2.1 3) (hL3 : (fX11_weight_0 k p σ).2.2.1 3 = σ.2.1 3) (x1 : fX11_weight_0 k p σ = (v1, σ1)) (f1 : Fr [(3, 8), (22, 22)] [(8, 19)] σ σ1) (x2 : fX12_weight_0 k p σ1 = (v2, σ2)) : v1 = v2 ∧ σ2.2.1 2 = σ2.2.1 3 := by
  obtain ⟨k1, k2, k3⟩ := cutNow_X hK
  obtain ⟨g1, g2⟩ := both_cut hK hF
  have hF1 := hF.fr f1 rfl
  obtain ⟨p1, p2⟩ := pieces_M hF1.1 hF1.2.2.2.2.2
  have n48 := g1.2.2.2.2
  have eX := weight_X k p (σ := σ) g1.1.1
  have eM := weight_M k p (τ := σ1) p1.1.1
  have s3 : σ1.2.1 3 = σ.2.1 3 := by rw [x1] at hL3; exact hL3
  rw [eM] at x2
  by_cases ck : ¬ k < 0 ∧ ¬ 7 < k
  · rw [if_pos ck] at x2
    rw [if_pos ck] at eX
    by_cases cp : PN p (CUT V H c N).1.1
    · rw [if_pos cp] at x2
      rw [if_pos cp] at eX
      obtain ⟨q, rfl, hq⟩ := cp.nat n48
      obtain ⟨x, rfl, hx⟩ := a07 ck
      obtain ⟨w1, w2⟩ := weigh_X (K := (fX11_cutNow_0 σ).1 19) (s := fX11_cutNow_0 σ) g1.1.1 n48 hq hx
      rw [← eX, x1] at w1 w2
      replace w1 : v1 = _ := w1
      replace w2 : σ1.2.1 2 = _ := w2
      obtain ⟨_, a2, a3, _, a5⟩ := g1.1.2.1 q hq
      obtain ⟨_, b2, b3, b5⟩ := p1.1.2 q hq
      have pq := CUT_pb V H c N q hq
      have m0 := MI_99 g2.2.2.2.2.1 hq (show 0 < 4 by omega)
      have hN := hF.2.2.2.2.1.1
      have sp : SP (cvW V ((CUT V H c N).1.2.1 q).1) ((CUT V H c N).1.2.1 q).2.1 ≤ 19008 := SP_le (by omega) (fun i hi j hj => (hF.2.2.2.2.1.2.2.2 (((CUT V H c N).1.2.1 q).1 + j) (by omega) (CUT_ph V H c N q hq _ (by omega) (by omega)) i hi).2)
      have b50 := b5 0 (by omega)
      have a50 := a5 0 (by omega)
      obtain ⟨y1, y2, y3⟩ := weigh_M (q := q) (k := x) (τ := fX12_findPieces_0 σ1) (t := ((CUT V H c N).1.2.1 q).2.1 + MI (cvW V ((CUT V H c N).1.2.1 q).1) ((CUT V H c N).1.2.1 q).2.1 0 + SP (cvW V ((CUT V H c N).1.2.1 q).1) ((CUT V H c N).1.2.1 q).2.1) hx (by omega) (by
        rw [b2, b3, show 4 * q = 4 * q + 0 from rfl, b50, nI_add, nI_add]) (by omega)
      rw [x2] at y1 y2 y3
      replace y1 : v2 = _ := y1
      replace y2 : σ2.2.1 3 = _ := y2
      replace y3 : σ2.2.1 2 = _ := y3
      obtain ⟨K, j1, j2, j3, _⟩ := hJ
      constructor
      · rw [w1, y1, a2, a3, b2, b3, a50, show 4 * q = 4 * q + 0 from rfl, b50, k3.1 19 rfl, p2.1 40 rfl, f1.1 40 rfl, j2, j3]
      · rw [y2, y3, (hLM σ1).1, (hLM σ1).2, w2, (hLG σ).1, hT, s3]
    · rw [if_neg cp] at x2
      rw [if_neg cp, x1] at eX
      have e1 := pin2 eX
      subst e1
      rw [← pin2 x2]
      exact ⟨(pin1 eX).trans (pin1 x2), by rw [(hLM _).1, (hLM _).2, (hLG _).1, (hLG _).2]; exact hT⟩
  · rw [if_neg ck] at x2
    rw [if_neg ck, x1] at eX
    have e1 := pin2 eX
    subst e1
    rw [← pin2 x2]
    exact ⟨(pin1 eX).trans (pin1 x2), by rw [(hLM _).1, (hLM _).2]; exact hT⟩
