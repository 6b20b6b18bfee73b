/-! the piece of a row; dealings out that are numbered as they come -/
def PCO (s : PSt) : Prop := ∀ r, s.2.2 r = -9 ∨ ∃ q, q < s.1 ∧ s.2.2 r = nI q ∧ (s.2.1 q).1 ≤ r ∧ r < (s.2.1 q).1 + (s.2.1 q).2.1
theorem addP_po {s : PSt} {i l t : Nat} (h : PCO s) : PCO (addP s i l t) := fun r => by
  have e1 : ∀ q, (addP s i l t).2.1 q = if q = s.1 then (i, l, t) else s.2.1 q := fun _ => rfl
  have e2 : (addP s i l t).2.2 r = if i ≤ r ∧ r < i + l then nI s.1 else s.2.2 r := rfl
  have e0 : (addP s i l t).1 = s.1 + 1 := rfl
  rw [e2]
  by_cases c : i ≤ r ∧ r < i + l
  · rw [if_pos c]
    exact Or.inr ⟨s.1, by omega, rfl, by rw [e1, if_pos rfl]; exact c.1, by rw [e1, if_pos rfl]; exact c.2⟩
  · rw [if_neg c]
    rcases h r with z | ⟨q, z1, z2, z3, z4⟩
    · exact Or.inl z
    · exact Or.inr ⟨q, by omega, z2, by rw [e1, if_neg (by omega)]; exact z3, by rw [e1, if_neg (by omega)]; exact z4⟩
theorem pcs_po {T : Nat → Nat} {t b : Nat} : ∀ g i (s : PSt), PCO s → PCO (pcs T t b g i s)
  | 0, _, _, h => h
  | g + 1, i, s, h => by
    show PCO (if b ≤ i then s else pcs T t b g (i + T i) (addP s i (T i) t))
    by_cases c : b ≤ i
    · rw [if_pos c]
      exact h
    · rw [if_neg c]
      exact pcs_po g _ _ (addP_po h)
theorem cutS_po (V : Nat → Nat) (H : Nat → Bool) (c N : Nat) : ∀ f l s st tot hd, PCO s → PCO (cutS V H c N f l s st tot hd).1
  | 0, _, _, _, _, _, h => h
  | f + 1, l, s, st, tot, hd, h => by
    have es : cutS V H c N (f + 1) l s st tot hd = if N ≤ l then (s, st, tot, hd) else if eh H N N l ≤ l then cutS V H c N f (l + 1) s st tot hd else cutS V H c N f (eh H N N l + 1) (pcs (cs V c (eh H N N l) (eh H N N l - l)).2 st (eh H N N l) (eh H N N l - l + 1) l s) (st + 1) (tot + (cs V c (eh H N N l) (eh H N N l - l)).1 l) (hd + (eh H N N l - l)) := rfl
    rw [es]
    by_cases q : N ≤ l
    · rw [if_pos q]
      exact h
    · rw [if_neg q]
      by_cases d : eh H N N l ≤ l
      · rw [if_pos d]
        exact cutS_po V H c N f _ _ _ _ _ h
      · rw [if_neg d]
        exact cutS_po V H c N f _ _ _ _ _ (pcs_po _ _ _ h)
theorem CUT_po (V : Nat → Nat) (H : Nat → Bool) (c N : Nat) : PCO (CUT V H c N).1 := cutS_po V H c N _ _ _ _ _ _ fun _ => Or.inl rfl
/-- pieces lie behind one another -/
def ORD (s : PSt) (i : Nat) : Prop := (∀ q, q < s.1 → ∀ r, (s.2.1 q).1 ≤ r → r < (s.2.1 q).1 + (s.2.1 q).2.1 → s.2.2 r = nI q) ∧ ∀ q, q < s.1 → (s.2.1 q).1 + (s.2.1 q).2.1 ≤ i
theorem addP_or {s : PSt} {i l t : Nat} (h : ORD s i) : ORD (addP s i l t) (i + l) := by
  have e1 : ∀ q, (addP s i l t).2.1 q = if q = s.1 then (i, l, t) else s.2.1 q := fun _ => rfl
  have e2 : ∀ r, (addP s i l t).2.2 r = if i ≤ r ∧ r < i + l then nI s.1 else s.2.2 r := fun _ => rfl
  have e0 : (addP s i l t).1 = s.1 + 1 := rfl
  refine ⟨fun q hq r h1 h2 => ?_, fun q hq => ?_⟩
  · rw [e0] at hq
    rw [e1] at h1 h2
    rw [e2]
    by_cases c : q = s.1
    · rw [if_pos c] at h1 h2
      rw [if_pos ⟨h1, h2⟩, c]
    · rw [if_neg c] at h1 h2
      have z := h.2 q (by omega)
      rw [if_neg (by omega)]
      exact h.1 q (by omega) r h1 h2
  · rw [e0] at hq
    rw [e1]
    by_cases c : q = s.1
    · rw [if_pos c]
      exact Nat.le_refl _
    · rw [if_neg c]
      have z := h.2 q (by omega)
      omega
theorem ORD.le {s : PSt} {i j : Nat} (h : ORD s i) (hj : i ≤ j) : ORD s j := ⟨h.1, fun q hq => Nat.le_trans (h.2 q hq) hj⟩
theorem pcs_or {T : Nat → Nat} {t a b : Nat} (hT : ∀ i, a ≤ i → i < b → 1 ≤ T i ∧ i + T i ≤ b) : ∀ g i (s : PSt), a ≤ i → i ≤ b → ORD s i → ORD (pcs T t b g i s) b
  | 0, i, s, _, h2, h => h.le h2
  | g + 1, i, s, h1, h2, h => by
    show ORD (if b ≤ i then s else pcs T t b g (i + T i) (addP s i (T i) t)) b
    by_cases c : b ≤ i
    · rw [if_pos c]
      exact h.le h2
    · rw [if_neg c]
      obtain ⟨t1, t2⟩ := hT i h1 (by omega)
      exact pcs_or hT g (i + T i) _ (by omega) t2 (addP_or h)
theorem cutS_or (V : Nat → Nat) (H : Nat → Bool) (c N : Nat) : ∀ f l s st tot hd, ORD s l → ∃ j, ORD (cutS V H c N f l s st tot hd).1 j
  | 0, l, _, _, _, _, h => ⟨l, h⟩
  | f + 1, l, s, st, tot, hd, h => by
    have es : cutS V H c N (f + 1) l s st tot hd = if N ≤ l then (s, st, tot, hd) else if eh H N N l ≤ l then cutS V H c N f (l + 1) s st tot hd else cutS V H c N f (eh H N N l + 1) (pcs (cs V c (eh H N N l) (eh H N N l - l)).2 st (eh H N N l) (eh H N N l - l + 1) l s) (st + 1) (tot + (cs V c (eh H N N l) (eh H N N l - l)).1 l) (hd + (eh H N N l - l)) := rfl
    rw [es]
    by_cases q : N ≤ l
    · rw [if_pos q]
      exact ⟨l, h⟩
    · rw [if_neg q]
      by_cases d : eh H N N l ≤ l
      · rw [if_pos d]
        exact cutS_or V H c N f _ _ _ _ _ (h.le (by omega))
      · rw [if_neg d]
        exact cutS_or V H c N f _ _ _ _ _ ((pcs_or (fun i a b => cs_T V c (eh H N N l) (eh H N N l - l) (by omega) i (by omega) b) _ l s (Nat.le_refl _) (by omega) h).le (by omega))
theorem CUT_row (V : Nat → Nat) (H : Nat → Bool) (c N : Nat) {q : Nat} (hq : q < (CUT V H c N).1.1) : (CUT V H c N).1.2.2 ((CUT V H c N).1.2.1 q).1 = nI q := by
  obtain ⟨j, h⟩ := cutS_or V H c N (N + 1) 0 (0, fun _ => (0, 0, 0), fun _ => -9) 0 0 0 ⟨fun q hq => absurd hq (Nat.not_lt_zero _), fun q hq => absurd hq (Nat.not_lt_zero _)⟩
  have p := (CUT_pb V H c N q hq).1
  exact h.1 q hq _ (Nat.le_refl _) (Nat.lt_add_of_pos_right p)
/-- heaps are numbered as they come -/
def RG (a : Nat → Nat) (n : Nat) : Prop := ∀ j, j < n → a j ≤ hpi a j
theorem RG.congr {a b : Nat → Nat} {n : Nat} (h : RG a n) (e : ∀ j, j < n → b j = a j) : RG b n := fun j hj => by
  rw [e j hj, hpi_congr j (fun k hk => e k (by omega))]
  exact h j hj
theorem RG.has {a : Nat → Nat} : ∀ n, RG a n → ∀ h, h < hpi a n → ∃ j, j < n ∧ a j = h
  | 0, _, h, hh => absurd hh (Nat.not_lt_zero _)
  | n + 1, hR, h, hh => by
    have e : hpi a (n + 1) = max (hpi a n) (a n + 1) := rfl
    rcases Nat.lt_or_ge h (hpi a n) with c | c
    · obtain ⟨j, j1, j2⟩ := RG.has n (fun j hj => hR j (by omega)) h c
      exact ⟨j, by omega, j2⟩
    · have k := hR n (by omega)
      exact ⟨n, by omega, by omega⟩
theorem RG.le {a : Nat → Nat} : ∀ n, RG a n → hpi a n ≤ n
  | 0, _ => Nat.le_refl _
  | n + 1, hR => by
    have e : hpi a (n + 1) = max (hpi a n) (a n + 1) := rfl
    have k := RG.le n (fun j hj => hR j (by omega))
    have k2 := hR n (by omega)
    omega
theorem hpi_lt {a : Nat → Nat} : ∀ n j, j < n → a j < hpi a n
  | 0, j, h => absurd h (Nat.not_lt_zero _)
  | n + 1, j, h => by
    have e : hpi a (n + 1) = max (hpi a n) (a n + 1) := rfl
    rcases Nat.eq_or_lt_of_le (Nat.le_of_lt_succ h) with c | c
    · subst c
      omega
    · have k := hpi_lt (a := a) n j c
      omega
theorem fv_ind {P : BB → Prop} {f : Nat → BB → BB} : ∀ k v B, (∀ u C, v ≤ u → u < v + k → P C → P (f u C)) → P B → P (fv f k v B)
  | 0, _, _, _, h => h
  | k + 1, v, B, hf, h => fv_ind k (v + 1) (f v B) (fun u C h1 h2 hC => hf u C (by omega) (by omega) hC) (hf v B (Nat.le_refl _) (by omega) h)
theorem dfs_rg {L : Nat → Nat → Int32} {n : Nat} : ∀ d i a B, i + d = n → RG a i → (B.1 = true → RG B.2.2 n ∧ B.2.1 = WO L B.2.2 n) → ((dfs L n d i (hpi a i) a B).1 = true → RG (dfs L n d i (hpi a i) a B).2.2 n ∧ (dfs L n d i (hpi a i) a B).2.1 = WO L (dfs L n d i (hpi a i) a B).2.2 n)
  | 0, i, a, B, hi, ha, hB => by
    show ((bbu B (WO L a n) a).1 = true → _)
    have en : i = n := hi
    subst en
    show ((bbu B (WO L a i) a).1 = true → RG (bbu B (WO L a i) a).2.2 i ∧ (bbu B (WO L a i) a).2.1 = WO L (bbu B (WO L a i) a).2.2 i)
    unfold bbu
    by_cases c : B.1 = true ∧ WO L a i ≤ B.2.1
    · rw [if_pos c]
      exact hB
    · rw [if_neg c]
      exact fun _ => ⟨ha, rfl⟩
  | d + 1, i, a, B, hi, ha, hB => by
    refine fv_ind (P := fun B => B.1 = true → RG B.2.2 n ∧ B.2.1 = WO L B.2.2 n) (hpi a i + 1) 0 B (fun u C _ hu hC => ?_) hB
    have pre : ∀ j, j < i → stA a i u j = a j := fun j hj => if_neg (by omega)
    have at_i : stA a i u i = u := if_pos rfl
    have hp : hpi (stA a i u) (i + 1) = max (hpi a i) (u + 1) := by
      show max (hpi (stA a i u) i) (stA a i u i + 1) = _
      rw [at_i, hpi_congr i pre]
    have k := dfs_rg d (i + 1) (stA a i u) C (by omega) (fun j hj => by
      rcases Nat.eq_or_lt_of_le (Nat.le_of_lt_succ hj) with c | c
      · subst c
        rw [at_i, hpi_congr j pre]
        omega
      · exact (ha.congr pre) j c) hC
    rw [hp] at k
    exact k
theorem BEST_rg (L : Nat → Nat → Int32) (n : Nat) : (BEST L n).1 = true → RG (BEST L n).2.2 n ∧ (BEST L n).2.1 = WO L (BEST L n).2.2 n := dfs_rg n 0 (fun _ => 0) (false, 0, fun _ => 0) (by omega) (fun j hj => absurd hj (Nat.not_lt_zero _)) (fun h => absurd h (by decide))
theorem bbu_t (B : BB) (w : Int32) (a : Nat → Nat) : (bbu B w a).1 = true := by
  unfold bbu
  by_cases c : B.1 = true ∧ w ≤ B.2.1
  · rw [if_pos c]
    exact c.1
  · rw [if_neg c]
theorem dfs_t {L : Nat → Nat → Int32} {n : Nat} : ∀ d i h a B, (dfs L n d i h a B).1 = true
  | 0, _, _, a, B => bbu_t B _ a
  | d + 1, i, h, a, B => by
    show (fv (fun v C => dfs L n d (i + 1) (max h (v + 1)) (stA a i v) C) h (0 + 1) (dfs L n d (i + 1) (max h (0 + 1)) (stA a i 0) B)).1 = true
    exact fv_ind (P := fun B => B.1 = true) h _ _ (fun u C _ _ _ => dfs_t d _ _ _ C) (dfs_t d _ _ _ B)
theorem BEST_t (L : Nat → Nat → Int32) (n : Nat) : (BEST L n).1 = true := dfs_t _ _ _ _ _
theorem BEST_RG (L : Nat → Nat → Int32) (n : Nat) : RG (BEST L n).2.2 n := (BEST_rg L n (BEST_t L n)).1
theorem BEST_WO (L : Nat → Nat → Int32) (n : Nat) : (BEST L n).2.1 = WO L (BEST L n).2.2 n := (BEST_rg L n (BEST_t L n)).2
