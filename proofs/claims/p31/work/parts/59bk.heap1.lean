/-! neighbours in one stretch meet; touch, links of both sides -/
def CHN (s : PSt) : Prop := (∀ q, q + 1 < s.1 → ((s.2.1 q).2.2 = (s.2.1 (q + 1)).2.2 ↔ (s.2.1 q).1 + (s.2.1 q).2.1 = (s.2.1 (q + 1)).1)) ∧ ∀ q, q < s.1 → (s.2.1 q).2.2 ≤ (s.2.1 q).1
def LST (s : PSt) (i t : Nat) : Prop := s.1 ≠ 0 → ((s.2.1 (s.1 - 1)).1 + (s.2.1 (s.1 - 1)).2.1 = i ∧ (s.2.1 (s.1 - 1)).2.2 = t) ∨ ((s.2.1 (s.1 - 1)).1 + (s.2.1 (s.1 - 1)).2.1 < i ∧ (s.2.1 (s.1 - 1)).2.2 < t)
def LSE (s : PSt) (i t : Nat) : Prop := s.1 ≠ 0 → (s.2.1 (s.1 - 1)).1 + (s.2.1 (s.1 - 1)).2.1 < i ∧ (s.2.1 (s.1 - 1)).2.2 < t
theorem addP_ch {s : PSt} {i l t : Nat} (h : CHN s) (hl : LST s i t) (ht : t ≤ i) : CHN (addP s i l t) ∧ LST (addP s i l t) (i + l) t := by
  have e1 : ∀ q, (addP s i l t).2.1 q = if q = s.1 then (i, l, t) else s.2.1 q := fun _ => rfl
  have e0 : (addP s i l t).1 = s.1 + 1 := rfl
  refine ⟨⟨fun q hq => ?_, fun q hq => ?_⟩, fun _ => Or.inl ?_⟩
  · rw [e0] at hq
    rw [e1, e1, if_neg (show ¬ q = s.1 by omega)]
    by_cases c : q + 1 = s.1
    · rw [if_pos c]
      have z := hl (by omega)
      rw [show s.1 - 1 = q by omega] at z
      show (s.2.1 q).2.2 = t ↔ (s.2.1 q).1 + (s.2.1 q).2.1 = i
      rcases z with ⟨z1, z2⟩ | ⟨z1, z2⟩
      · exact ⟨fun _ => z1, fun _ => z2⟩
      · exact ⟨fun w => by omega, fun w => by omega⟩
    · rw [if_neg c]
      exact h.1 q (by omega)
  · rw [e0] at hq
    rw [e1]
    by_cases c : q = s.1
    · rw [if_pos c]
      exact ht
    · rw [if_neg c]
      exact h.2 q (by omega)
  · rw [e0, show s.1 + 1 - 1 = s.1 by omega, e1, if_pos rfl]
    exact ⟨rfl, rfl⟩
theorem pcs_ch {T : Nat → Nat} {t a b : Nat} (hT : ∀ i, a ≤ i → i < b → 1 ≤ T i ∧ i + T i ≤ b) : ∀ g i (s : PSt), a ≤ i → i ≤ b → t ≤ i → CHN s → LST s i t → CHN (pcs T t b g i s) ∧ LSE (pcs T t b g i s) (b + 1) (t + 1)
  | 0, i, s, _, h2, _, h, hl => ⟨h, fun n0 => by
    have z : ((s.2.1 (s.1 - 1)).1 + (s.2.1 (s.1 - 1)).2.1 = i ∧ (s.2.1 (s.1 - 1)).2.2 = t) ∨ ((s.2.1 (s.1 - 1)).1 + (s.2.1 (s.1 - 1)).2.1 < i ∧ (s.2.1 (s.1 - 1)).2.2 < t) := hl n0
    show (s.2.1 (s.1 - 1)).1 + (s.2.1 (s.1 - 1)).2.1 < b + 1 ∧ (s.2.1 (s.1 - 1)).2.2 < t + 1
    omega⟩
  | g + 1, i, s, h1, h2, h3, h, hl => by
    show CHN (if b ≤ i then s else pcs T t b g (i + T i) (addP s i (T i) t)) ∧ LSE (if b ≤ i then s else pcs T t b g (i + T i) (addP s i (T i) t)) (b + 1) (t + 1)
    by_cases c : b ≤ i
    · rw [if_pos c]
      refine ⟨h, fun n0 => ?_⟩
      have z := hl n0
      omega
    · rw [if_neg c]
      obtain ⟨t1, t2⟩ := hT i h1 (by omega)
      obtain ⟨k1, k2⟩ := addP_ch (l := T i) h hl h3
      exact pcs_ch hT g (i + T i) _ (by omega) t2 (by omega) k1 k2
theorem cutS_ch (V : Nat → Nat) (H : Nat → Bool) (c N : Nat) : ∀ f l s st tot hd, st ≤ l → CHN s → LSE s l st → CHN (cutS V H c N f l s st tot hd).1
  | 0, _, _, _, _, _, _, h, _ => h
  | f + 1, l, s, st, tot, hd, hst, h, hl => by
    have es : cutS V H c N (f + 1) l s st tot hd = if N ≤ l then (s, st, tot, hd) else if eh H N N l ≤ l then cutS V H c N f (l + 1) s st tot hd else cutS V H c N f (eh H N N l + 1) (pcs (cs V c (eh H N N l) (eh H N N l - l)).2 st (eh H N N l) (eh H N N l - l + 1) l s) (st + 1) (tot + (cs V c (eh H N N l) (eh H N N l - l)).1 l) (hd + (eh H N N l - l)) := rfl
    rw [es]
    by_cases q : N ≤ l
    · rw [if_pos q]
      exact h
    · rw [if_neg q]
      by_cases d : eh H N N l ≤ l
      · rw [if_pos d]
        exact cutS_ch V H c N f _ _ _ _ _ (by omega) h (fun n0 => by have := hl n0; omega)
      · rw [if_neg d]
        obtain ⟨k1, k2⟩ := pcs_ch (t := st) (fun i a b => cs_T V c (eh H N N l) (eh H N N l - l) (by omega) i (by omega) b) (eh H N N l - l + 1) l s (Nat.le_refl _) (by omega) hst h (fun n0 => Or.inr (hl n0))
        exact cutS_ch V H c N f _ _ _ _ _ (by omega) k1 k2
theorem CUT_ch (V : Nat → Nat) (H : Nat → Bool) (c N : Nat) : CHN (CUT V H c N).1 := cutS_ch V H c N _ _ _ _ _ _ (Nat.le_refl _) ⟨fun q hq => absurd hq (Nat.not_lt_zero _), fun q hq => absurd hq (Nat.not_lt_zero _)⟩ (fun n0 => absurd rfl n0)
/-- pieces i and j touch -/
def TCH (s : PSt) (i j : Nat) : Bool := decide ((i = j + 1 ∨ j = i + 1) ∧ (s.2.1 i).2.2 = (s.2.1 j).2.2)
theorem TCH_comm (s : PSt) (i j : Nat) : TCH s i j = TCH s j i := by
  unfold TCH
  by_cases c : (i = j + 1 ∨ j = i + 1) ∧ (s.2.1 i).2.2 = (s.2.1 j).2.2
  · rw [decide_eq_true c, decide_eq_true ⟨c.1.symm, c.2.symm⟩]
  · rw [decide_eq_false c, decide_eq_false fun q => c ⟨q.1.symm, q.2.symm⟩]
theorem abs_i {i j : Nat} (hi : i < 48) (hj : j < 48) : (if 0 ≤ nI i - nI j then nI i - nI j else 0 - (nI i - nI j)) = nI (ad i j) := by
  by_cases c : j ≤ i
  · rw [if_pos ((ab_pos (by omega) (by omega)).mpr c), ab_1 c]
  · rw [if_neg (fun z => c ((ab_pos (by omega) (by omega)).mp z)), Int32.zero_sub, ab_2 (by omega)]
theorem ad_1 (i j : Nat) : ad i j = 1 ↔ (i = j + 1 ∨ j = i + 1) := by
  unfold ad
  omega
theorem touch_X {V : Nat → Nat} {H : Nat → Bool} {c N : Nat} {σ : ST} (hX : CUTX V H c N σ) (hN : N ≤ 48) {i j : Nat} (hi : i < (CUT V H c N).1.1) (hj : j < (CUT V H c N).1.1) : fX2_doTouch_0 (nI i) (nI j) σ = if TCH (CUT V H c N).1 i j = true then 1 else 0 := by
  have hn := hX.2.2.2.2
  obtain ⟨_, _, _, a4, _⟩ := hX.1.2.1 i hi
  obtain ⟨_, _, _, b4, _⟩ := hX.1.2.1 j hj
  have ci := (CUT_ch V H c N).2 i hi
  have cj := (CUT_ch V H c N).2 j hj
  have pi := CUT_pb V H c N i hi
  have pj := CUT_pb V H c N j hj
  unfold fX2_doTouch_0 fX2_doTouch_0b0 fX2_doTouch_0b10 fX2_doTouch_0b25 fX2_doTouch_0b29 fX2_doTouch_0b30
  simp only [bd_e, abs_i (show i < 48 by omega) (show j < 48 by omega), show (nI i).toNatClampNeg = i from nI_clamp (by omega), show (nI j).toNatClampNeg = j from nI_clamp (by omega), a4, b4, show nI (ad i j) = 1 ↔ ad i j = 1 from nI_eq (b := 1) (by unfold ad; omega) (by omega), ad_1, nI_eq (a := ((CUT V H c N).1.2.1 i).2.2) (b := ((CUT V H c N).1.2.1 j).2.2) (by omega) (by omega)]
  unfold TCH
  by_cases d : i = j + 1 ∨ j = i + 1
  · rw [if_pos d]
    by_cases e : ((CUT V H c N).1.2.1 i).2.2 = ((CUT V H c N).1.2.1 j).2.2
    · rw [if_pos e, if_pos (decide_eq_true ⟨d, e⟩)]
    · rw [if_neg e, if_neg (fun q => e (of_decide_eq_true q).2)]
  · rw [if_neg d, if_neg (fun q => d (of_decide_eq_true q).1)]
theorem touch_M {V : Nat → Nat} {H : Nat → Bool} {c N : Nat} {τ : ST} (hM : FPM V H c N τ) (hN : N ≤ 48) (hn : (CUT V H c N).1.1 ≤ 48) {i j : Nat} (hi : i < (CUT V H c N).1.1) (hj : j < (CUT V H c N).1.1) : fX12_touch_0 (nI i) (nI j) τ = if TCH (CUT V H c N).1 i j = true then 1 else 0 := by
  have ch := CUT_ch V H c N
  have key : ∀ k, k + 1 < (CUT V H c N).1.1 → fX12_touch_0b21 (nI k) τ = if ((CUT V H c N).1.2.1 k).2.2 = ((CUT V H c N).1.2.1 (k + 1)).2.2 then 1 else 0 := fun k hk => by
    obtain ⟨a1, a2, _⟩ := hM.1.2 k (by omega)
    obtain ⟨b1, _, _⟩ := hM.1.2 (k + 1) hk
    have pk := CUT_pb V H c N k (by omega)
    have pk1 := CUT_pb V H c N (k + 1) hk
    unfold fX12_touch_0b21 fX12_touch_0b45 fX12_touch_0b49 fX12_touch_0b50
    simp only [bd_e, n_add1, show (nI k).toNatClampNeg = k from nI_clamp (by omega), show (nI (k + 1)).toNatClampNeg = k + 1 from nI_clamp (by omega), a1, a2, b1, nI_add, nI_eq (a := ((CUT V H c N).1.2.1 k).1 + ((CUT V H c N).1.2.1 k).2.1) (b := ((CUT V H c N).1.2.1 (k + 1)).1) (by omega) (by omega)]
    by_cases e : ((CUT V H c N).1.2.1 k).2.2 = ((CUT V H c N).1.2.1 (k + 1)).2.2
    · rw [if_pos e, if_pos ((ch.1 k hk).mp e)]
    · rw [if_neg e, if_neg fun w => e ((ch.1 k hk).mpr w)]
  have gen : ∀ k, k + 1 ≤ (CUT V H c N).1.1 → fX12_touch_0b10 (nI i) (nI j) (nI k) τ = if ad i j = 1 then fX12_touch_0b21 (nI k) τ else 0 := fun k hk => by
    have z := abs_i (show i < 48 by omega) (show j < 48 by omega)
    rw [Int32.zero_sub] at z
    unfold fX12_touch_0b10 fX12_size_0 fX12_size_0b0 fX12_size_0b4 fX12_size_0b9 fX12_size_0b10 fX12_touch_0b49 fX12_touch_0b50
    simp only [bd_e, z, show nI (ad i j) = 1 ↔ ad i j = 1 from nI_eq (b := 1) (by unfold ad; omega) (by omega)]
  unfold fX12_touch_0 fX12_touch_0b0 fX12_touch_0b9 fX12_touch_0b5 TCH
  simp only [leN (a := j) (b := i) (by omega) (by omega)]
  by_cases d : j ≤ i
  · rw [if_pos d, gen j (by omega)]
    by_cases e : ad i j = 1
    · have e' := (ad_1 i j).mp e
      have ei : i = j + 1 := by omega
      subst ei
      rw [if_pos e, key j hi]
      by_cases w : ((CUT V H c N).1.2.1 j).2.2 = ((CUT V H c N).1.2.1 (j + 1)).2.2
      · rw [if_pos w, if_pos (decide_eq_true ⟨e', w.symm⟩)]
      · rw [if_neg w, if_neg (fun q => w (of_decide_eq_true q).2.symm)]
    · rw [if_neg e, if_neg (fun q => e ((ad_1 i j).mpr (of_decide_eq_true q).1))]
  · rw [if_neg d, gen i (by omega)]
    by_cases e : ad i j = 1
    · have e' := (ad_1 i j).mp e
      have ei : j = i + 1 := by omega
      subst ei
      rw [if_pos e, key i hj]
      by_cases w : ((CUT V H c N).1.2.1 i).2.2 = ((CUT V H c N).1.2.1 (i + 1)).2.2
      · rw [if_pos w, if_pos (decide_eq_true ⟨e', w⟩)]
      · rw [if_neg w, if_neg (fun q => w (of_decide_eq_true q).2)]
    · rw [if_neg e, if_neg (fun q => e ((ad_1 i j).mpr (of_decide_eq_true q).1))]
