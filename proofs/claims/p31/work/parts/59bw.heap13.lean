/-! rows of pieces are heard; so middles are small, and links too -/
def PHD (H : Nat → Bool) (s : PSt) : Prop := ∀ q, q < s.1 → ∀ r, (s.2.1 q).1 ≤ r → r < (s.2.1 q).1 + (s.2.1 q).2.1 → H r = true
theorem pcs_ph {H : Nat → Bool} {T : Nat → Nat} {t a b : Nat} (hT : ∀ i, a ≤ i → i < b → 1 ≤ T i ∧ i + T i ≤ b) (hH : ∀ r, a ≤ r → r < b → H r = true) : ∀ g i (s : PSt), a ≤ i → PHD H s → PHD H (pcs T t b g i s)
  | 0, _, _, _, h => h
  | g + 1, i, s, ha, h => by
    show PHD H (if b ≤ i then s else pcs T t b g (i + T i) (addP s i (T i) t))
    by_cases c : b ≤ i
    · rw [if_pos c]
      exact h
    · rw [if_neg c]
      obtain ⟨t1, t2⟩ := hT i ha (by omega)
      refine pcs_ph hT hH g (i + T i) _ (by omega) fun q hq r h1 h2 => ?_
      have hq' : q < s.1 + 1 := hq
      have e : (addP s i (T i) t).2.1 q = if q = s.1 then (i, T i, t) else s.2.1 q := rfl
      rw [e] at h1 h2
      by_cases d : q = s.1
      · rw [if_pos d] at h1 h2
        have h1' : i ≤ r := h1
        have h2' : r < i + T i := h2
        exact hH r (by omega) (by omega)
      · rw [if_neg d] at h1 h2
        exact h q (by omega) r h1 h2
theorem eh_heard (H : Nat → Bool) (N : Nat) : ∀ f l r, l ≤ r → r < eh H N f l → H r = true
  | 0, l, r, h1, h2 => by
    have h2' : r < l := h2
    omega
  | f + 1, l, r, h1, h2 => by
    have e : eh H N (f + 1) l = if N ≤ l then l else if H l = true then eh H N f (l + 1) else l := rfl
    rw [e] at h2
    by_cases c : N ≤ l
    · rw [if_pos c] at h2
      omega
    · rw [if_neg c] at h2
      by_cases d : H l = true
      · rw [if_pos d] at h2
        rcases Nat.eq_or_lt_of_le h1 with q | q
        · rw [← q]
          exact d
        · exact eh_heard H N f (l + 1) r q h2
      · rw [if_neg d] at h2
        omega
theorem cutS_ph (V : Nat → Nat) (H : Nat → Bool) (c N : Nat) : ∀ f l s st tot hd, PHD H s → PHD H (cutS V H c N f l s st tot hd).1
  | 0, _, _, _, _, _, h => h
  | f + 1, l, s, st, tot, hd, h => by
    have es : cutS V H c N (f + 1) l s st tot hd = if N ≤ l then (s, st, tot, hd) else if eh H N N l ≤ l then cutS V H c N f (l + 1) s st tot hd else cutS V H c N f (eh H N N l + 1) (pcs (cs V c (eh H N N l) (eh H N N l - l)).2 st (eh H N N l) (eh H N N l - l + 1) l s) (st + 1) (tot + (cs V c (eh H N N l) (eh H N N l - l)).1 l) (hd + (eh H N N l - l)) := rfl
    rw [es]
    by_cases q : N ≤ l
    · rw [if_pos q]
      exact h
    · rw [if_neg q]
      by_cases d : eh H N N l ≤ l
      · rw [if_pos d]
        exact cutS_ph V H c N f _ _ _ _ _ h
      · rw [if_neg d]
        exact cutS_ph V H c N f _ _ _ _ _ (pcs_ph (fun i a b => cs_T V c (eh H N N l) (eh H N N l - l) (by omega) i (by omega) b) (fun r a b => eh_heard H N N l r a b) _ l s (Nat.le_refl _) h)
theorem CUT_ph (V : Nat → Nat) (H : Nat → Bool) (c N : Nat) : PHD H (CUT V H c N).1 := cutS_ph V H c N _ _ _ _ _ _ fun q hq => absurd hq (Nat.not_lt_zero _)
theorem MI_99 {V : Nat → Nat} {H : Nat → Bool} {c c1 N : Nat} {σ : ST} (hR : RWX V H c1 N σ) {q k : Nat} (hq : q < (CUT V H c N).1.1) (hk : k < 4) : MI (cvW V ((CUT V H c N).1.2.1 q).1) ((CUT V H c N).1.2.1 q).2.1 k ≤ 99 := by
  have b := CUT_pb V H c N q hq
  refine MI_le fun j hj => ?_
  exact (hR.2.2.2 (((CUT V H c N).1.2.1 q).1 + j) (by omega) (CUT_ph V H c N q hq _ (by omega) (by omega)) k hk).2
theorem abs_v {a b : Nat} (ha : a < 2 ^ 30) (hb : b < 2 ^ 30) : (if 0 ≤ nI a - nI b then nI a - nI b else 0 - (nI a - nI b)) = nI (ad a b) := by
  by_cases c : b ≤ a
  · rw [if_pos ((ab_pos ha hb).mpr c), ab_1 c]
  · rw [if_neg (fun z => c ((ab_pos ha hb).mp z)), Int32.zero_sub, ab_2 (by omega)]
theorem off_val {σ : ST} {p q : Nat} {f g : Nat → Nat} (hp : p < 48) (hq : q < 48) (hf : ∀ k, k < 4 → σ.2.2 15 (p * 4 + k) = nI (f k) ∧ f k ≤ 99) (hg : ∀ k, k < 4 → σ.2.2 15 (q * 4 + k) = nI (g k) ∧ g k ≤ 99) : ∀ (fu m k S : Nat), k + m = 4 → m < fu → fX11_off_0l32 fu (nI (p * 4)) (nI (q * 4)) (nI (S + sumTo (fun k => ad (f k) (g k)) k)) (nI k) σ = nI (S + sumTo (fun k => ad (f k) (g k)) 4) := by
  intro fu
  induction fu with
  | zero =>
    intro m k S _ h
    exact absurd h (Nat.not_lt_zero _)
  | succ fu ih =>
    intro m k S hk hfu
    cases m with
    | zero =>
      have k4 : k = 4 := by omega
      subst k4
      show fX11_off_0b32 (fX11_off_0l32 fu) (nI (p * 4)) (nI (q * 4)) _ (nI 4) σ = _
      unfold fX11_off_0b32 fX11_off_0b65
      rw [if_pos (show 4 ≤ nI 4 by decide)]
    | succ m =>
      obtain ⟨f1, f2⟩ := hf k (by omega)
      obtain ⟨g1, g2⟩ := hg k (by omega)
      rw [← ih m (k + 1) S (by omega) (by omega)]
      show fX11_off_0b32 (fX11_off_0l32 fu) (nI (p * 4)) (nI (q * 4)) (nI (S + sumTo (fun k => ad (f k) (g k)) k)) (nI k) σ = fX11_off_0l32 fu (nI (p * 4)) (nI (q * 4)) (nI (S + (sumTo (fun k => ad (f k) (g k)) k + ad (f k) (g k)))) (nI (k + 1)) σ
      unfold fX11_off_0b32 fX11_off_0b38
      rw [if_neg (show ¬ 4 ≤ nI k from fun z => absurd ((leN (a := 4) (by omega) (by omega)).mp z) (by omega))]
      simp only [bd_e, nI_add, n_add1, show (nI (p * 4 + k)).toNatClampNeg = p * 4 + k from nI_clamp (by omega), show (nI (q * 4 + k)).toNatClampNeg = q * 4 + k from nI_clamp (by omega), f1, g1, abs_v (a := f k) (b := g k) (by omega) (by omega), Nat.add_assoc]
