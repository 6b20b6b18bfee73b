/-! the reference writes the pieces down; all stretches -/
def RP (V : Nat → Nat) (s : PSt) (σ : ST) : Prop := σ.1 35 = nI s.1 ∧ (∀ q, q < s.1 → σ.2.2 75 q = nI (s.2.1 q).1 ∧ σ.2.2 76 q = nI (s.2.1 q).2.1 ∧ σ.2.2 79 q = nI (SP (cvW V (s.2.1 q).1) (s.2.1 q).2.1) ∧ ∀ k, k < 4 → σ.2.2 78 (4 * q + k) = nI (MI (cvW V (s.2.1 q).1) (s.2.1 q).2.1 k))
def RO (s : PSt) (l : Nat) (σ : ST) : Prop := (∀ r, r < l → σ.2.2 77 r = s.2.2 r) ∧ ∀ r, l ≤ r → s.2.2 r = -9
theorem RP.fr {V : Nat → Nat} {s : PSt} {I J : List (Nat × Nat)} {σ τ : ST} (h : RP V s σ) (f : Fr I J σ τ) (hh : (!inR I 35 && [75, 76, 78, 79].all (fun k => !inR J k)) = true) : RP V s τ := by
  simp only [List.all_cons, List.all_nil, Bool.and_true, Bool.and_eq_true, Bool.not_eq_true'] at hh
  obtain ⟨h1, h2, h3, h4, h5⟩ := hh
  unfold RP
  rw [f.1 _ h1, f.2 _ h2, f.2 _ h3, f.2 _ h4, f.2 _ h5]
  exact h
theorem mc188_l {K : Int32 → Int32 → ST → ST} {l2 l3 : Int32} {n : Nat} {M : Nat → Nat} (hn : n < 48) : ∀ (fu m k : Nat) (τ : ST), k + m = 4 → m < fu → τ.1 35 = nI n → (∀ i, i < 4 → τ.2.2 81 i = nI (M i)) → (∀ i, i < k → τ.2.2 78 (4 * n + i) = nI (M i)) → ∃ τ', fX12_cut_0l188 K fu l2 l3 (nI k) τ = fX12_cut_0b221 K l2 l3 τ' ∧ (∀ i, i < 4 → τ'.2.2 78 (4 * n + i) = nI (M i)) ∧ (∀ j, j < 4 * n → τ'.2.2 78 j = τ.2.2 78 j) ∧ Fr [] [(78, 78)] τ τ'
  | 0, _, _, _, _, h, _, _, _ => absurd h (Nat.not_lt_zero _)
  | fu + 1, 0, k, τ, hk, _, _, _, hM => by
    have k4 : k = 4 := by omega
    subst k4
    refine ⟨τ, ?_, hM, fun _ _ => rfl, Fr.refl τ⟩
    show fX12_cut_0b188 K (fX12_cut_0l188 K fu) l2 l3 (nI 4) τ = _
    unfold fX12_cut_0b188
    rw [if_pos (show 4 ≤ nI 4 by decide)]
  | fu + 1, m + 1, k, τ, hk, hf, h35, h81, hM => by
    have e0 : fX12_cut_0l188 K (fu + 1) l2 l3 (nI k) τ = fX12_cut_0b188 K (fX12_cut_0l188 K fu) l2 l3 (nI k) τ := rfl
    rw [e0]
    unfold fX12_cut_0b188 fX12_cut_0b194
    rw [if_neg (show ¬ 4 ≤ nI k from fun q => absurd ((leN (a := 4) (by omega) (by omega)).mp q) (by omega))]
    simp only [bd_e, h35, n_4mul, nI_add, n_add1, show (nI k).toNatClampNeg = k from nI_clamp (by omega), show (nI (4 * n + k)).toNatClampNeg = 4 * n + k from nI_clamp (by omega), h81 k (by omega)]
    have f1 : Fr [] [(78, 78)] τ (sA τ 78 (upd (τ.2.2 78) (4 * n + k) (nI (M k)))) := (Fr.refl τ).putA rfl
    obtain ⟨τ2, z1, z2, z3, z4⟩ := mc188_l hn fu m (k + 1) (sA τ 78 (upd (τ.2.2 78) (4 * n + k) (nI (M k)))) (K := K) (l2 := l2) (l3 := l3) (M := M) (by omega) (by omega) h35 (fun i hi => by rw [f1.2 81 rfl]; exact h81 i hi) (fun i hi => by
      rw [sA_eq]
      rcases Nat.eq_or_lt_of_le (Nat.le_of_lt_succ hi) with c | c
      · rw [c, pk_us]
      · rw [pk_un (by omega)]
        exact hM i c)
    exact ⟨τ2, z1, z2, fun j hj => by rw [z3 j hj, sA_eq, pk_un (by omega)], f1.call z4 rfl rfl⟩
theorem mc224_l {K : Int32 → Int32 → ST → ST} {l2 : Int32} {n i t : Nat} (hit : i + t ≤ 48) : ∀ (fu m j : Nat) (τ : ST), j + m = t → m < fu → τ.1 35 = nI n → τ.2.2 84 i = nI t → ∃ τ', fX12_cut_0l224 K fu l2 (nI i) (nI (i + j)) τ = K l2 (nI (i + t)) τ' ∧ τ'.1 35 = nI (n + 1) ∧ τ'.2.2 77 = putN (τ.2.2 77) (nI n) (i + j) m ∧ Fr [(35, 35)] [(77, 77)] τ τ'
  | 0, _, _, _, _, h, _, _ => absurd h (Nat.not_lt_zero _)
  | fu + 1, 0, j, τ, hj, _, h35, h84 => by
    have ej : j = t := by omega
    subst ej
    refine ⟨sI τ 35 (nI (n + 1)), ?_, sI_eq _ _ _, (putN_0 _ _ _).symm, (Fr.refl τ).putI rfl⟩
    show fX12_cut_0b224 K (fX12_cut_0l224 K fu) l2 (nI i) (nI (i + j)) τ = _
    unfold fX12_cut_0b224 fX12_cut_0b254
    simp only [bd_e, show (nI i).toNatClampNeg = i from nI_clamp (by omega), h84, nI_add, h35, n_add1, sI_22]
    rw [if_pos ((leN (by omega) (by omega)).mpr (Nat.le_refl _))]
  | fu + 1, m + 1, j, τ, hj, hf, h35, h84 => by
    have e0 : fX12_cut_0l224 K (fu + 1) l2 (nI i) (nI (i + j)) τ = fX12_cut_0b224 K (fX12_cut_0l224 K fu) l2 (nI i) (nI (i + j)) τ := rfl
    rw [e0]
    unfold fX12_cut_0b224 fX12_cut_0b237
    simp only [bd_e, show (nI i).toNatClampNeg = i from nI_clamp (by omega), show (nI (i + j)).toNatClampNeg = i + j from nI_clamp (by omega), h84, nI_add, h35, n_add1]
    rw [if_neg (fun q => absurd ((leN (by omega) (by omega)).mp q) (by omega))]
    have f1 : Fr [(35, 35)] [(77, 77)] τ (sA τ 77 (upd (τ.2.2 77) (i + j) (nI n))) := (Fr.refl τ).putA rfl
    obtain ⟨τ2, z1, z2, z3, z4⟩ := mc224_l hit fu m (j + 1) (sA τ 77 (upd (τ.2.2 77) (i + j) (nI n))) (K := K) (l2 := l2) (by omega) (by omega) h35 (by rw [sA_ne _ _ rfl]; exact h84)
    exact ⟨τ2, z1, z2, by rw [z3, sA_eq, show i + (j + 1) = i + j + 1 by omega, putN_step], f1.call z4 rfl rfl⟩
theorem mc131_l {V T : Nat → Nat} {a b' N t : Nat} (hN : N ≤ 48) (hb : b' + 1 ≤ N) (hT : ∀ i, a ≤ i → i < b' + 1 → 1 ≤ T i ∧ i + T i ≤ b' + 1) : ∀ (fu g i : Nat) (s : PSt) (τ : ST), a ≤ i → i ≤ b' + 1 → b' + 1 - i < g → b' + 1 - i < fu → s.1 ≤ i → τ.1 31 = nI N → RP V s τ → RO s i τ → ROWS 68 a (b' + 1) V τ → (∀ x, a ≤ x → x < b' + 1 → τ.2.2 84 x = nI (T x)) → ∃ τ', fX12_cut_0l131 fu (nI b') (nI i) τ = τ' ∧ RP V (pcs T t (b' + 1) g i s) τ' ∧ RO (pcs T t (b' + 1) g i s) (b' + 1) τ' ∧ Fr [(35, 35), (38, 38)] [(75, 82)] τ τ'
  | 0, _, _, _, _, _, _, _, h, _, _, _, _, _, _ => absurd h (Nat.not_lt_zero _)
  | _ + 1, 0, _, _, _, _, _, h, _, _, _, _, _, _, _ => absurd h (Nat.not_lt_zero _)
  | fu + 1, g + 1, i, s, τ, h1, h2, hg, hf, hs, h31, hP, hO, hR, h84 => by
    have e0 : fX12_cut_0l131 (fu + 1) (nI b') (nI i) τ = fX12_cut_0b131 (fX12_cut_0l131 fu) (nI b') (nI i) τ := rfl
    have ep : pcs T t (b' + 1) (g + 1) i s = if b' + 1 ≤ i then s else pcs T t (b' + 1) g (i + T i) (addP s i (T i) t) := rfl
    rw [e0, ep]
    unfold fX12_cut_0b131
    simp only [nI_ltI (a := b') (b := i) (by omega) (by omega)]
    by_cases q : b' + 1 ≤ i
    · rw [if_pos (show b' < i by omega), if_pos q]
      have ei : i = b' + 1 := by omega
      subst ei
      exact ⟨τ, rfl, hP, hO, Fr.refl τ⟩
    · rw [if_neg (show ¬ b' < i by omega), if_neg q]
      obtain ⟨t1, t2⟩ := hT i h1 (by omega)
      have ni : (nI i).toNatClampNeg = i := nI_clamp (by omega)
      have ns : (nI s.1).toNatClampNeg = s.1 := nI_clamp (by omega)
      unfold fX12_cut_0b136
      simp only [bd_e, sA_1, hP.1, ni, ns]
      generalize g75 : sA τ 75 (upd (τ.2.2 75) s.1 (nI i)) = τ1
      have r1 : Fr [] [(75, 75)] τ τ1 := by rw [← g75]; exact (Fr.refl _).putA rfl
      have x84 : τ1.2.2 84 i = nI (T i) := by rw [r1.2 84 rfl]; exact h84 i h1 (by omega)
      simp only [r1.1 35 rfl, hP.1, ns, x84]
      generalize g76 : sA τ1 76 (upd (τ1.2.2 76) s.1 (nI (T i))) = τ2
      have r2 : Fr [] [(76, 76)] τ1 τ2 := by rw [← g76]; exact (Fr.refl _).putA rfl
      have r12 : Fr [] [(75, 76)] τ τ2 := (r1.wide rfl rfl).call r2 rfl rfl
      have x84' : τ2.2.2 84 i = nI (T i) := by rw [r2.2 84 rfl]; exact x84
      simp only [x84']
      obtain ⟨k1, k2, k3⟩ := ask_M (V := V) (i := i) (l := T i) (N := N) (σ := τ2) t1 hN (by omega) ((r12.1 31 rfl).trans h31) ((hR.sub h1 t2).fr r12 rfl)
      generalize gA : fX12_askRows_0 (nI i) (nI (T i)) τ2 = τ3 at *
      have x35 : τ3.1 35 = nI s.1 := by rw [k3.1 35 rfl, r12.1 35 rfl, hP.1]
      simp only [x35, k2, ns]
      generalize g79 : sA τ3 79 (upd (τ3.2.2 79) s.1 (nI (SP (cvW V i) (T i)))) = τ4
      have r4 : Fr [] [(79, 79)] τ3 τ4 := by rw [← g79]; exact (Fr.refl _).putA rfl
      obtain ⟨τ5, y1, y2, y3, y4⟩ := mc188_l (show s.1 < 48 by omega) 4096 4 0 τ4 (K := fX12_cut_0l131 fu) (l2 := nI b') (l3 := nI i) (M := MI (cvW V i) (T i)) (by omega) (by omega) ((r4.1 35 rfl).trans x35) (fun k hk => by rw [r4.2 81 rfl]; exact k1 k hk) (fun k hk => absurd hk (Nat.not_lt_zero _))
      have z35 : τ5.1 35 = nI s.1 := by rw [y4.1 35 rfl, r4.1 35 rfl, x35]
      have z84 : τ5.2.2 84 i = nI (T i) := by rw [y4.2 84 rfl, r4.2 84 rfl, k3.2 84 rfl]; exact x84'
      obtain ⟨τ6, w1, w2, w3, w4⟩ := mc224_l (n := s.1) (show i + T i ≤ 48 by omega) 4096 (T i) 0 τ5 (K := fX12_cut_0l131 fu) (l2 := nI b') (by omega) (by omega) z35 z84
      rw [Nat.add_zero] at w1 w3
      rw [← nI_0, y1]
      unfold fX12_cut_0b221
      rw [w1]
      have fA : Fr [(35, 35), (38, 38)] [(75, 82)] τ τ6 := ((((r12.wide rfl rfl).call k3 rfl rfl).call r4 rfl rfl).call y4 rfl rfl).call w4 rfl rfl
      have b75 : τ6.2.2 75 = upd (τ.2.2 75) s.1 (nI i) := by
        rw [w4.2 75 rfl, y4.2 75 rfl, r4.2 75 rfl, k3.2 75 rfl, r2.2 75 rfl, ← g75, sA_eq]
      have b76 : τ6.2.2 76 = upd (τ.2.2 76) s.1 (nI (T i)) := by
        rw [w4.2 76 rfl, y4.2 76 rfl, r4.2 76 rfl, k3.2 76 rfl, ← g76, sA_eq, r1.2 76 rfl]
      have b79 : τ6.2.2 79 = upd (τ.2.2 79) s.1 (nI (SP (cvW V i) (T i))) := by
        rw [w4.2 79 rfl, y4.2 79 rfl, ← g79, sA_eq, k3.2 79 rfl, r2.2 79 rfl, r1.2 79 rfl]
      have b77 : τ6.2.2 77 = putN (τ.2.2 77) (nI s.1) i (T i) := by
        rw [w3, y4.2 77 rfl, r4.2 77 rfl, k3.2 77 rfl, r2.2 77 rfl, r1.2 77 rfl]
      have b78 : ∀ j, j < 4 * s.1 → τ6.2.2 78 j = τ.2.2 78 j := fun j hj => by
        rw [w4.2 78 rfl, y3 j hj, r4.2 78 rfl, k3.2 78 rfl, r2.2 78 rfl, r1.2 78 rfl]
      have P6 : RP V (addP s i (T i) t) τ6 := by
        refine ⟨w2, fun x hx => ?_⟩
        have hx' : x < s.1 + 1 := hx
        show τ6.2.2 75 x = nI (if x = s.1 then (i, T i, t) else s.2.1 x).1 ∧ τ6.2.2 76 x = nI (if x = s.1 then (i, T i, t) else s.2.1 x).2.1 ∧ τ6.2.2 79 x = nI (SP (cvW V (if x = s.1 then (i, T i, t) else s.2.1 x).1) (if x = s.1 then (i, T i, t) else s.2.1 x).2.1) ∧ ∀ k, k < 4 → τ6.2.2 78 (4 * x + k) = nI (MI (cvW V (if x = s.1 then (i, T i, t) else s.2.1 x).1) (if x = s.1 then (i, T i, t) else s.2.1 x).2.1 k)
        rw [b75, b76, b79]
        by_cases z : x = s.1
        · subst z
          rw [if_pos rfl, pk_us, pk_us, pk_us]
          refine ⟨rfl, rfl, rfl, fun k hk => ?_⟩
          rw [w4.2 78 rfl]
          exact y2 k hk
        · rw [if_neg z, pk_un z, pk_un z, pk_un z]
          obtain ⟨c1, c2, c3, c5⟩ := hP.2 x (by omega)
          exact ⟨c1, c2, c3, fun k hk => by rw [b78 _ (by omega)]; exact c5 k hk⟩
      have O6 : RO (addP s i (T i) t) (i + T i) τ6 := by
        refine ⟨fun r hr => ?_, fun r hr => ?_⟩
        · rw [b77]
          show putN (τ.2.2 77) (nI s.1) i (T i) r = putN s.2.2 (nI s.1) i (T i) r
          unfold putN
          by_cases z : i ≤ r ∧ r < i + T i
          · rw [if_pos z, if_pos z]
          · rw [if_neg z, if_neg z]
            exact hO.1 r (by omega)
        · show putN s.2.2 (nI s.1) i (T i) r = -9
          rw [putN_out (by omega)]
          exact hO.2 r (by omega)
      obtain ⟨τ8, z1, z2, z3, z4⟩ := mc131_l hN hb hT fu g (i + T i) (addP s i (T i) t) τ6 (t := t) (by omega) t2 (by omega) (by omega) (show s.1 + 1 ≤ i + T i by omega) ((fA.1 31 rfl).trans h31) P6 O6 (hR.fr fA rfl) (fun x p1 p2 => by rw [fA.2 84 rfl]; exact h84 x p1 p2)
      exact ⟨τ8, z1, z2, z3, fA.call z4 rfl rfl⟩
theorem cut_M {V : Nat → Nat} {c a b' N t tot : Nat} {s : PSt} {σ : ST} (hN : N ≤ 48) (hb : b' + 1 ≤ N) (hc : c ≤ 999) (hab : a ≤ b') (h31 : σ.1 31 = nI N) (h66 : σ.2.2 66 0 = nI c) (hR : ROWS 68 a (b' + 1) V σ) (h37 : σ.1 37 = nI tot) (hs : s.1 ≤ a) (hP : RP V s σ) (hO : RO s a σ) : (fX12_cut_0 (nI a) (nI b') σ).1 37 = nI (tot + (cs V c (b' + 1) (b' + 1 - a)).1 a) ∧ RP V (pcs (cs V c (b' + 1) (b' + 1 - a)).2 t (b' + 1) (b' + 1 - a + 1) a s) (fX12_cut_0 (nI a) (nI b') σ) ∧ RO (pcs (cs V c (b' + 1) (b' + 1 - a)).2 t (b' + 1) (b' + 1 - a + 1) a s) (b' + 1) (fX12_cut_0 (nI a) (nI b') σ) ∧ Fr [(35, 35), (37, 38)] [(75, 84)] σ (fX12_cut_0 (nI a) (nI b') σ) := by
  generalize hx : fX12_cut_0 (nI a) (nI b') σ = x
  unfold fX12_cut_0 fX12_cut_0b0 at hx
  simp only [bd_e, n_add1, show (nI (b' + 1)).toNatClampNeg = b' + 1 from nI_clamp (by omega)] at hx
  generalize h1 : sA σ 83 (upd (σ.2.2 83) (b' + 1) 0) = τ0 at hx
  have f0 : Fr [(35, 35), (37, 38)] [(75, 84)] σ τ0 := by
    rw [← h1]
    exact (Fr.refl σ).putA rfl
  have f0' : Fr [] [(83, 83)] σ τ0 := by
    rw [← h1]
    exact (Fr.refl σ).putA rfl
  have hbb : b' + 1 - (b' + 1) = 0 := Nat.sub_self _
  obtain ⟨τ1, y1, y2, y3, y4⟩ := mc11_l hN hb hc 4096 (b' + 1) τ0 (V := V) (a := a) (by omega) (Nat.le_refl _) (by omega) ((f0.1 31 rfl).trans h31) (by rw [f0.2 66 rfl]; exact h66) (hR.fr f0 rfl) (fun x p q => by
    rw [← h1, sA_eq, show x = b' + 1 by omega, pk_us, hbb]
    exact nI_0.symm) (fun x p q => by omega)
  have hT : ∀ i, a ≤ i → i < b' + 1 → 1 ≤ (cs V c (b' + 1) (b' + 1 - a)).2 i ∧ i + (cs V c (b' + 1) (b' + 1 - a)).2 i ≤ b' + 1 := fun i p q => cs_T V c (b' + 1) (b' + 1 - a) (by omega) i (by omega) q
  rw [nI_pred] at y1
  rw [y1] at hx
  unfold fX12_cut_0b114 at hx
  have a37 : τ1.1 37 = nI tot := by rw [y4.1 37 rfl, f0'.1 37 rfl, h37]
  simp only [bd_e, a37, show (nI a).toNatClampNeg = a from nI_clamp (by omega), y2 a (Nat.le_refl _) (by omega), nI_add] at hx
  generalize h2 : sI τ1 37 (nI (tot + (cs V c (b' + 1) (b' + 1 - a)).1 a)) = τ2 at hx
  have f2 : Fr [(37, 37)] [] τ1 τ2 := by
    rw [← h2]
    exact (Fr.refl _).putI rfl
  have f3 : Fr [(37, 38)] [(80, 84)] σ τ2 := ((f0'.wide rfl rfl).call y4 rfl rfl).call f2 rfl rfl
  obtain ⟨τ3, z1, z2, z3, z4⟩ := mc131_l hN hb hT 4096 (b' + 1 - a + 1) a s τ2 (t := t) (Nat.le_refl _) (by omega) (by omega) (by omega) hs ((f3.1 31 rfl).trans h31) (hP.fr f3 rfl) (by
    unfold RO
    rw [f3.2 77 rfl]
    exact hO) (hR.fr f3 rfl) (fun x p q => by rw [f2.2 84 rfl]; exact y3 x p q)
  have e : x = τ3 := hx.symm.trans z1
  rw [e]
  exact ⟨by rw [z4.1 37 rfl, ← h2, sI_eq], z2, z3, (f3.wide rfl rfl).call z4 rfl rfl⟩
