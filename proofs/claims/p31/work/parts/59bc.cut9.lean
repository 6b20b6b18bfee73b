/-! all the reference's stretches; the two cuts are one -/
theorem pcs_le {T : Nat → Nat} {t a b : Nat} (hT : ∀ i, a ≤ i → i < b → 1 ≤ T i ∧ i + T i ≤ b) : ∀ g i (s : PSt), a ≤ i → i ≤ b → s.1 ≤ i → (pcs T t b g i s).1 ≤ b
  | 0, i, s, _, h, h2 => Nat.le_trans h2 h
  | g + 1, i, s, ha, h, h2 => by
    show (if b ≤ i then s else pcs T t b g (i + T i) (addP s i (T i) t)).1 ≤ b
    by_cases c : b ≤ i
    · rw [if_pos c]
      omega
    · rw [if_neg c]
      obtain ⟨t1, t2⟩ := hT i ha (by omega)
      exact pcs_le hT g (i + T i) (addP s i (T i) t) (by omega) t2 (show s.1 + 1 ≤ i + T i by omega)
def RWM (V : Nat → Nat) (H : Nat → Bool) (c N : Nat) (σ : ST) : Prop := N ≤ 48 ∧ σ.1 31 = nI N ∧ σ.2.2 66 0 = nI c ∧ (∀ r, r < N → HM σ (σ.2.2 66 1) r = H r) ∧ (∀ r, r < N → H r = true → ∀ k, k < 4 → σ.2.2 68 (4 * r + k) = nI (V (4 * r + k)) ∧ V (4 * r + k) ≤ 99)
theorem RWM.fr {V : Nat → Nat} {H : Nat → Bool} {c N : Nat} {I J : List (Nat × Nat)} {σ τ : ST} (h : RWM V H c N σ) (f : Fr I J σ τ) (hh : (!inR I 31 && [66, 68, 69, 70].all (fun k => !inR J k)) = true) : RWM V H c N τ := by
  simp only [List.all_cons, List.all_nil, Bool.and_true, Bool.and_eq_true, Bool.not_eq_true'] at hh
  obtain ⟨h1, h2, h3, h4, h5⟩ := hh
  refine ⟨h.1, (f.1 _ h1).trans h.2.1, by rw [f.2 _ h2]; exact h.2.2.1, fun r hr => ?_, ?_⟩
  · rw [← h.2.2.2.1 r hr]
    unfold HM
    rw [f.2 _ h2, f.2 _ h3, f.2 _ h4, f.2 _ h5]
  · rw [f.2 _ h3]
    exact h.2.2.2.2
theorem RWM.heard {V : Nat → Nat} {H : Nat → Bool} {c N : Nat} {σ : ST} (h : RWM V H c N σ) {r : Nat} (hr : r < N) : fX12_isHeard_0 (nI r) σ = if H r = true then 1 else 0 := by
  have hN := h.1
  rw [heard_M (by omega), h.2.2.2.1 r hr]
theorem RWM.rows {V : Nat → Nat} {H : Nat → Bool} {c N : Nat} {σ : ST} (h : RWM V H c N σ) {l e : Nat} (he : EH H N l e) : ROWS 68 l e V σ := fun r a b => h.2.2.2.2 r (by have := he.2.1; omega) (he.2.2.1 r a b)
theorem endM_l {K : Int32 → ST → ST} {V : Nat → Nat} {H : Nat → Bool} {c N l : Nat} {σ : ST} (h : RWM V H c N σ) : ∀ (fu m j : Nat), j + 1 + m = N → m < fu → l ≤ j → (∀ r, l ≤ r → r < j + 1 → H r = true) → ∃ e, l ≤ e ∧ EH H N l (e + 1) ∧ fX12_findPieces_0l35 K fu (nI l) (nI j) σ = fX12_findPieces_0b61 K (nI l) (nI e) σ
  | 0, _, _, _, h, _, _ => absurd h (Nat.not_lt_zero _)
  | fu + 1, 0, j, hj, _, hl, hr => by
    have hN := h.1
    refine ⟨j, hl, ⟨by omega, by omega, hr, fun q => by omega⟩, ?_⟩
    show fX12_findPieces_0b35 K (fX12_findPieces_0l35 K fu) (nI l) (nI j) σ = _
    unfold fX12_findPieces_0b35
    simp only [bd_e, h.2.1, n_add1]
    rw [if_pos ((leN (by omega) (by omega)).mpr (by omega))]
  | fu + 1, m + 1, j, hj, hf, hl, hr => by
    have hN := h.1
    have e0 : fX12_findPieces_0l35 K (fu + 1) (nI l) (nI j) σ = fX12_findPieces_0b35 K (fX12_findPieces_0l35 K fu) (nI l) (nI j) σ := rfl
    rw [e0]
    unfold fX12_findPieces_0b35 fX12_findPieces_0b45
    simp only [bd_e, h.2.1, n_add1, h.heard (r := j + 1) (by omega)]
    rw [if_neg (fun q => absurd ((leN (by omega) (by omega)).mp q) (by omega))]
    by_cases d : H (j + 1) = true
    · rw [if_pos d, if_neg (show ¬ (1 : Int32) = 0 by decide)]
      unfold fX12_findPieces_0b55
      simp only [bd_e, n_add1]
      exact endM_l h fu m (j + 1) (by omega) (by omega) (by omega) (fun r a b => by
        rcases Nat.eq_or_lt_of_le (Nat.le_of_lt_succ b) with q | q
        · rw [q]
          exact d
        · exact hr r a q)
    · rw [if_neg d, if_pos rfl]
      exact ⟨j, hl, ⟨by omega, by omega, hr, fun _ => d⟩, rfl⟩
theorem fp17_l {V : Nat → Nat} {H : Nat → Bool} {c N : Nat} (hc : c ≤ 999) : ∀ (fu f l : Nat) (s : PSt) (st tot hd : Nat) (τ : ST), N + 1 - l ≤ f → 2 * (N - l) + 2 ≤ fu → l ≤ N → RWM V H c N τ → RP V s τ → RO s l τ → s.1 ≤ l → τ.1 36 = nI st → τ.1 37 = nI tot → ∃ τ', fX12_findPieces_0l17 fu (nI l) τ = τ' ∧ RP V (cutS V H c N f l s st tot hd).1 τ' ∧ τ'.1 36 = nI (cutS V H c N f l s st tot hd).2.1 ∧ τ'.1 37 = nI (cutS V H c N f l s st tot hd).2.2.1 ∧ RO (cutS V H c N f l s st tot hd).1 N τ' ∧ Fr [(35, 38)] [(75, 84)] τ τ'
  | 0, _, _, _, _, _, _, _, _, h, _, _, _, _, _, _, _ => by omega
  | fu + 1, f, l, s, st, tot, hd, τ, hf, hfu, hlN, hR, hP, hO, hs, h36, h37 => by
    have hN := hR.1
    have step : ∀ (g : Nat) (x : Nat) (ρ : ST), x < N → RWM V H c N ρ → ¬ H x = true → fX12_findPieces_0l17 (g + 1) (nI x) ρ = fX12_findPieces_0l17 g (nI (x + 1)) (sA ρ 77 (upd (ρ.2.2 77) x (-9))) := fun g x ρ hx hRρ hH => by
      show fX12_findPieces_0b17 (fX12_findPieces_0l17 g) (nI x) ρ = _
      unfold fX12_findPieces_0b17 fX12_findPieces_0b25
      simp only [bd_e, hRρ.2.1, hRρ.heard hx]
      rw [if_neg (fun q => absurd ((leN (by omega) (by omega)).mp q) (by omega)), if_neg hH, if_pos rfl]
      unfold fX12_findPieces_0b82 fX12_findPieces_0b90
      simp only [bd_e, n_add1, show (nI x).toNatClampNeg = x from nI_clamp (by omega)]
    have stop : ∀ (g : Nat) (ρ : ST), RWM V H c N ρ → fX12_findPieces_0l17 (g + 1) (nI N) ρ = ρ := fun g ρ hRρ => by
      show fX12_findPieces_0b17 (fX12_findPieces_0l17 g) (nI N) ρ = _
      unfold fX12_findPieces_0b17 fX12_findPieces_0b96
      simp only [bd_e, hRρ.2.1]
      rw [if_pos ((leN (by omega) (by omega)).mpr (Nat.le_refl _))]
    have mark : ∀ (x : Nat) (z : PSt) (ρ : ST), RP V z ρ → RO z x ρ → RP V z (sA ρ 77 (upd (ρ.2.2 77) x (-9))) ∧ RO z (x + 1) (sA ρ 77 (upd (ρ.2.2 77) x (-9))) := fun x z ρ hPz hOz => by
      refine ⟨hPz.fr (I := []) (J := [(77, 77)]) ((Fr.refl ρ).putA rfl) rfl, fun r hr => ?_, fun r hr => hOz.2 r (by omega)⟩
      rw [sA_eq]
      rcases Nat.eq_or_lt_of_le (Nat.le_of_lt_succ hr) with q | q
      · rw [q, pk_us]
        exact (hOz.2 x (Nat.le_refl _)).symm
      · rw [pk_un (by omega)]
        exact hOz.1 r q
    by_cases q : N ≤ l
    · have es : cutS V H c N f l s st tot hd = (s, st, tot, hd) := by
        cases f with
        | zero => rfl
        | succ f => exact if_pos q
      have el : l = N := by omega
      rw [es, el, stop fu τ hR]
      exact ⟨τ, rfl, hP, h36, h37, by rw [← el]; exact hO, Fr.refl τ⟩
    · obtain ⟨f, rfl⟩ : ∃ g, f = g + 1 := ⟨f - 1, by omega⟩
      by_cases d : H l = true
      · obtain ⟨e', he1, he, ee⟩ := endM_l (K := fX12_findPieces_0l17 fu) (l := l) hR 4096 (N - l - 1) l (by omega) (by omega) (Nat.le_refl _) (fun r a b => by rw [show r = l by omega]; exact d)
        have e1 := eh_of N l (by omega) he
        have hel := he.1
        have heN := he.2.1
        have es : cutS V H c N (f + 1) l s st tot hd = cutS V H c N f (e' + 1 + 1) (pcs (cs V c (e' + 1) (e' + 1 - l)).2 st (e' + 1) (e' + 1 - l + 1) l s) (st + 1) (tot + (cs V c (e' + 1) (e' + 1 - l)).1 l) (hd + (e' + 1 - l)) := by
          have z : cutS V H c N (f + 1) l s st tot hd = if e' + 1 ≤ l then cutS V H c N f (l + 1) s st tot hd else cutS V H c N f (e' + 1 + 1) (pcs (cs V c (e' + 1) (e' + 1 - l)).2 st (e' + 1) (e' + 1 - l + 1) l s) (st + 1) (tot + (cs V c (e' + 1) (e' + 1 - l)).1 l) (hd + (e' + 1 - l)) := by
            rw [← e1]
            exact if_neg q
          rw [z, if_neg (by omega)]
        have f36 : Fr [(36, 36)] [] τ (sI τ 36 (nI (st + 1))) := (Fr.refl τ).putI rfl
        obtain ⟨m1, m2, m3, m4⟩ := cut_M (V := V) (c := c) (a := l) (b' := e') (t := st) (s := s) hN (by omega) hc he1 ((f36.1 31 rfl).trans hR.2.1) hR.2.2.1 ((hR.rows he).fr f36 rfl) ((f36.1 37 rfl).trans h37) hs (hP.fr f36 rfl) hO
        have ec : fX12_findPieces_0l17 (fu + 1) (nI l) τ = fX12_findPieces_0l17 fu (nI (e' + 1)) (fX12_cut_0 (nI l) (nI e') (sI τ 36 (nI (st + 1)))) := by
          show fX12_findPieces_0b17 (fX12_findPieces_0l17 fu) (nI l) τ = _
          unfold fX12_findPieces_0b17 fX12_findPieces_0b25 fX12_findPieces_0b33
          simp only [bd_e, hR.2.1, hR.heard (show l < N by omega)]
          rw [if_neg (fun q => absurd ((leN (by omega) (by omega)).mp q) (by omega)), if_pos d, if_neg (show ¬ (1 : Int32) = 0 by decide), ee]
          unfold fX12_findPieces_0b61 fX12_findPieces_0b90
          simp only [bd_e, h36, n_add1]
        have hT : ∀ i, l ≤ i → i < e' + 1 → 1 ≤ (cs V c (e' + 1) (e' + 1 - l)).2 i ∧ i + (cs V c (e' + 1) (e' + 1 - l)).2 i ≤ e' + 1 := fun i p q => cs_T V c (e' + 1) (e' + 1 - l) (by omega) i (by omega) q
        have hle := pcs_le (t := st) hT (e' + 1 - l + 1) l s (Nat.le_refl _) (by omega) hs
        generalize hτ1 : fX12_cut_0 (nI l) (nI e') (sI τ 36 (nI (st + 1))) = τ1 at *
        have f1 : Fr [(35, 38)] [(75, 84)] τ τ1 := (f36.wide rfl rfl).call m4 rfl rfl
        have R1 := hR.fr f1 rfl
        have b36 : τ1.1 36 = nI (st + 1) := by rw [m4.1 36 rfl, sI_eq]
        rw [ec, es]
        obtain ⟨fu, rfl⟩ : ∃ g, fu = g + 1 := ⟨fu - 1, by omega⟩
        rcases Nat.eq_or_lt_of_le heN with w | w
        · have es2 : cutS V H c N f (e' + 1 + 1) (pcs (cs V c (e' + 1) (e' + 1 - l)).2 st (e' + 1) (e' + 1 - l + 1) l s) (st + 1) (tot + (cs V c (e' + 1) (e' + 1 - l)).1 l) (hd + (e' + 1 - l)) = (pcs (cs V c (e' + 1) (e' + 1 - l)).2 st (e' + 1) (e' + 1 - l + 1) l s, st + 1, tot + (cs V c (e' + 1) (e' + 1 - l)).1 l, hd + (e' + 1 - l)) := by
            cases f with
            | zero => rfl
            | succ f => exact if_pos (by omega)
          rw [es2]
          refine ⟨τ1, ?_, m2, b36, m1, ?_, f1⟩
          · rw [w]
            exact stop fu τ1 R1
          · show RO (pcs (cs V c (e' + 1) (e' + 1 - l)).2 st (e' + 1) (e' + 1 - l + 1) l s) N τ1
            rw [← w]
            exact m3
        · have hE := he.2.2.2 w
          obtain ⟨k1, k2⟩ := mark (e' + 1) _ τ1 m2 m3
          rw [step fu (e' + 1) τ1 w R1 hE]
          have f2 : Fr [(35, 38)] [(75, 84)] τ1 (sA τ1 77 (upd (τ1.2.2 77) (e' + 1) (-9))) := (Fr.refl _).putA rfl
          obtain ⟨τ3, z1, z2, z3, z4, z5, z6⟩ := fp17_l hc fu f (e' + 1 + 1) (pcs (cs V c (e' + 1) (e' + 1 - l)).2 st (e' + 1) (e' + 1 - l + 1) l s) (st + 1) (tot + (cs V c (e' + 1) (e' + 1 - l)).1 l) (hd + (e' + 1 - l)) (sA τ1 77 (upd (τ1.2.2 77) (e' + 1) (-9))) (by omega) (by omega) (by omega) (R1.fr f2 rfl) k1 k2 (by omega) b36 m1
          exact ⟨τ3, z1, z2, z3, z4, z5, (f1.call f2 rfl rfl).call z6 rfl rfl⟩
      · have he : EH H N l l := ⟨Nat.le_refl _, by omega, fun r a b => by omega, fun _ => d⟩
        have e1 := eh_of N l (by omega) he
        have es : cutS V H c N (f + 1) l s st tot hd = cutS V H c N f (l + 1) s st tot hd := by
          show (if N ≤ l then (s, st, tot, hd) else if eh H N N l ≤ l then cutS V H c N f (l + 1) s st tot hd else _) = _
          rw [if_neg q, if_pos (by omega)]
        obtain ⟨k1, k2⟩ := mark l s τ hP hO
        rw [es, step fu l τ (by omega) hR d]
        have f2 : Fr [(35, 38)] [(75, 84)] τ (sA τ 77 (upd (τ.2.2 77) l (-9))) := (Fr.refl _).putA rfl
        obtain ⟨τ3, z1, z2, z3, z4, z5, z6⟩ := fp17_l hc fu f (l + 1) s st tot hd (sA τ 77 (upd (τ.2.2 77) l (-9))) (by omega) (by omega) (by omega) (hR.fr f2 rfl) k1 k2 (by omega) h36 h37
        exact ⟨τ3, z1, z2, z3, z4, z5, f2.call z6 rfl rfl⟩
/-- what the reference finds -/
def FPM (V : Nat → Nat) (H : Nat → Bool) (c N : Nat) (σ : ST) : Prop := RP V (CUT V H c N).1 σ ∧ σ.1 36 = nI (CUT V H c N).2.1 ∧ σ.1 37 = nI (CUT V H c N).2.2.1 ∧ ∀ r, r < N → σ.2.2 77 r = (CUT V H c N).1.2.2 r
theorem pieces_M {V : Nat → Nat} {H : Nat → Bool} {c N : Nat} {σ : ST} (hc : c ≤ 999) (hR : RWM V H c N σ) : FPM V H c N (fX12_findPieces_0 σ) ∧ Fr [(35, 38)] [(75, 84)] σ (fX12_findPieces_0 σ) := by
  generalize hx : fX12_findPieces_0 σ = x
  unfold fX12_findPieces_0 fX12_findPieces_0b0 at hx
  simp only [bd_e] at hx
  generalize h1 : sI (sI (sI σ 35 0) 36 0) 37 0 = τ0 at hx
  have f0 : Fr [(35, 38)] [(75, 84)] σ τ0 := by
    rw [← h1]
    exact (((Fr.refl σ).putI rfl).putI rfl).putI rfl
  have hN := hR.1
  obtain ⟨τ2, y0, y1, y2, y3, y4, y5⟩ := fp17_l hc 4096 (N + 1) 0 (0, fun _ => (0, 0, 0), fun _ => -9) 0 0 0 τ0 (by omega) (by omega) (by omega) (hR.fr f0 rfl) ⟨by rw [← h1, sI_ne _ _ rfl, sI_ne _ _ rfl, sI_eq, nI_0], fun q hq => absurd hq (Nat.not_lt_zero _)⟩ ⟨fun r hr => absurd hr (Nat.not_lt_zero _), fun r _ => rfl⟩ (Nat.le_refl _) (by rw [← h1, sI_ne _ _ rfl, sI_eq, nI_0]) (by rw [← h1, sI_eq, nI_0])
  have e : x = τ2 := by
    rw [← hx, ← y0, nI_0]
  rw [e]
  exact ⟨⟨y1, y2, y3, y4.1⟩, f0.call y5 rfl rfl⟩
/-- the heard rows -/
theorem cn_all {H : Nat → Bool} {l : Nat} : ∀ d, (∀ r, l ≤ r → r < l + d → H r = true) → cn H (l + d) = cn H l + d
  | 0, _ => rfl
  | d + 1, h => by
    show cn H (l + d) + (if H (l + d) = true then 1 else 0) = cn H l + (d + 1)
    rw [cn_all d (fun r a b => h r a (by omega)), if_pos (h (l + d) (by omega) (by omega))]
    omega
theorem cutS_hd (V : Nat → Nat) (H : Nat → Bool) (c N : Nat) : ∀ f l s st tot hd, N + 1 - l ≤ f → l ≤ N → (cutS V H c N f l s st tot hd).2.2.2 + cn H l = hd + cn H N
  | 0, l, s, st, tot, hd, hf, hl => by omega
  | f + 1, l, s, st, tot, hd, hf, hl => by
    by_cases q : N ≤ l
    · have es : cutS V H c N (f + 1) l s st tot hd = (s, st, tot, hd) := if_pos q
      rw [es, show l = N by omega]
    · have ex : ∀ d l, l + d = N → ∃ e, EH H N l e := by
        intro d
        induction d with
        | zero => exact fun l h => ⟨l, Nat.le_refl _, by omega, fun r a b => by omega, fun z => by omega⟩
        | succ d ih =>
          intro l h
          by_cases z : H l = true
          · obtain ⟨e, e1, e2, e3, e4⟩ := ih (l + 1) (by omega)
            refine ⟨e, by omega, e2, fun r a b => ?_, e4⟩
            rcases Nat.eq_or_lt_of_le a with w | w
            · rw [← w]
              exact z
            · exact e3 r w b
          · exact ⟨l, Nat.le_refl _, by omega, fun r a b => by omega, fun _ => z⟩
      obtain ⟨e, he⟩ := ex (N - l) l (by omega)
      have e1 := eh_of N l (by omega) he
      have hel := he.1
      have heN := he.2.1
      have es : cutS V H c N (f + 1) l s st tot hd = if e ≤ l then cutS V H c N f (l + 1) s st tot hd else cutS V H c N f (e + 1) (pcs (cs V c e (e - l)).2 st e (e - l + 1) l s) (st + 1) (tot + (cs V c e (e - l)).1 l) (hd + (e - l)) := by
        rw [← e1]
        exact if_neg q
      have ca := cn_all (H := H) (l := l) (e - l) (fun r a b => he.2.2.1 r a (by omega))
      rw [show l + (e - l) = e by omega] at ca
      rw [es]
      by_cases d : e ≤ l
      · have el : e = l := by omega
        rw [if_pos d]
        have ih := cutS_hd V H c N f (l + 1) s st tot hd (by omega) (by omega)
        have cl : cn H (l + 1) = cn H l := by
          show cn H l + (if H l = true then 1 else 0) = cn H l
          rw [if_neg (by rw [← el]; exact he.2.2.2 (by omega))]
          rfl
        omega
      · rw [if_neg d]
        rcases Nat.eq_or_lt_of_le heN with w | w
        · have es2 : ∀ z1 z2 z3 z4, cutS V H c N f (e + 1) z1 z2 z3 z4 = (z1, z2, z3, z4) := fun z1 z2 z3 z4 => by
            cases f with
            | zero => rfl
            | succ f => exact if_pos (by omega)
          rw [es2]
          show hd + (e - l) + cn H l = hd + cn H N
          rw [← w, ca]
          omega
        · have ih := cutS_hd V H c N f (e + 1) (pcs (cs V c e (e - l)).2 st e (e - l + 1) l s) (st + 1) (tot + (cs V c e (e - l)).1 l) (hd + (e - l)) (by omega) (by omega)
          have cl : cn H (e + 1) = cn H e := by
            show cn H e + (if H e = true then 1 else 0) = cn H e
            rw [if_neg (he.2.2.2 w)]
            rfl
          omega
theorem CUT_hd (V : Nat → Nat) (H : Nat → Bool) (c N : Nat) : (CUT V H c N).2.2.2 = cn H N := by
  have h := cutS_hd V H c N (N + 1) 0 (0, fun _ => (0, 0, 0), fun _ => -9) 0 0 0 (by omega) (by omega)
  have z : cn H 0 = 0 := rfl
  unfold CUT
  omega
