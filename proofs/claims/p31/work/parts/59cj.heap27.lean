/-! the near ones of the class -/
theorem dealN_X {L : Nat → Nat → Int32} {n : Nat} {T : Int32} (hn : n ≤ 9) : ∀ (d i : Nat) (a : Nat → Nat) (l : List (Nat → Nat)) (m : Int64) (τ : ST) (D : Nat), i + d = n → d < D → hpi a i ≤ i → TIED L n τ → τ.1 12 = 1 → τ.1 13 = T → DSI a i τ → PRS a i m → NIV n (NRL L n T l) τ → ∃ τ', fX0_deal_0 D (nI i) (nI (hpi a i)) (WO L a i) m τ = τ' ∧ NIV n (NRL L n T (l ++ lvs d i a)) τ' ∧ DSI a i τ' ∧ Fr [(14, 16)] [(44, 45)] τ τ' := by
  intro d
  induction d with
  | zero =>
    intro i a l m τ D hd hD hh hT h12 h13 hS hP hB
    obtain ⟨D, rfl⟩ : ∃ E, D = E + 1 := ⟨D - 1, by omega⟩
    have ei : i = n := by omega
    subst ei
    obtain ⟨k1, k2⟩ := meetNear_X (a := a) (l := l) (m := m) hn (by omega) h12 h13 hP hB
    have k3 : Fr [(14, 16)] [(44, 45)] τ (fX0_meet_0 (nI i) (nI (hpi a i)) (WO L a i) m τ) := k2.wide rfl rfl
    refine ⟨_, ?_, k1, ⟨fun j hj => by rw [k2.2 44 rfl]; exact hS.1 j hj, fun v hv => by rw [k2.2 45 rfl]; exact hS.2 v hv⟩, k3⟩
    show fX0_deal_0b0 (fX0_deal_0 D) (nI i) (nI (hpi a i)) (WO L a i) m τ = _
    unfold fX0_deal_0b0 fX0_deal_0b14
    simp only [bd_e, hT.1]
    rw [if_pos ((leN (by omega) (by omega)).mpr (Nat.le_refl _))]
  | succ d ih =>
    intro i a l m τ D hd hD hh hT h12 h13 hS hP hB
    obtain ⟨D, rfl⟩ : ∃ E, D = E + 1 := ⟨D - 1, by omega⟩
    have ni : (nI i).toNatClampNeg = i := nI_clamp (by omega)
    have inner : ∀ (k v fu : Nat) (l : List (Nat → Nat)) (τ : ST), v + k = hpi a i + 1 → k < fu → TIED L n τ → τ.1 12 = 1 → τ.1 13 = T → DSI a i τ → NIV n (NRL L n T l) τ → ∃ τ', fX0_deal_0l31 (fX0_deal_0 D) fu (nI i) (nI (hpi a i)) (WO L a i) m (nI v) τ = τ' ∧ NIV n (NRL L n T (l ++ lvv (fun v => lvs d (i + 1) (stA a i v)) k v)) τ' ∧ DSI a i τ' ∧ Fr [(14, 16)] [(44, 45)] τ τ' := by
      intro k
      induction k with
      | zero =>
        intro v fu l τ hv hfu hT h12 h13 hS hB
        obtain ⟨fu, rfl⟩ : ∃ g, fu = g + 1 := ⟨fu - 1, by omega⟩
        refine ⟨τ, ?_, by rw [show lvv (fun v => lvs d (i + 1) (stA a i v)) 0 v = [] from rfl, List.append_nil]; exact hB, hS, Fr.refl τ⟩
        show fX0_deal_0b31 (fX0_deal_0 D) (fX0_deal_0l31 (fX0_deal_0 D) fu) (nI i) (nI (hpi a i)) (WO L a i) m (nI v) τ = _
        unfold fX0_deal_0b31 fX0_deal_0b126
        rw [if_pos ((nI_ltI (by omega) (by omega)).mpr (by omega))]
      | succ k ihk =>
        intro v fu l τ hv hfu hT h12 h13 hS hB
        obtain ⟨fu, rfl⟩ : ∃ g, fu = g + 1 := ⟨fu - 1, by omega⟩
        have nv : (nI v).toNatClampNeg = v := nI_clamp (by omega)
        have hmk := mk_lt a v i
        have p9 := pow9 (show i ≤ 9 by omega)
        have pre : ∀ j, j < i → stA a i v j = a j := fun j hj => if_neg (by omega)
        have at_i : stA a i v i = v := if_pos rfl
        have hp : hpi (stA a i v) (i + 1) = max (hpi a i) (v + 1) := by
          show max (hpi (stA a i v) i) (stA a i v i + 1) = _
          rw [at_i, hpi_congr i pre]
        generalize g1 : sA τ 44 (upd (τ.2.2 44) i (nI v)) = τ1
        generalize g2 : sA τ1 45 (upd (τ1.2.2 45) v (nI (2 ^ i + mk a v i))) = τ2
        have f2 : Fr [(14, 16)] [(44, 45)] τ τ2 := by
          rw [← g2, ← g1]
          exact ((Fr.refl τ).putA rfl).putA rfl
        have a44 : τ2.2.2 44 = upd (τ.2.2 44) i (nI v) := by rw [← g2, sA_ne _ _ rfl, ← g1, sA_eq]
        have a45 : τ2.2.2 45 = upd (τ.2.2 45) v (nI (2 ^ i + mk a v i)) := by rw [← g2, sA_eq, ← g1, sA_ne _ _ rfl]
        have T2 := hT.fr' hn f2 rfl rfl rfl
        have eg : WO L a i + fX1_gainOf_0 (nI i) (nI (mk a v i)) τ2 = WO L (stA a i v) (i + 1) := by
          rw [gain_X T2 hn (by omega) hmk, gs_rs i (Nat.le_refl _)]
          show _ = WO L (stA a i v) i + rs L (stA a i v) i i
          rw [WO_congr i pre]
        have S2 : DSI (stA a i v) (i + 1) τ2 := by
          refine ⟨fun j hj => ?_, fun u hu => ?_⟩
          · rw [a44]
            rcases Nat.eq_or_lt_of_le (Nat.le_of_lt_succ hj) with c | c
            · rw [c, pk_us, at_i]
            · rw [pk_un (by omega), pre j c]
              exact hS.1 j c
          · rw [a45]
            show _ = nI (if stA a i v i = u then 2 ^ i + mk (stA a i v) u i else mk (stA a i v) u i)
            rw [at_i, mk_congr u i pre]
            by_cases c : v = u
            · rw [if_pos c, ← c, pk_us]
            · rw [if_neg c, pk_un (fun q => c q.symm)]
              exact hS.2 u hu
        have hB2 : NIV n (NRL L n T l) τ2 := hB.fr (show Fr [] [(44, 45)] τ τ2 by
          rw [← g2, ← g1]
          exact ((Fr.refl τ).putA rfl).putA rfl) rfl (by
          rw [← g2, ← g1]
          exact ⟨rfl, rfl⟩)
        have emax : (if nI (hpi a i) < nI (v + 1) then nI (v + 1) else nI (hpi a i)) = nI (max (hpi a i) (v + 1)) := by
          by_cases c : hpi a i < v + 1
          · rw [if_pos ((nI_ltI (by omega) (by omega)).mpr c), show max (hpi a i) (v + 1) = v + 1 by omega]
          · rw [if_neg (fun z => c (y_lt (by omega) (by omega) z)), show max (hpi a i) (v + 1) = hpi a i by omega]
        have eor : nI (mk a v i) ||| (1 : Int32) <<< (nI i &&& 31) = nI (2 ^ i + mk a v i) := by
          rw [y_shl1 (show i < 31 by omega), y_or, Nat.or_comm, or_pow hmk]
        generalize gm : m ||| (nI (mk a v i)).toInt64 <<< ((nI (tri i)).toInt64 &&& 63) = mm
        have hPm : PRS (stA a i v) (i + 1) mm := by
          rw [← gm]
          exact hP.step (by omega)
        have run : ∃ τ', fX0_deal_0 D (nI (i + 1)) (nI (max (hpi a i) (v + 1))) (WO L (stA a i v) (i + 1)) mm τ2 = τ' ∧ NIV n (NRL L n T (l ++ lvs d (i + 1) (stA a i v))) τ' ∧ DSI (stA a i v) (i + 1) τ' ∧ Fr [(14, 16)] [(44, 45)] τ2 τ' := by
          have r := ih (i + 1) (stA a i v) l mm τ2 D (by omega) (by omega) (by rw [hp]; omega) T2 ((f2.1 12 rfl).trans h12) ((f2.1 13 rfl).trans h13) S2 hPm hB2
          rw [hp] at r
          exact r
        have e1 : fX0_deal_0l31 (fX0_deal_0 D) (fu + 1) (nI i) (nI (hpi a i)) (WO L a i) m (nI v) τ = fX0_deal_0l31 (fX0_deal_0 D) fu (nI i) (nI (hpi a i)) (WO L a i) m (nI (v + 1)) (sA (fX0_deal_0 D (nI (i + 1)) (nI (max (hpi a i) (v + 1))) (WO L (stA a i v) (i + 1)) mm τ2) 45 (upd ((fX0_deal_0 D (nI (i + 1)) (nI (max (hpi a i) (v + 1))) (WO L (stA a i v) (i + 1)) mm τ2).2.2 45) v (nI (mk a v i)))) := by
          show fX0_deal_0b31 (fX0_deal_0 D) (fX0_deal_0l31 (fX0_deal_0 D) fu) (nI i) (nI (hpi a i)) (WO L a i) m (nI v) τ = _
          unfold fX0_deal_0b31 fX0_deal_0b37 fX0_deal_0b44
          rw [if_neg (fun z => absurd (y_lt (by omega) (by omega) z) (by omega)), if_neg (show ¬ 9 ≤ nI v from fun q => absurd ((leN (a := 9) (by omega) (by omega)).mp q) (by omega))]
          simp only [bd_e, ni, nv, hS.2 v (by omega), g1, eor, g2, n_add1, emax, eg, pop_X (show i < 9 by omega), gm]
        obtain ⟨τ3, y1, y2, y3, y4⟩ := run
        rw [y1] at e1
        generalize g4 : sA τ3 45 (upd (τ3.2.2 45) v (nI (mk a v i))) = τ4 at e1
        have f4 : Fr [(14, 16)] [(44, 45)] τ3 τ4 := by
          rw [← g4]
          exact (Fr.refl _).putA rfl
        have fA := (f2.call y4 rfl rfl).call f4 rfl rfl
        have S4 : DSI a i τ4 := by
          refine ⟨fun j hj => ?_, fun u hu => ?_⟩
          · rw [← g4, sA_ne _ _ rfl, y3.1 j (by omega), pre j hj]
          · rw [← g4, sA_eq]
            by_cases c : u = v
            · rw [c, pk_us]
            · rw [pk_un c, y3.2 u hu]
              show nI (if stA a i v i = u then 2 ^ i + mk (stA a i v) u i else mk (stA a i v) u i) = _
              rw [at_i, if_neg (fun q => c q.symm), mk_congr u i pre]
        have B4 : NIV n (NRL L n T (l ++ lvs d (i + 1) (stA a i v))) τ4 := y2.fr (show Fr [] [(44, 45)] τ3 τ4 by
          rw [← g4]
          exact (Fr.refl τ3).putA rfl) rfl (by
          rw [← g4]
          exact ⟨rfl, rfl⟩)
        obtain ⟨τ5, z1, z2, z3, z4⟩ := ihk (v + 1) fu _ τ4 (by omega) (by omega) (hT.fr' hn fA rfl rfl rfl) ((fA.1 12 rfl).trans h12) ((fA.1 13 rfl).trans h13) S4 B4
        refine ⟨τ5, e1.trans z1, ?_, z3, fA.call z4 rfl rfl⟩
        rw [List.append_assoc] at z2
        exact z2
    obtain ⟨τ5, z1, z2, z3, z4⟩ := inner (hpi a i + 1) 0 4096 l τ (by omega) (by omega) hT h12 h13 hS hB
    refine ⟨τ5, ?_, z2, z3, z4⟩
    rw [← z1, nI_0]
    show fX0_deal_0b0 (fX0_deal_0 D) (nI i) (nI (hpi a i)) (WO L a i) m τ = _
    unfold fX0_deal_0b0 fX0_deal_0b8 fX0_deal_0b28
    simp only [bd_e, hT.1]
    rw [if_neg (fun q => absurd ((leN (by omega) (by omega)).mp q) (by omega)), if_pos (show nI i < 9 from (nI_ltI (b := 9) (by omega) (by omega)).mpr (by omega))]
theorem findNear_X {L : Nat → Nat → Int32} {n : Nat} {B : BB} {E : Int32} {σ : ST} (hn : n ≤ 9) (hT : TIED L n σ) (h11 : σ.1 11 = B.2.1) : NRS n (NRL L n (B.2.1 - E) (lvs n 0 (fun _ => 0))) (fX0_findNear_0 E σ) ∧ Fr [(12, 16)] [(44, 45)] σ (fX0_findNear_0 E σ) := by
  generalize g1 : sI σ 12 1 = τ1
  generalize g2 : sI τ1 13 (B.2.1 - E) = τ2
  generalize g3 : sI τ2 14 0 = τ3
  generalize g4 : sI τ3 15 9 = τ4
  generalize g5 : sI τ4 16 0 = τ5
  generalize g6 : sL τ5 0 (-1) = τ6
  generalize g7 : sL τ6 1 0 = τ7
  generalize g8 : sA τ7 45 (fun j => if j < 9 then 0 else τ7.2.2 45 j) = τ8
  have a11 : τ1.1 11 = B.2.1 := by rw [← g1, sI_ne _ _ rfl, h11]
  have f5 : Fr [(12, 16)] [] σ τ5 := by
    rw [← g5, ← g4, ← g3, ← g2, ← g1]
    exact (((((Fr.refl σ).putI rfl).putI rfl).putI rfl).putI rfl).putI rfl
  have f8 : Fr [(12, 16)] [(44, 45)] σ τ8 := by
    have f7 : Fr [(12, 16)] [(44, 45)] σ τ7 := by
      rw [← g7, ← g6]
      exact ⟨f5.1, fun k _ => f5.2 k rfl⟩
    rw [← g8]
    exact f7.putA rfl
  have i8 : τ8.1 = τ5.1 := by
    rw [← g8, ← g7, ← g6]
    rfl
  have l80 : τ8.2.1 0 = -1 := by
    rw [← g8, ← g7, ← g6]
    rfl
  have l81 : τ8.2.1 1 = 0 := by
    rw [← g8, ← g7]
    rfl
  have hN : NIV n (NRL L n (B.2.1 - E) []) τ8 := by
    refine ⟨⟨?_, ?_, ?_, fun hi lo hlo hhi => ?_⟩, Nat.le_refl _, Nat.zero_le _⟩
    · rw [i8, ← g5, sI_ne _ _ rfl, ← g4, sI_ne _ _ rfl, ← g3, sI_eq]
      exact nI_0.symm
    · rw [i8, ← g5, sI_ne _ _ rfl, ← g4, sI_eq]
      rfl
    · rw [i8, ← g5, sI_eq]
      exact nI_0.symm
    · have tm := (tri_s (show hi < 9 by omega)).2
      rw [l80, l81, bt_m1 (by omega), bt_0]
      exact ⟨rfl, rfl⟩
  have e : fX0_findNear_0 E σ = fX0_deal_0 10 (nI 0) (nI (hpi (fun _ => 0) 0)) (WO L (fun _ => 0) 0) 0 τ8 := by
    unfold fX0_findNear_0 fX0_findNear_0b0
    simp only [bd_e, g1, a11, g2, g3, g4, g5, g6, g7, g8]
    show fX0_deal_0 10 0 0 0 0 τ8 = fX0_deal_0 10 (nI 0) (nI 0) 0 0 τ8
    rw [nI_0]
  obtain ⟨τ', y1, y2, _, y4⟩ := dealN_X hn n 0 (fun _ => 0) [] 0 τ8 10 (by omega) (by omega) (Nat.le_refl _) (hT.fr' hn f8 rfl rfl rfl) (by rw [i8, ← g5, sI_ne _ _ rfl, ← g4, sI_ne _ _ rfl, ← g3, sI_ne _ _ rfl, ← g2, sI_ne _ _ rfl, ← g1, sI_eq]) (by rw [i8, ← g5, sI_ne _ _ rfl, ← g4, sI_ne _ _ rfl, ← g3, sI_ne _ _ rfl, ← g2, sI_eq]) ⟨fun j hj => absurd hj (Nat.not_lt_zero _), fun v hv => by
    rw [← g8, sA_eq]
    show (if v < 9 then 0 else τ7.2.2 45 v) = nI 0
    rw [if_pos hv, nI_0]⟩ ⟨fun hi lo _ h => absurd h (Nat.not_lt_zero _), fun t _ => bt_0 t⟩ hN
  rw [e, y1]
  exact ⟨y2.1, f8.call y4 rfl rfl⟩
/-- nearNow, behind heapNow -/
theorem nearNow_X {V : Nat → Nat} {H : Nat → Bool} {c c1 N r2 r3 r4 : Nat} {σ : ST} (h : KHP σ) (h23 : σ.1 23 = 0) (hF : FX V H c c1 N r2 r3 r4 σ) : KHP (fX11_nearNow_0 σ) ∧ NRS (CUT V H c N).1.1 (NEc V H c N r2 r3 r4) (fX11_nearNow_0 σ) ∧ Fr [(12, 16), (24, 24)] [(44, 45)] σ (fX11_nearNow_0 σ) := by
  have e : fX11_nearNow_0 σ = if σ.1 24 = 0 then σ else sI (fX0_findNear_0 (σ.2.2 1 3) σ) 24 0 := by
    have z3 : (3 : Int32) = nI 3 := rfl
    have r3 := ruleNow_X (k := 3) (by omega) σ
    unfold fX11_nearNow_0 fX11_nearNow_0b0 fX11_nearNow_0b7 fX11_nearNow_0b31
    simp only [bd_e, z3, r3]
  rw [e]
  by_cases q : σ.1 24 = 0
  · rw [if_pos q]
    exact ⟨h, (h.2.2 q).2 V H c c1 N r2 r3 r4 hF, Fr.refl σ⟩
  · rw [if_neg q]
    obtain ⟨h22, hH⟩ := h.2.1 h23
    have all : ∀ V H c c1 N r2 r3 r4, FX V H c c1 N r2 r3 r4 σ → NRS (CUT V H c N).1.1 (NEc V H c N r2 r3 r4) (fX0_findNear_0 (σ.2.2 1 3) σ) ∧ Fr [(12, 16)] [(44, 45)] σ (fX0_findNear_0 (σ.2.2 1 3) σ) := fun V H c c1 N r2 r3 r4 hF => by
      obtain ⟨x1, x2, x3, _, _⟩ := hH V H c c1 N r2 r3 r4 hF
      have e3 := hF.2.2.2.2.2.2.2.1
      rw [e3]
      exact findNear_X x1 x2 (x3.1 (BEST_t _ _)).1
    obtain ⟨k1, k2⟩ := all V H c c1 N r2 r3 r4 hF
    generalize gt : fX0_findNear_0 (σ.2.2 1 3) σ = τ at *
    have f1 : Fr [(24, 24)] [] τ (sI τ 24 0) := (Fr.refl τ).putI rfl
    have fA : Fr [(12, 16), (24, 24)] [(44, 45)] σ (sI τ 24 0) := (k2.wide rfl rfl).call f1 rfl rfl
    have bk : Fr [(12, 16), (24, 24)] [(44, 45)] (sI τ 24 0) σ := ⟨fun k e => (fA.1 k e).symm, fun k e => (fA.2 k e).symm⟩
    refine ⟨⟨h.1.fr fA rfl rfl, fun _ => ⟨(fA.1 22 rfl).trans h22, fun V' H' c' c1' N' r2' r3' r4' hF' => (hH V' H' c' c1' N' r2' r3' r4' (hF'.fr bk rfl)).fr fA rfl rfl⟩, fun _ => ⟨(fA.1 23 rfl).trans h23, fun V' H' c' c1' N' r2' r3' r4' hF' => (all V' H' c' c1' N' r2' r3' r4' (hF'.fr bk rfl)).1.fr f1 rfl ⟨rfl, rfl⟩⟩⟩, k1.fr f1 rfl ⟨rfl, rfl⟩, fA⟩
