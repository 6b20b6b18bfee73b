/-! near: both sides -/
/-- what the reference stands on when it looks at all dealings out -/
abbrev NQ (L : Nat → Nat → Int32) (n : Nat) (W R : Int32) (τ : ST) : Prop := τ.1 35 = nI n ∧ GNS L n τ ∧ τ.1 39 = W ∧ τ.2.2 66 3 = R
/-- the reference's count, fewest, most -/
def nst (L : Nat → Nat → Int32) (n : Nat) (T : Int32) (s : Int32 × Int32 × Int32) (x : Nat → Nat) : Int32 × Int32 × Int32 := if WO L x n < T then s else (s.1 + 1, (if s.2.1 ≤ nI (hpi x n) then s.2.1 else nI (hpi x n)), (if nI (hpi x n) ≤ s.2.2 then s.2.2 else nI (hpi x n)))
theorem near_one {L : Nat → Nat → Int32} {n : Nat} {a W R : Int32} (hn : n ≤ 9) (hs : ∀ x y, x < n → y < n → L x y = L y x) : EN (Int32 × Int32 × Int32) n (fun fu s v τ => fX12_near_0l76 fu a s.1 s.2.1 s.2.2 v τ) (nst L n (W - R)) (NQ L n W R) := by
  refine ⟨fun τ τ' h f => ⟨(f.1 35 rfl).trans h.1, h.2.1.fr f rfl, (f.1 39 rfl).trans h.2.2.1, by rw [f.2 66 rfl]; exact h.2.2.2⟩, fun τ h => h.1, fun fu s x τ h hA => ?_⟩
  obtain ⟨h35, hG, h39, h66⟩ := h
  have ew := worth_M hn h35 hG hs hA
  have eh := heapsIn_M (a := x) (i := n) (τ := τ) hn hA
  have z3 : (3 : Int32).toNatClampNeg = 3 := by decide
  have ego : fX12_goOn_0 τ = fX12_goOn_0l7 4096 (nI n - 1) τ := by
    unfold fX12_goOn_0 fX12_goOn_0b0
    rw [bd_e, bd_e, h35]
  have e148 : ∀ p q r : Int32, fX12_near_0b148 (fX12_near_0l76 fu) a p q r τ = bp (fX12_goOn_0l7 4096 (nI n - 1) τ) fun v t => fX12_near_0l76 fu a p q r v t := fun p q r => by
    unfold fX12_near_0b148
    rw [ego]
  show fX12_near_0b76 (fX12_near_0l76 fu) a s.1 s.2.1 s.2.2 1 τ = bp (fX12_goOn_0l7 4096 (nI n - 1) τ) fun v t => fX12_near_0l76 fu a (nst L n (W - R) s x).1 (nst L n (W - R) s x).2.1 (nst L n (W - R) s x).2.2 v t
  unfold fX12_near_0b76
  rw [if_neg no10]
  unfold fX12_near_0b81
  rw [bd_e, ew, bd_e, h39, bd_e, z3, h66, bd_e]
  unfold nst
  by_cases c : WO L x n < W - R
  · rw [if_pos c, if_pos c, e148]
  · rw [if_neg c, if_neg c]
    unfold fX12_near_0b103
    rw [bd_e, h35, bd_e, eh, bd_e]
    show _ = bp (fX12_goOn_0l7 4096 (nI n - 1) τ) fun v t => fX12_near_0l76 fu a (s.1 + 1) (if s.2.1 ≤ nI (hpi x n) then s.2.1 else nI (hpi x n)) (if nI (hpi x n) ≤ s.2.2 then s.2.2 else nI (hpi x n)) v t
    by_cases d : s.2.1 ≤ nI (hpi x n)
    · rw [if_pos d, if_pos d]
      unfold fX12_near_0b130 fX12_near_0b131
      by_cases e : nI (hpi x n) ≤ s.2.2
      · rw [if_pos e, if_pos e]
        unfold fX12_near_0b144 fX12_near_0b146
        rw [e148]
      · rw [if_neg e, if_neg e]
        unfold fX12_near_0b139 fX12_near_0b146
        rw [e148]
    · rw [if_neg d, if_neg d]
      unfold fX12_near_0b125 fX12_near_0b131
      by_cases e : nI (hpi x n) ≤ s.2.2
      · rw [if_pos e, if_pos e]
        unfold fX12_near_0b144 fX12_near_0b146
        rw [e148]
      · rw [if_neg e, if_neg e]
        unfold fX12_near_0b139 fX12_near_0b146
        rw [e148]
theorem fold_filter {X : Type} {L : Nat → Nat → Int32} {n : Nat} {T : Int32} {st : X → (Nat → Nat) → X} (h : ∀ s x, WO L x n < T → st s x = s) : ∀ (l : List (Nat → Nat)) (s : X), l.foldl st s = (NRL L n T l).foldl st s
  | [], _ => rfl
  | x :: l, s => by
    have ef : NRL L n T (x :: l) = if WO L x n < T then NRL L n T l else x :: NRL L n T l := by
      by_cases c : WO L x n < T
      · rw [if_pos c]
        exact List.filter_cons_of_neg (p := fun a => decide (¬ WO L a n < T)) (fun w => of_decide_eq_true w c)
      · rw [if_neg c]
        exact List.filter_cons_of_pos (p := fun a => decide (¬ WO L a n < T)) (decide_eq_true c)
    rw [ef]
    show l.foldl st (st s x) = _
    by_cases c : WO L x n < T
    · rw [if_pos c, h s x c]
      exact fold_filter h l s
    · rw [if_neg c]
      exact fold_filter h l (st s x)
theorem nfold {L : Nat → Nat → Int32} {n : Nat} {T : Int32} : ∀ (l : List (Nat → Nat)) (k f m : Nat), (∀ x, x ∈ l → ¬ WO L x n < T ∧ hpi x n ≤ 9) → f ≤ 9 → m ≤ 9 → l.foldl (nst L n T) (nI k, nI f, nI m) = (nI (k + l.length), nI (l.foldl (fun m a => min m (hpi a n)) f), nI (l.foldl (fun m a => max m (hpi a n)) m))
  | [], _, _, _, _, _, _ => rfl
  | x :: l, k, f, m, h, hf, hm => by
    obtain ⟨h1, h2⟩ := h x List.mem_cons_self
    have e : nst L n T (nI k, nI f, nI m) x = (nI (k + 1), nI (min f (hpi x n)), nI (max m (hpi x n))) := by
      unfold nst
      rw [if_neg h1]
      show (nI k + 1, (if nI f ≤ nI (hpi x n) then nI f else nI (hpi x n)), (if nI (hpi x n) ≤ nI m then nI m else nI (hpi x n))) = _
      have e1 : (if nI f ≤ nI (hpi x n) then nI f else nI (hpi x n)) = nI (min f (hpi x n)) := by
        by_cases c : f ≤ hpi x n
        · rw [if_pos ((leN (by omega) (by omega)).mpr c), Nat.min_eq_left c]
        · rw [if_neg (fun q => c ((leN (by omega) (by omega)).mp q)), Nat.min_eq_right (by omega)]
      have e2 : (if nI (hpi x n) ≤ nI m then nI m else nI (hpi x n)) = nI (max m (hpi x n)) := by
        by_cases c : hpi x n ≤ m
        · rw [if_pos ((leN (by omega) (by omega)).mpr c), Nat.max_eq_left c]
        · rw [if_neg (fun q => c ((leN (by omega) (by omega)).mp q)), Nat.max_eq_right (by omega)]
      rw [e1, e2, n_add1]
    show l.foldl (nst L n T) (nst L n T (nI k, nI f, nI m) x) = (nI (k + (l.length + 1)), nI (l.foldl (fun m a => min m (hpi a n)) (min f (hpi x n))), nI (l.foldl (fun m a => max m (hpi a n)) (max m (hpi x n))))
    rw [e, nfold l (k + 1) (min f (hpi x n)) (max m (hpi x n)) (fun y hy => h y (List.mem_cons_of_mem _ hy)) (by omega) (by omega), show k + 1 + l.length = k + (l.length + 1) by omega]
theorem nfold0 {L : Nat → Nat → Int32} {n : Nat} {T : Int32} {l : List (Nat → Nat)} (hne : ∃ x, x ∈ l) (h : ∀ x, x ∈ l → ¬ WO L x n < T ∧ hpi x n ≤ 9) : l.foldl (nst L n T) (0, 10, -1) = (nI l.length, nI (few n l), nI (mst n l)) := by
  cases l with
  | nil =>
    obtain ⟨x, hx⟩ := hne
    exact absurd hx List.not_mem_nil
  | cons x l =>
    obtain ⟨h1, h2⟩ := h x List.mem_cons_self
    have e : nst L n T (0, 10, -1) x = (nI 1, nI (min 9 (hpi x n)), nI (max 0 (hpi x n))) := by
      unfold nst
      rw [if_neg h1, Nat.min_eq_right h2, Nat.max_eq_right (Nat.zero_le _)]
      show ((0 : Int32) + 1, (if (10 : Int32) ≤ nI (hpi x n) then (10 : Int32) else nI (hpi x n)), (if nI (hpi x n) ≤ (-1 : Int32) then (-1 : Int32) else nI (hpi x n))) = _
      rw [if_neg (show ¬ (10 : Int32) ≤ nI (hpi x n) from fun q => absurd ((leN (a := 10) (by omega) (by omega)).mp q) (by omega)), if_neg (show ¬ nI (hpi x n) ≤ (-1 : Int32) from fun q => by
        rw [Int32.le_iff_toInt_le, nI_toInt (by omega)] at q
        have z : (-1 : Int32).toInt = -1 := by decide
        omega)]
      rfl
    show l.foldl (nst L n T) (nst L n T (0, 10, -1) x) = (nI (l.length + 1), nI (l.foldl (fun m a => min m (hpi a n)) (min 9 (hpi x n))), nI (l.foldl (fun m a => max m (hpi a n)) (max 0 (hpi x n))))
    rw [e, nfold l 1 (min 9 (hpi x n)) (max 0 (hpi x n)) (fun y hy => h y (List.mem_cons_of_mem _ hy)) (by omega) (by omega), Nat.add_comm 1 l.length]
theorem sub_ok {W : Int32} {r : Nat} (hW : ¬ W ≤ -1000000000) (hr : r ≤ 9999) : ¬ W < W - nI r := by
  intro q
  rw [Int32.le_iff_toInt_le] at hW
  have z : (-1000000000 : Int32).toInt = -1000000000 := by decide
  have zr : (nI r).toInt = r := nI_toInt (by omega)
  have l1 := Int32.le_toInt W
  have l2 := Int32.toInt_lt W
  have e : (W - nI r).toInt = W.toInt - r := by
    rw [Int32.toInt_sub, zr]
    exact Int.bmod_eq_of_le (by omega) (by omega)
  rw [Int32.lt_iff_toInt_lt, e] at q
  omega
theorem hp9 {n : Nat} (hn : n ≤ 9) {x : Nat → Nat} (hx : x ∈ lvs n 0 (fun _ => 0)) : hpi x n ≤ 9 := Nat.le_trans (RG.le _ (lvs_RG n 0 (fun _ => 0) (by omega) (fun j hj => absurd hj (Nat.not_lt_zero _)) x hx)) hn
theorem begin_Q {L : Nat → Nat → Int32} {n : Nat} {W R : Int32} {τ : ST} (hn : n ≤ 9) (h : NQ L n W R τ) : NQ L n W R (fX12_begin_0 τ) ∧ RA (fun _ => 0) n (fX12_begin_0 τ) := by
  obtain ⟨b1, b2⟩ := begin_M τ
  exact ⟨⟨(b2.1 35 rfl).trans h.1, h.2.1.fr b2 rfl, (b2.1 39 rfl).trans h.2.2.1, by rw [b2.2 66 rfl]; exact h.2.2.2⟩, fun j hj => ⟨(b1 j (by omega)).trans nI_0.symm, Nat.zero_le _⟩⟩
theorem near61_M {L : Nat → Nat → Int32} {n r : Nat} {a : Int32} {τ : ST} (hn : n ≤ 9) (hs : ∀ x y, x < n → y < n → L x y = L y x) (hW : ¬ (BEST L n).2.1 ≤ -1000000000) (hr : r ≤ 9999) (h : NQ L n (BEST L n).2.1 (nI r) τ) : (fX12_near_0b61 a τ).1 = if a = 0 then nI (NRL L n ((BEST L n).2.1 - nI r) (lvs n 0 (fun _ => 0))).length else if a = 1 then nI (few n (NRL L n ((BEST L n).2.1 - nI r) (lvs n 0 (fun _ => 0)))) else nI (mst n (NRL L n ((BEST L n).2.1 - nI r) (lvs n 0 (fun _ => 0)))) := by
  obtain ⟨hQ, hA⟩ := begin_Q hn h
  have main : ∀ big : Nat, 21149 ≤ big → (fX12_near_0l76 big a 0 10 (-1) 1 (fX12_begin_0 τ)).1 = if a = 0 then nI (NRL L n ((BEST L n).2.1 - nI r) (lvs n 0 (fun _ => 0))).length else if a = 1 then nI (few n (NRL L n ((BEST L n).2.1 - nI r) (lvs n 0 (fun _ => 0)))) else nI (mst n (NRL L n ((BEST L n).2.1 - nI r) (lvs n 0 (fun _ => 0)))) := fun big hbig => by
    obtain ⟨F, τ', y1, _⟩ := loop_G (near_one (a := a) (W := (BEST L n).2.1) (R := nI r) hn hs) hn big hbig (0, 10, -1) hQ hA
    have ef : (lvs n 0 (fun _ => 0)).foldl (nst L n ((BEST L n).2.1 - nI r)) (0, 10, -1) = (nI (NRL L n ((BEST L n).2.1 - nI r) (lvs n 0 (fun _ => 0))).length, nI (few n (NRL L n ((BEST L n).2.1 - nI r) (lvs n 0 (fun _ => 0)))), nI (mst n (NRL L n ((BEST L n).2.1 - nI r) (lvs n 0 (fun _ => 0))))) := by
      rw [fold_filter (L := L) (n := n) (T := (BEST L n).2.1 - nI r) (st := nst L n ((BEST L n).2.1 - nI r)) (fun s x c => if_pos c)]
      refine nfold0 ?_ fun x hx => ?_
      · obtain ⟨x, x1, x2⟩ := BEST_in L n
        refine ⟨x, List.mem_filter.mpr ⟨x1, decide_eq_true ?_⟩⟩
        rw [← x2]
        exact sub_ok hW hr
      · obtain ⟨m1, m2⟩ := List.mem_filter.mp hx
        exact ⟨of_decide_eq_true m2, hp9 hn m1⟩
    rw [ef] at y1
    have y2 : fX12_near_0l76 big a 0 10 (-1) 1 (fX12_begin_0 τ) = fX12_near_0b157 a (nI (NRL L n ((BEST L n).2.1 - nI r) (lvs n 0 (fun _ => 0))).length) (nI (few n (NRL L n ((BEST L n).2.1 - nI r) (lvs n 0 (fun _ => 0))))) (nI (mst n (NRL L n ((BEST L n).2.1 - nI r) (lvs n 0 (fun _ => 0))))) τ' := by
      refine Eq.trans y1 ?_
      show fX12_near_0b76 (fX12_near_0l76 F) a _ _ _ 0 τ' = _
      unfold fX12_near_0b76
      rw [if_pos rfl]
    rw [y2]
    unfold fX12_near_0b157 fX12_near_0b161 fX12_near_0b165 fX12_near_0b170 fX12_near_0b174 fX12_near_0b176
    by_cases c : a = 0
    · rw [if_pos c, if_pos c]
    · rw [if_neg c, if_neg c]
      by_cases d : a = 1
      · rw [if_pos d, if_pos d]
      · rw [if_neg d, if_neg d]
  rw [← main 1000000002 (by omega)]
  unfold fX12_near_0b61
  rw [bd_e]
theorem near_M (a : Int32) (σ : ST) : fX12_near_0 a σ = if ¬ a < 0 ∧ ¬ 4 < a then (if (fX12_findBest_0 σ).1 = 0 then (-2, (fX12_findBest_0 σ).2) else if a ≤ 2 then fX12_near_0b61 a (fX12_findBest_0 σ).2 else (if a = 3 then fX12_heapsIn_2 ((fX12_join_0 (fX12_findBest_0 σ).2).1 35) (fX12_join_0 (fX12_findBest_0 σ).2) else fX12_heapsIn_1 ((fX12_join_0 (fX12_findBest_0 σ).2).1 35) (fX12_join_0 (fX12_findBest_0 σ).2), fX12_join_0 (fX12_findBest_0 σ).2)) else (-1, σ) := by
  unfold fX12_near_0 fX12_near_0b0 fX12_near_0b9 fX12_near_0b11 fX12_near_0b18 fX12_near_0b21 fX12_near_0b26 fX12_near_0b35 fX12_near_0b49 fX12_near_0b60
  simp only [bd_e, bp_e, in_M, ite01]
  by_cases c : ¬ a < 0 ∧ ¬ 4 < a
  · rw [if_neg (fun q => q c), if_pos c]
    by_cases d : (fX12_findBest_0 σ).1 = 0
    · rw [if_pos d, if_pos d]
    · rw [if_neg d, if_neg d]
      by_cases e : a ≤ 2
      · rw [if_pos e, if_pos e]
      · rw [if_neg e, if_neg e]
        by_cases f : a = 3
        · rw [if_pos f, if_pos f]
        · rw [if_neg f, if_neg f]
  · rw [if_pos c, if_neg c]
theorem a3_sub {a : Int32} (h : ¬ a < 0 ∧ ¬ 4 < a) : (a - 3 = 0) ↔ a = 3 := by
  obtain ⟨m, hm, e⟩ := nI_of h.1
  have h2 := h.2
  subst e
  have h4 : m ≤ 4 := y_nlt (a := 4) (b := m) (by omega) hm h2
  rcases (show m = 0 ∨ m = 1 ∨ m = 2 ∨ m = 3 ∨ m = 4 by omega) with rfl | rfl | rfl | rfl | rfl <;> decide
theorem near_eq {V : Nat → Nat} {H : Nat → Bool} {c c1 N r2 r3 r4 r5 : Nat} {σ : ST} (hK : KH σ) (hB : FB V H c c1 N r2 r3 r4 r5 σ) (a : Int32) {σ1 : ST} {v1 : Int32} (x1 : fX11_near_0 a σ = (v1, σ1)) : v1 = (fX12_near_0 a σ1).1 := by
  rw [near_X] at x1
  by_cases ha : ¬ a < 0 ∧ ¬ 4 < a
  · rw [if_pos ha] at x1
    obtain ⟨k1, k2, k3, k4, k5⟩ := heapNow_X hK.1 hB.2.1
    have hB2 := hB.fr k5 rfl
    generalize gh : fX11_heapNow_0 σ = hn at *
    obtain ⟨hv, t⟩ := hn
    have k1' : KHP t := k1
    have k4' : CUTX V H c N t := k4
    have hB2' : FB V H c c1 N r2 r3 r4 r5 t := hB2
    rcases Nat.lt_or_ge 9 (CUT V H c N).1.1 with z | z
    · obtain ⟨_, b2, _, _⟩ := findBest_R hB2' k4' hB2'.1.2.2.2.2.1
      have k3' : hv = 0 := k3 z
      subst k3'
      have x2 : ((-2 : Int32), t) = (v1, σ1) := by
        rw [← x1]
        exact (if_pos (show ((0 : Int32), t).1 = 0 from rfl)).symm
      have es := pin2 x2
      have er := pin1 x2
      subst es
      rw [near_M, if_pos ha, b2 z, if_pos rfl]
      exact er.symm
    · obtain ⟨q1, q2, q3⟩ := k2 z
      have q1' : hv = 1 := q1
      subst q1'
      have q2' : HPX V H c N r2 r4 t := q2
      have q3' : t.1 23 = 0 := q3
      have x2 : (if a ≤ 2 then (if a = 0 then (fX11_nearNow_0 t).1 14 else if a = 1 then (fX11_nearNow_0 t).1 15 else (fX11_nearNow_0 t).1 16, fX11_nearNow_0 t) else (if a - 3 = 0 then t.1 10 else t.1 17, t)) = (v1, σ1) := by
        rw [← x1]
        exact (if_neg (show ¬ ((1 : Int32), t).1 = 0 from no10)).symm
      by_cases e : a ≤ 2
      · rw [if_pos e] at x2
        have es := pin2 x2
        have er := pin1 x2
        obtain ⟨_, m2, m3⟩ := nearNow_X k1' q3' hB2'.2.1
        have hB3 := hB2'.fr m3 rfl
        have hX3 := k4'.fr m3 rfl
        obtain ⟨b1, _, _, _⟩ := findBest_R hB3 hX3 hB3.1.2.2.2.2.1
        obtain ⟨τ', y1, y2, y3, y4, y5, y6, y7⟩ := b1 z
        generalize gt : fX11_nearNow_0 t = u at *
        subst es
        have hW : ¬ (BSc V H c N r2 r4).2.1 ≤ -1000000000 := by
          rw [show (BSc V H c N r2 r4).2.1 = WO (LKc V H c N r2 r4) (BSc V H c N r2 r4).2.2 (CUT V H c N).1.1 from BEST_WO _ _]
          exact WO_bound z (fun x y hx hy => LKv_bound k4' hB2'.2.1.2.2.2.2.2.2.2.2.2 hB2'.2.1.2.1 hB2'.2.1.2.2.2.1 hx hy) _
        have e66 : τ'.2.2 66 3 = nI r3 := by
          rw [y7.2 66 rfl]
          exact hB3.2.2.2.2.2.1
        have em := near61_M (L := LKc V H c N r2 r4) (n := (CUT V H c N).1.1) (a := a) (r := r3) (τ := τ') z (fun x y _ _ => LKv_comm V _ r2 r4 x y) hW hB2'.2.1.2.2.1 ⟨y2, y4, y3, e66⟩
        rw [near_M, if_pos ha, y1, if_neg (show ¬ ((1 : Int32), τ').1 = 0 from no10), if_pos e]
        show v1 = (fX12_near_0b61 a τ').1
        rw [em, ← er]
        obtain ⟨n1, n2, n3, _⟩ := m2
        rw [n1, n2, n3]
      · rw [if_neg e] at x2
        have es := pin2 x2
        have er := pin1 x2
        subst es
        obtain ⟨b1, _, _, _⟩ := findBest_R hB2' k4' hB2'.1.2.2.2.2.1
        obtain ⟨τ', y1, y2, y3, y4, y5, y6, y7⟩ := b1 z
        obtain ⟨j1, j2⟩ := join_M (L := LKc V H c N r2 r4) z y2 y4
        have e35 : (fX12_join_0 τ').1 35 = nI (CUT V H c N).1.1 := (j2.1 35 rfl).trans y2
        have hS := GJ_lst (LKc V H c N r2 r4) (CUT V H c N).1.1
        have e1 := heapsIn1_M (a := JN (GJ (LKc V H c N r2 r4) (CUT V H c N).1.1)) (i := (CUT V H c N).1.1) (τ := fX12_join_0 τ') z (fun j hj => ⟨j1 j hj, by have := JN_le hS hj; omega⟩)
        have e2 := heapsIn2_M (a := (BSc V H c N r2 r4).2.2) (i := (CUT V H c N).1.1) (τ := fX12_join_0 τ') z (fun j hj => ⟨by rw [j2.2 86 rfl]; exact y5 j hj, by have h1 := (q2'.h41 hj).2; have h2 := q2'.h10.2; omega⟩)
        rw [near_M, if_pos ha, y1, if_neg (show ¬ ((1 : Int32), τ').1 = 0 from no10), if_neg e, ← er]
        show (if a - 3 = 0 then t.1 10 else t.1 17) = (if a = 3 then fX12_heapsIn_2 ((fX12_join_0 τ').1 35) (fX12_join_0 τ') else fX12_heapsIn_1 ((fX12_join_0 τ').1 35) (fX12_join_0 τ'))
        rw [e35, e1, e2, q2'.h10.1, q2'.2.2.2.2.1, JN_hpi _ hS]
        by_cases f : a = 3
        · rw [if_pos ((a3_sub ha).mpr f), if_pos f]
        · rw [if_neg (fun q => f ((a3_sub ha).mp q)), if_neg f]
  · rw [if_neg ha] at x1
    have es := pin2 x1
    have er := pin1 x1
    subst es
    rw [near_M, if_neg ha]
    exact er.symm
