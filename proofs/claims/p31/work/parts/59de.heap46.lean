/-! sure: both sides -/
def i01 (b : Bool) : Int32 := if b = true then 1 else 0
theorem i01_0 {b : Bool} : i01 b = 0 ↔ b = false := by
  cases b <;> decide
/-- the reference's two flags: some dealing out has p and q together; some has them apart -/
def sst (L : Nat → Nat → Int32) (n : Nat) (T : Int32) (p q : Nat) (s : Bool × Bool) (x : Nat → Nat) : Bool × Bool := if WO L x n < T then s else (s.1 || decide (x p = x q), s.2 || !decide (x p = x q))
theorem sure_one {L : Nat → Nat → Int32} {n p q : Nat} {W R : Int32} (hn : n ≤ 9) (hp : p < n) (hq : q < n) (hs : ∀ x y, x < n → y < n → L x y = L y x) : EN (Bool × Bool) n (fun fu s v τ => fX12_sure_0l49 fu (nI p) (nI q) (i01 s.1) (i01 s.2) v τ) (sst L n (W - R) p q) (NQ L n W R) := by
  refine ⟨fun τ τ' h f => ⟨(f.1 35 rfl).trans h.1, h.2.1.fr f rfl, (f.1 39 rfl).trans h.2.2.1, by rw [f.2 66 rfl]; exact h.2.2.2⟩, fun τ h => h.1, fun fu s x τ h hA => ?_⟩
  obtain ⟨h35, hG, h39, h66⟩ := h
  have ew := worth_M hn h35 hG hs hA
  have z3 : (3 : Int32).toNatClampNeg = 3 := by decide
  have np : (nI p).toNatClampNeg = p := nI_clamp (by omega)
  have nq : (nI q).toNatClampNeg = q := nI_clamp (by omega)
  obtain ⟨xp, xp9⟩ := hA p hp
  obtain ⟨xq, xq9⟩ := hA q hq
  have ego : fX12_goOn_0 τ = fX12_goOn_0l7 4096 (nI n - 1) τ := by
    unfold fX12_goOn_0 fX12_goOn_0b0
    rw [bd_e, bd_e, h35]
  have e128 : ∀ l3 l4 : Int32, fX12_sure_0b128 (fX12_sure_0l49 fu) (nI p) (nI q) l3 l4 τ = bp (fX12_goOn_0l7 4096 (nI n - 1) τ) fun v t => fX12_sure_0l49 fu (nI p) (nI q) l3 l4 v t := fun l3 l4 => by
    unfold fX12_sure_0b128
    rw [ego]
  have e100 : ∀ (b : Bool) (l3 : Int32), fX12_sure_0b100 (fX12_sure_0l49 fu) (nI p) (nI q) (i01 b) l3 τ = bp (fX12_goOn_0l7 4096 (nI n - 1) τ) fun v t => fX12_sure_0l49 fu (nI p) (nI q) l3 (i01 (b || !decide (x p = x q))) v t := fun b l3 => by
    unfold fX12_sure_0b100
    cases b with
    | true =>
      rw [if_neg (show ¬ i01 true = 0 by decide)]
      unfold fX12_sure_0b121 fX12_sure_0b126
      exact e128 l3 1
    | false =>
      rw [if_pos (show i01 false = 0 by decide)]
      unfold fX12_sure_0b106
      rw [bd_e, np, xp, bd_e, nq, xq]
      by_cases c : x p = x q
      · rw [if_pos (show nI (x p) = nI (x q) by rw [c]), decide_eq_true c]
        unfold fX12_sure_0b125 fX12_sure_0b126
        exact e128 l3 0
      · rw [if_neg (show ¬ nI (x p) = nI (x q) from fun w => c ((nI_eq (by omega) (by omega)).mp w)), decide_eq_false c]
        unfold fX12_sure_0b121 fX12_sure_0b126
        exact e128 l3 1
  show fX12_sure_0b49 (fX12_sure_0l49 fu) (nI p) (nI q) (i01 s.1) (i01 s.2) 1 τ = bp (fX12_goOn_0l7 4096 (nI n - 1) τ) fun v t => fX12_sure_0l49 fu (nI p) (nI q) (i01 (sst L n (W - R) p q s x).1) (i01 (sst L n (W - R) p q s x).2) v t
  unfold fX12_sure_0b49
  rw [if_neg no10]
  unfold fX12_sure_0b54
  rw [bd_e, ew, bd_e, h39, bd_e, z3, h66, bd_e]
  by_cases c : WO L x n < W - R
  · have es : sst L n (W - R) p q s x = s := if_pos c
    rw [if_pos c, e128, es]
  · have es : sst L n (W - R) p q s x = (s.1 || decide (x p = x q), s.2 || !decide (x p = x q)) := if_neg c
    rw [if_neg c, es]
    show _ = bp (fX12_goOn_0l7 4096 (nI n - 1) τ) fun v t => fX12_sure_0l49 fu (nI p) (nI q) (i01 (s.1 || decide (x p = x q))) (i01 (s.2 || !decide (x p = x q))) v t
    obtain ⟨s1, s2⟩ := s
    show fX12_sure_0b76 (fX12_sure_0l49 fu) (nI p) (nI q) (i01 s1) (i01 s2) τ = bp (fX12_goOn_0l7 4096 (nI n - 1) τ) fun v t => fX12_sure_0l49 fu (nI p) (nI q) (i01 (s1 || decide (x p = x q))) (i01 (s2 || !decide (x p = x q))) v t
    unfold fX12_sure_0b76
    cases s1 with
    | true =>
      rw [if_neg (show ¬ i01 true = 0 by decide)]
      unfold fX12_sure_0b95
      exact e100 s2 1
    | false =>
      rw [if_pos (show i01 false = 0 by decide)]
      unfold fX12_sure_0b80
      rw [bd_e, np, xp, bd_e, nq, xq]
      by_cases d : x p = x q
      · rw [if_pos (show nI (x p) = nI (x q) by rw [d])]
        have ed : (false || decide (x p = x q)) = true := decide_eq_true d
        rw [ed]
        unfold fX12_sure_0b95
        exact e100 s2 1
      · rw [if_neg (show ¬ nI (x p) = nI (x q) from fun w => d ((nI_eq (by omega) (by omega)).mp w))]
        have ed : (false || decide (x p = x q)) = false := decide_eq_false d
        rw [ed]
        unfold fX12_sure_0b99
        exact e100 s2 0
theorem sfold {L : Nat → Nat → Int32} {n p q : Nat} {T : Int32} : ∀ (l : List (Nat → Nat)) (s : Bool × Bool), (∀ x, x ∈ l → ¬ WO L x n < T) → l.foldl (sst L n T p q) s = (s.1 || l.any (fun x => decide (x p = x q)), s.2 || !l.all (fun x => decide (x p = x q)))
  | [], s, _ => by
    obtain ⟨s1, s2⟩ := s
    show (s1, s2) = (s1 || false, s2 || !true)
    cases s1 <;> cases s2 <;> rfl
  | x :: l, s, h => by
    have e : sst L n T p q s x = (s.1 || decide (x p = x q), s.2 || !decide (x p = x q)) := if_neg (h x List.mem_cons_self)
    show l.foldl (sst L n T p q) (sst L n T p q s x) = _
    rw [e, sfold l _ (fun y hy => h y (List.mem_cons_of_mem _ hy)), List.any_cons, List.all_cons]
    show (s.1 || decide (x p = x q) || l.any (fun x => decide (x p = x q)), s.2 || !decide (x p = x q) || !l.all (fun x => decide (x p = x q))) = (s.1 || (decide (x p = x q) || l.any (fun x => decide (x p = x q))), s.2 || !(decide (x p = x q) && l.all (fun x => decide (x p = x q))))
    rw [Bool.or_assoc, Bool.or_assoc, Bool.not_and]
theorem sure37_M {L : Nat → Nat → Int32} {n r p q : Nat} {W : Int32} {τ : ST} (hn : n ≤ 9) (hp : p < n) (hq : q < n) (hs : ∀ x y, x < n → y < n → L x y = L y x) (h : NQ L n W (nI r) τ) : (fX12_sure_0b37 (nI p) (nI q) τ).1 = if (NRL L n (W - nI r) (lvs n 0 (fun _ => 0))).all (fun x => decide (x p = x q)) = true then 1 else if (NRL L n (W - nI r) (lvs n 0 (fun _ => 0))).any (fun x => decide (x p = x q)) = false then 0 else 2 := by
  obtain ⟨hQ, hA⟩ := begin_Q hn h
  have main : ∀ big : Nat, 21149 ≤ big → (fX12_sure_0l49 big (nI p) (nI q) 0 0 1 (fX12_begin_0 τ)).1 = if (NRL L n (W - nI r) (lvs n 0 (fun _ => 0))).all (fun x => decide (x p = x q)) = true then 1 else if (NRL L n (W - nI r) (lvs n 0 (fun _ => 0))).any (fun x => decide (x p = x q)) = false then 0 else 2 := fun big hbig => by
    obtain ⟨F, τ', y1, _⟩ := loop_G (sure_one (W := W) (R := nI r) hn hp hq hs) hn big hbig (false, false) hQ hA
    have ef : (lvs n 0 (fun _ => 0)).foldl (sst L n (W - nI r) p q) (false, false) = ((NRL L n (W - nI r) (lvs n 0 (fun _ => 0))).any (fun x => decide (x p = x q)), !(NRL L n (W - nI r) (lvs n 0 (fun _ => 0))).all (fun x => decide (x p = x q))) := by
      have e1 := fold_filter (L := L) (n := n) (T := W - nI r) (st := sst L n (W - nI r) p q) (fun s x c => if_pos c) (lvs n 0 (fun _ => 0)) (false, false)
      have e2 := sfold (L := L) (n := n) (T := W - nI r) (p := p) (q := q) (NRL L n (W - nI r) (lvs n 0 (fun _ => 0))) (false, false) (fun x hx => of_decide_eq_true (List.mem_filter.mp hx).2)
      exact e1.trans e2
    rw [ef] at y1
    generalize NRL L n (W - nI r) (lvs n 0 (fun _ => 0)) = l at *
    have y2 : fX12_sure_0l49 big (nI p) (nI q) 0 0 1 (fX12_begin_0 τ) = fX12_sure_0b137 (i01 (l.any (fun x => decide (x p = x q)))) (i01 (!l.all (fun x => decide (x p = x q)))) τ' := by
      refine Eq.trans y1 ?_
      show fX12_sure_0b49 (fX12_sure_0l49 F) (nI p) (nI q) _ _ 0 τ' = _
      unfold fX12_sure_0b49
      rw [if_pos rfl]
    rw [y2]
    unfold fX12_sure_0b137 fX12_sure_0b142 fX12_sure_0b146 fX12_sure_0b150 fX12_sure_0b154 fX12_sure_0b155
    cases l.all (fun x => decide (x p = x q)) with
    | true => rw [if_pos (show i01 (!true) = 0 by decide), if_pos rfl]
    | false =>
      rw [if_neg (show ¬ i01 (!false) = 0 by decide), if_neg (show ¬ false = true by decide)]
      cases l.any (fun x => decide (x p = x q)) with
      | true => rw [if_neg (show ¬ i01 true = 0 by decide), if_neg (show ¬ true = false by decide)]
      | false => rw [if_pos (show i01 false = 0 by decide), if_pos rfl]
  rw [← main 1000000002 (by omega)]
  unfold fX12_sure_0b37
  rw [bd_e]
theorem sureness_X {n p q : Nat} {l : List (Nat → Nat)} {σ : ST} (hn : n ≤ 9) (hp : p < n) (hq : q < n) (hpq : p ≠ q) (h : NRS n l σ) : fX0_sureness_0 (nI p) (nI q) σ = if l.all (fun x => decide (x p = x q)) = true then 1 else if l.any (fun x => decide (x p = x q)) = false then 0 else 2 := by
  have go : ∀ hi lo : Nat, lo < hi → hi < n → (∀ x : Nat → Nat, decide (x hi = x lo) = decide (x p = x q)) → (if nI p < nI q then nI q else nI p) = nI hi → (if nI q < nI p then nI q else nI p) = nI lo → fX0_sureness_0 (nI p) (nI q) σ = if l.all (fun x => decide (x p = x q)) = true then 1 else if l.any (fun x => decide (x p = x q)) = false then 0 else 2 := fun hi lo h1 h2 hd e1 e2 => by
    obtain ⟨b0, b1⟩ := h.2.2.2 hi lo h1 h2
    have t3 := (tri_s (hi := hi) (by omega)).2
    have ta := tri_m (a := hi) (b := 9) (by omega) (by omega)
    have t9 : tri 9 = 36 := by decide
    have ed : (fun x : Nat → Nat => decide (x hi = x lo)) = fun x => decide (x p = x q) := funext hd
    rw [ed] at b0 b1
    have z0 : ∀ y : Int64, lg_cmp (y &&& ((1 : Int64) <<< ((nI (tri hi + lo)).toInt64 &&& 63))) 0 = 0 ↔ bt64 y (tri hi + lo) = false := fun y => cmp0.trans (bt_and1 (by omega))
    unfold fX0_sureness_0 fX0_sureness_0b0 fX0_sureness_0b30 fX0_sureness_0b28 fX0_sureness_0b41 fX0_sureness_0b45 fX0_sureness_0b46
    simp only [bd_e, e1, e2, pop_X (show hi < 9 by omega), nI_add, z0, b0, b1]
    cases l.all (fun x => decide (x p = x q)) with
    | true => rw [if_neg (show ¬ true = false by decide), if_pos rfl]
    | false => rw [if_pos rfl, if_neg (show ¬ false = true by decide)]
  rcases Nat.lt_or_ge p q with c | c
  · exact go q p c hq (fun x => by
      by_cases d : x p = x q
      · rw [decide_eq_true d, decide_eq_true d.symm]
      · rw [decide_eq_false d, decide_eq_false (fun w => d w.symm)]) (if_pos ((nI_ltI (by omega) (by omega)).mpr c)) (if_neg (fun w => absurd ((nI_ltI (by omega) (by omega)).mp w) (by omega)))
  · exact go p q (by omega) hp (fun x => rfl) (if_neg (fun w => absurd ((nI_ltI (by omega) (by omega)).mp w) (by omega))) (if_pos ((nI_ltI (by omega) (by omega)).mpr (by omega)))
theorem sure_M {p q b1 b2 : Int32} {σ : ST} (h1 : fX12_isPiece_0 p (fX12_findPieces_0 σ) = b1) (h2 : fX12_isPiece_0 q (fX12_findPieces_0 σ) = b2) : fX12_sure_0 p q σ = if b1 = 0 then (-1, fX12_findPieces_0 σ) else if b2 = 0 then (-1, fX12_findPieces_0 σ) else if p = q then (-1, fX12_findPieces_0 σ) else if (fX12_findBest_0 (fX12_findPieces_0 σ)).1 = 0 then (-2, (fX12_findBest_0 (fX12_findPieces_0 σ)).2) else fX12_sure_0b37 p q (fX12_findBest_0 (fX12_findPieces_0 σ)).2 := by
  unfold fX12_sure_0 fX12_sure_0b0 fX12_sure_0b12 fX12_sure_0b20 fX12_sure_0b25 fX12_sure_0b27 fX12_sure_0b34
  simp only [bd_e, bp_e, h1, h2]
theorem sure_eq {V : Nat → Nat} {H : Nat → Bool} {c c1 N r2 r3 r4 r5 : Nat} {σ : ST} (hK : KH σ) (hB : FB V H c c1 N r2 r3 r4 r5 σ) (p q : Int32) {σ1 : ST} {v1 : Int32} (x1 : fX11_sure_0 p q σ = (v1, σ1)) : v1 = (fX12_sure_0 p q σ1).1 := by
  obtain ⟨u1, u2, u3⟩ := cutNow_X hK.1.1
  have kH := kn_fX11_cutNow_0 hK
  have hB1 := hB.fr u3 rfl
  have hX1 := hB1.2.1.of_kcu u1 u2
  have e5' : (fX11_cutNow_0 σ).1 5 = nI (CUT V H c N).1.1 := hX1.1.1
  have eid : fX11_cutNow_0 (fX11_cutNow_0 σ) = fX11_cutNow_0 σ := cutNow_id u2
  have e5b : (fX11_cutNow_0 (fX11_cutNow_0 σ)).1 5 = nI (CUT V H c N).1.1 := by rw [eid]; exact e5'
  have eip := isPiece_X p σ e5'
  have eiq := isPiece_X q (fX11_cutNow_0 σ) e5b
  rw [eid] at eiq
  rw [sure_X, eip] at x1
  generalize gs : fX11_cutNow_0 σ = s at *
  have hS1 : ∀ t : ST, FB V H c c1 N r2 r3 r4 r5 t → (fX12_findPieces_0 t).1 35 = nI (CUT V H c N).1.1 := fun t ht => (pieces_M ht.1.1 ht.1.2.2.2.2.2).1.1.1
  by_cases hp : PN p (CUT V H c N).1.1
  · rw [if_pos hp] at x1
    have x2 : (if (fX11_isPiece_0 q s).1 = 0 then ((-1 : Int32), (fX11_isPiece_0 q s).2) else if p = q then (-1, (fX11_isPiece_0 q s).2) else if (fX11_heapNow_0 (fX11_isPiece_0 q s).2).1 = 0 then (-2, (fX11_heapNow_0 (fX11_isPiece_0 q s).2).2) else (fX0_sureness_0 p q (fX11_nearNow_0 (fX11_heapNow_0 (fX11_isPiece_0 q s).2).2), fX11_nearNow_0 (fX11_heapNow_0 (fX11_isPiece_0 q s).2).2)) = (v1, σ1) := by
      rw [← x1]
      exact (if_neg (show ¬ ((1 : Int32), s).1 = 0 from no10)).symm
    rw [eiq] at x2
    by_cases hq : PN q (CUT V H c N).1.1
    · rw [if_pos hq] at x2
      have x3 : (if p = q then ((-1 : Int32), s) else if (fX11_heapNow_0 s).1 = 0 then (-2, (fX11_heapNow_0 s).2) else (fX0_sureness_0 p q (fX11_nearNow_0 (fX11_heapNow_0 s).2), fX11_nearNow_0 (fX11_heapNow_0 s).2)) = (v1, σ1) := by
        rw [← x2]
        exact (if_neg (show ¬ ((1 : Int32), s).1 = 0 from no10)).symm
      by_cases hpq : p = q
      · rw [if_pos hpq] at x3
        have es := pin2 x3
        have er := pin1 x3
        subst es
        have em : fX12_isPiece_0 p (fX12_findPieces_0 s) = 1 := by rw [isPiece_M p _ (hS1 s hB1), if_pos hp]
        have em2 : fX12_isPiece_0 q (fX12_findPieces_0 s) = 1 := by rw [isPiece_M q _ (hS1 s hB1), if_pos hq]
        rw [sure_M em em2, if_neg no10, if_neg no10, if_pos hpq]
        exact er.symm
      · rw [if_neg hpq] at x3
        obtain ⟨k1, k2, k3, k4, k5⟩ := heapNow_X kH.1 hB1.2.1
        have hB2 := hB1.fr k5 rfl
        generalize gh : fX11_heapNow_0 s = hn at *
        obtain ⟨hv, t⟩ := hn
        have k1' : KHP t := k1
        have k4' : CUTX V H c N t := k4
        have hB2' : FB V H c c1 N r2 r3 r4 r5 t := hB2
        rcases Nat.lt_or_ge 9 (CUT V H c N).1.1 with z | z
        · obtain ⟨p1, p2⟩ := pieces_M hB2'.1.1 hB2'.1.2.2.2.2.2
          obtain ⟨_, b2, _, _⟩ := findBest_R (hB2'.fr p2 rfl) k4' hB2'.1.2.2.2.2.1
          have k3' : hv = 0 := k3 z
          subst k3'
          have x4 : ((-2 : Int32), t) = (v1, σ1) := by
            rw [← x3]
            exact (if_pos (show ((0 : Int32), t).1 = 0 from rfl)).symm
          have es := pin2 x4
          have er := pin1 x4
          subst es
          have em : fX12_isPiece_0 p (fX12_findPieces_0 t) = 1 := by rw [isPiece_M p _ (hS1 t hB2'), if_pos hp]
          have em2 : fX12_isPiece_0 q (fX12_findPieces_0 t) = 1 := by rw [isPiece_M q _ (hS1 t hB2'), if_pos hq]
          rw [sure_M em em2, if_neg no10, if_neg no10, if_neg hpq, b2 z, if_pos rfl]
          exact er.symm
        · obtain ⟨q1, q2, q3⟩ := k2 z
          have q1' : hv = 1 := q1
          subst q1'
          have q3' : t.1 23 = 0 := q3
          have x4 : (fX0_sureness_0 p q (fX11_nearNow_0 t), fX11_nearNow_0 t) = (v1, σ1) := by
            rw [← x3]
            exact (if_neg (show ¬ ((1 : Int32), t).1 = 0 from no10)).symm
          have es := pin2 x4
          have er := pin1 x4
          obtain ⟨_, m2, m3⟩ := nearNow_X k1' q3' hB2'.2.1
          have hB3 := hB2'.fr m3 rfl
          have hX3 := k4'.fr m3 rfl
          generalize gt : fX11_nearNow_0 t = u at *
          subst es
          obtain ⟨p1, p2⟩ := pieces_M hB3.1.1 hB3.1.2.2.2.2.2
          have hB4 := hB3.fr p2 rfl
          obtain ⟨b1, _, _, _⟩ := findBest_R hB4 hX3 hB3.1.2.2.2.2.1
          obtain ⟨τ', y1, y2, y3, y4, y5, y6, y7⟩ := b1 z
          obtain ⟨x, rfl, hx⟩ := PN.nat hp hX3.2.2.2.2
          obtain ⟨y, rfl, hy⟩ := PN.nat hq hX3.2.2.2.2
          have em : fX12_isPiece_0 (nI x) (fX12_findPieces_0 u) = 1 := by rw [isPiece_M _ _ (hS1 u hB3), if_pos hp]
          have em2 : fX12_isPiece_0 (nI y) (fX12_findPieces_0 u) = 1 := by rw [isPiece_M _ _ (hS1 u hB3), if_pos hq]
          have e66 : τ'.2.2 66 3 = nI r3 := by
            rw [y7.2 66 rfl]
            exact hB4.2.2.2.2.2.1
          have em3 := sure37_M (L := LKc V H c N r2 r4) (n := (CUT V H c N).1.1) (r := r3) (p := x) (q := y) (W := (BSc V H c N r2 r4).2.1) (τ := τ') z hx hy (fun a b _ _ => LKv_comm V _ r2 r4 a b) ⟨y2, y4, y3, e66⟩
          have hne : x ≠ y := fun w => hpq (by rw [w])
          have ex := sureness_X z hx hy hne m2
          rw [sure_M em em2, if_neg no10, if_neg no10, if_neg hpq, y1, if_neg (show ¬ ((1 : Int32), τ').1 = 0 from no10)]
          show v1 = (fX12_sure_0b37 (nI x) (nI y) τ').1
          rw [em3, ← er, ex]
    · rw [if_neg hq] at x2
      have x3 : ((-1 : Int32), s) = (v1, σ1) := by
        rw [← x2]
        exact (if_pos (show ((0 : Int32), s).1 = 0 from rfl)).symm
      have es := pin2 x3
      have er := pin1 x3
      subst es
      have em : fX12_isPiece_0 p (fX12_findPieces_0 s) = 1 := by rw [isPiece_M p _ (hS1 s hB1), if_pos hp]
      have em2 : fX12_isPiece_0 q (fX12_findPieces_0 s) = 0 := by rw [isPiece_M q _ (hS1 s hB1), if_neg hq]
      rw [sure_M em em2, if_neg no10, if_pos rfl]
      exact er.symm
  · rw [if_neg hp] at x1
    have x2 : ((-1 : Int32), s) = (v1, σ1) := by
      rw [← x1]
      exact (if_pos (show ((0 : Int32), s).1 = 0 from rfl)).symm
    have es := pin2 x2
    have er := pin1 x2
    subst es
    have em : fX12_isPiece_0 p (fX12_findPieces_0 s) = 0 := by rw [isPiece_M p _ (hS1 s hB1), if_neg hp]
    rw [sure_M em rfl, if_pos rfl]
    exact er.symm
