/-! rows of rows: from the printed names, its last lemma without the pool -/
theorem vr_outer (c : ClassId) (N h0 : Nat) : ∀ i : Nat, Jvm.Free.Multi.outerC c N h0 i = arrV c N (fun j => va_rf (if j < i then some (h0 + 1 + j) else none))
  | 0 => by
    show ({ cls := c, slots := Array.replicate N .null, vm := .none } : Cell) = _
    rw [arrV_new]
    refine congrArg (arrV c N) (funext fun j => ?_)
    simp [va_rf]
  | i + 1 => by
    show (Jvm.Free.Multi.outerC c N h0 i).setSlot i (.ref (h0 + 1 + i)) = _
    rw [vr_outer c N h0 i, arrV_store]
    refine congrArg (arrV c N) (funext fun j => ?_)
    by_cases e : j = i
    · subst e
      simp [updV, va_rf]
    · by_cases h : j < i
      · simp [updV, e, h, Nat.lt_succ_of_lt h]
      · simp [updV, e, h, show ¬ j < i + 1 by omega]
theorem c_lst (N : Nat) (r : Nat → Nat) : (fun i => if i < N then some (r i) else none) = (fun i => ((List.range N).map r)[i]?) := by
  funext i
  rw [List.getElem?_map]
  by_cases h : i < N
  · rw [if_pos h, List.getElem?_range h]
    rfl
  · rw [if_neg h, List.getElem?_eq_none (by rw [List.length_range]; omega)]
    rfl
section XG
variable {p : Program} {l : Launch} {e : Env} {R : Room} {s : State} {m : MethodId} {args : Array Value} {below : List Frame} {meth : Method} {c : Code} {H : Heap} {locs : List Loc} {cells slots : Nat} {Q : State → Prop}
variable {cc : ByteArray} {pc : Nat} {ls : Array Slot} {rest : List Value} {own : String} {Ts : List Cond} {nL : Nat} {D : va_G} {A : Nat → Prop} {N0 t1 : Nat} {ws : va_W} {tys : List (ClassId × FieldType)} {h0 ci : Nat} {fs : List Value} {RR : va_W}
/-- new int[n][k] -/
theorem c_grid (E : EC p s m meth args c cc own Ts nL A N0 t1) (h : HC D A s ((h0, .inr (ci, fs)) :: RR) tys H locs) (n' k' : Nat) {n k : Int32} {N K idx : Nat} (w1 : Cond.classLink own idx "[[I" ∈ Ts) (w2 : Cond.arrayClass .int ∈ Ts) (hn : ¬ n < 0) (hk : ¬ k < 0) (hN : n.toNatClampNeg = N) (hM : k.toNatClampNeg = K) (hb1 : N * 4 ≤ 536870912) (hb2 : K * 4 ≤ 536870912) (hkc : cells + 1 + N = k') (hs : slots + N + N * K = n') (hk2 : k' ≤ R.cells) (hs2 : n' ≤ R.slots) (hdg : decode cc pc = .ok (.multianewarray idx 2, 4))
    (kk : ∀ (q : Nat) (r : Nat → Nat) (cO cI : ClassId) (H : Heap), HC D A s ((h0, .inr (ci, fs)) :: (RR ++ ((q, .inl (cO, N, .inr (.inr (.inr (.inr (fun i => ((List.range N).map r)[i]?)))))) :: (List.range N).map (fun i => (r i, .inl (cI, K, .inl (fun _ => 0))))))) (tys ++ ((cO, .array .int) :: (List.range N).map (fun _ => (cI, .int)))) H locs → W p l e R s m args below meth c H locs k' n' Q (F0 m (pc + 4) ls (.ref q :: rest))) : W p l e R s m args below meth c H locs cells slots Q (F0 m pc ls (.int k :: .int n :: rest)) := by
  subst hN
  subst hM
  subst hkc
  subst hs
  obtain ⟨hx, hb, hml, hown, hts, hin, hA, hAN, hX, hr, hlk⟩ := E
  obtain ⟨hP, hD, hK, hS⟩ := h
  intro T hT Xs
  have w1' : (Cond.classLink own idx ("[" ++ (FieldType.array .int).toString)).before args s = true := hts _ w1
  obtain ⟨vm₁, cA, comp, -, fA, fC, hO, hI, X', step⟩ := Xs.multianewarray2F hx (ty := .int) hown w1' hX.2.1 (hts _ w2) (g := F0 m pc ls (.int k :: .int n :: rest)) rfl (by rw [hb]; exact hdg) rfl hn hk hb1 hb2 (by omega) rfl rfl (by omega) (by omega)
  generalize hF : Jvm.Free.Multi.fill (T.setVm vm₁) cA comp n.toNatClampNeg k.toNatClampNeg (defaultValue .int) n.toNatClampNeg = F at X' step
  have hTh : (T.setVm vm₁).heap = H := hT
  obtain ⟨f1, f2, -, -⟩ := Jvm.Free.Multi.fill_facts (T.setVm vm₁) cA comp n.toNatClampNeg k.toNatClampNeg (defaultValue .int) n.toNatClampNeg
  rw [hF, hTh] at f1 f2
  have hold : ∀ x : Nat, x < H.size → F.heap[x]? = H[x]? := fun x hx => by
    have := Jvm.Free.Multi.fill_old (T.setVm vm₁) cA comp n.toNatClampNeg k.toNatClampNeg (defaultValue .int) (a := x) (by rw [hTh]; exact hx) n.toNatClampNeg
    rw [hF, hTh] at this
    exact this
  have hrow : ∀ j : Nat, j < n.toNatClampNeg → F.heap[H.size + 1 + j]? = some (vp_cell comp (k.toNatClampNeg, .inl (fun _ => 0))) := fun j hj => by
    have := Jvm.Free.Multi.fill_inner (T.setVm vm₁) cA comp n.toNatClampNeg k.toNatClampNeg (defaultValue .int) n.toNatClampNeg j hj
    rw [hF, hTh] at this
    rw [this]
    show some (Jvm.Free.Multi.innerC comp k.toNatClampNeg (.int 0)) = _
    rw [vp_cell_i]
    exact congrArg some (arrV_new comp k.toNatClampNeg (.int 0))
  have hout : Jvm.Free.Multi.outerC cA n.toNatClampNeg H.size n.toNatClampNeg = vp_cell cA (n.toNatClampNeg, .inr (.inr (.inr (.inr (fun i => if i < n.toNatClampNeg then some (H.size + 1 + i) else none))))) := by
    rw [vp_cell_q]
    exact vr_outer cA n.toNatClampNeg H.size n.toNatClampNeg
  rw [hout] at f2
  have hnew : ∀ (k9 : Nat) (x : Nat × va_E), (((H.size, .inl (cA, n.toNatClampNeg, .inr (.inr (.inr (.inr (fun i => if i < n.toNatClampNeg then some (H.size + 1 + i) else none)))))) :: (List.range n.toNatClampNeg).map (fun i => (H.size + 1 + i, .inl (comp, k.toNatClampNeg, .inl (fun _ => 0))))) : va_W)[k9]? = some x → x.1 = H.size + k9 ∧ va_at D vwCl x F.heap := by
    intro k9 x hx9
    cases k9 with
    | zero =>
      cases hx9
      exact ⟨rfl, f2⟩
    | succ j =>
      rw [List.getElem?_cons_succ, List.getElem?_map] at hx9
      by_cases h9 : j < n.toNatClampNeg
      · rw [List.getElem?_range h9] at hx9
        cases hx9
        exact ⟨by show H.size + 1 + j = H.size + (j + 1); omega, hrow j h9⟩
      · have hn0 : (List.range n.toNatClampNeg)[j]? = none := List.getElem?_eq_none (by rw [List.length_range]; omega)
        rw [hn0] at hx9
        cases hx9
  have hPn := (hP.kept (H1 := F.heap) (fun k9 x hx9 => hold x.1 ((hP k9 x hx9).lt))).app (fun k9 x hx9 => (hnew k9 x hx9).2)
  have hDn := va_D.app hD (A := A) (w2 := ((H.size, .inl (cA, n.toNatClampNeg, .inr (.inr (.inr (.inr (fun i => if i < n.toNatClampNeg then some (H.size + 1 + i) else none)))))) :: (List.range n.toNatClampNeg).map (fun i => (H.size + 1 + i, .inl (comp, k.toNatClampNeg, .inl (fun _ => 0))))) ) ⟨fun i j a b ha hb2 hab => by
      have e1 := (hnew i a ha).1
      have e2 := (hnew j b hb2).1
      omega, fun i a ha => by
      rw [(hnew i a ha).1]
      exact hA _ (Nat.le_trans hS.1 (by omega))⟩ (fun i j a b ha hb2 hab => by
      have e1 := (hP i a ha).lt
      have e2 := (hnew j b hb2).1
      omega)
  obtain ⟨comp2, kC, cc2, hcomp2, hkC, hkindC⟩ := Cond.arrayClass_spec (hts _ w2)
  have eC : comp2 = comp := Option.some.inj (hcomp2.symm.trans fC)
  subst eC
  have hKi : ArrOfT s comp2 .int ∧ va_RA s comp2 .int := ⟨fun _ _ => ⟨fun x h9 => (by cases h9), kC, hkC, cc2, hkindC⟩, hcomp2⟩
  have hKo : ArrOfT s cA (.array .int) ∧ va_RA s cA (.array .int) := by
    refine ⟨fun _ _ => ?_, fA⟩
    obtain ⟨-, k2, hk2', cc3, hk3⟩ := (hO 0 0 0).1
    rw [(Jvm.Free.Multi.outerC_facts cA 0 0 0).1] at hk2'
    exact ⟨fun x h9 => (by cases h9), k2, hk2', cc3, hk3⟩
  have hKn : va_K D vwCl (tys ++ ((cA, .array .int) :: (List.range n.toNatClampNeg).map (fun _ => (comp2, .int)))) s := hK.app ⟨hK.1, fun k9 x hx9 => by
    rcases List.mem_cons.mp (List.mem_of_getElem? hx9) with e9 | h9
    · subst e9
      exact hKo
    · obtain ⟨_, -, e9⟩ := List.mem_map.mp h9
      subst e9
      exact hKi⟩
  rw [c_lst n.toNatClampNeg (fun i => H.size + 1 + i)] at hPn hDn
  obtain ⟨t, a1, b1⟩ := kk H.size (fun i => H.size + 1 + i) cA comp2 F.heap ⟨hPn, hDn, hKn, ⟨by rw [f1]; have := hS.1; omega, fun x h1 h2 => (hold x (Nat.lt_of_lt_of_le h1 hS.1)).trans (hS.2.1 x h1 h2), hS.2.2⟩⟩ F rfl X'
  refine ⟨t, step t ?_, b1⟩
  have e : T.heap.size = H.size := by rw [hT]
  rw [e]
  exact a1
end XG
