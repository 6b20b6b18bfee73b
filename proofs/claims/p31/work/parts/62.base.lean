theorem x_sld {p : Program} {l : Launch} {e : Env} {R : Room} {s : State} {m : MethodId} {args : Array Value} {below : List Frame} {meth : Method} {c : Code} {H : Heap} {locs : List Loc} {cells slots : Nat} {Q : State → Prop} {cc : ByteArray} {pc : Nat} {ls : Array Slot} {rest : List Value} {own : String} {Ts : List Cond} {nL : Nat} {ret : Option FieldType} {g : CX} {σ : ST} (E : EV p s m args meth c cc own Ts nL ret g) (h : HW g σ s H locs) {b L : Nat} {xs : Nat → Int32} (hX : va_X b L xs s s.heap) (hbl : b < s.heap.size) (hbA : ¬ Aw g b) {i : Int32} {j : Nat} (hin : vp_in i L) (hj : i.toNatClampNeg = j) (hdg : decode cc pc = .ok (.iaload, 1)) (kk : W p l e R s m args below meth c H locs cells slots Q (F0 m (pc + 1) ls (.int (xs j) :: rest))) : W p l e R s m args below meth c H locs cells slots Q (F0 m pc ls (.int i :: .ref b :: rest)) := by
  subst hj
  exact va_sld E.1 E.2.1 hX hbl hbA h.2 hin hdg kk
theorem law_end {p : Program} {e : Env} {s : State} {m : MethodId} {below : List Frame} {meth : Method} {c : Code} (l : Launch) {b : Nat} {g : CX} {σ : ST} (E : EV p s m #[Value.ref b] meth c cL_law RL wsL_law 4 ret g) {H : Heap} {ls : Array Slot} {locs : List Loc} (h : HW g σ s H locs) (hAw : ∀ q, Aw g q → s.heap.size ≤ q) : W p l e room_1 s m #[Value.ref b] below meth c H locs 108 7415 (lw_Z below #[Value.ref b] s) (F0 m 1071 ls []) := by
  refine lv_iconst (v := 1) E.1 E.2.1 dL_law_1071 (by decide) ?_
  refine W.widen (k := 600000) (n := 7302250) (Nat.le_of_ble_eq_true rfl) (Nat.le_of_ble_eq_true rfl) ?_
  refine va_forget (fun q hq => hAw _ (h.2.2.2 q hq)) ?_
  exact lw_ret E.1 E.2.1 E.2.2.2.2.2.2.1 E.2.2.2.2.2.2.2 dL_law_1072
theorem y_neg5 {L i : Nat} (h : L < 5) (hi : i < 2 ^ 31) : nI L - 5 < nI i := by
  have h1 : nI L - nI 5 < 0 := pk_sneg (by omega) h
  have h2 : ¬ nI i < 0 := nI_pos hi
  rw [Int32.lt_iff_toInt_lt] at h1 h2 ⊢
  have z : (0 : Int32).toInt = 0 := rfl
  have e : (nI L - 5).toInt = (nI L - nI 5).toInt := rfl
  omega
theorem cmpE {a b : Int64} {x : Int32} (h : a = b) (e : x = lg_cmp a b) : x = 0 := by
  subst h
  rw [e]
  unfold lg_cmp
  have n : ¬ a > a := fun q => Int.lt_irrefl _ (Int64.lt_iff_toInt_lt.mp q)
  rw [if_neg n, if_pos rfl]
