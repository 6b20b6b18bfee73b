def σ0 : ST := (fun j => cond (Nat.beq j 21) (-1) (cond (Nat.beq j 22) 1 (cond (Nat.beq j 23) 1 (cond (Nat.beq j 24) 1 0))), fun _ => 0, fun a => cond (Nat.beq a 1) nowF (cond (Nat.beq a 66) ruleF (fun _ => 0)))
theorem x_sld {p : Program} {l : Launch} {e : Env} {R : Room} {s : State} {m : MethodId} {args : Array Value} {below : List Frame} {meth : Method} {c : Code} {H : Heap} {locs : List Loc} {cells slots : Nat} {Q : State → Prop} {cc : ByteArray} {pc : Nat} {ls : Array Slot} {rest : List Value} {own : String} {Ts : List Cond} {nL : Nat} {ret : Option FieldType} {g : CX} {σ : ST} (E : EV p s m args meth c cc own Ts nL ret g) (h : HW g σ s H locs) {b L : Nat} {xs : Nat → Int32} (hX : va_X b L xs s s.heap) (hbl : b < s.heap.size) (hbA : ¬ Aw g b) {i : Int32} {j : Nat} (hin : vp_in i L) (hj : i.toNatClampNeg = j) (hdg : decode cc pc = .ok (.iaload, 1)) (kk : W p l e R s m args below meth c H locs cells slots Q (F0 m (pc + 1) ls (.int (xs j) :: rest))) : W p l e R s m args below meth c H locs cells slots Q (F0 m pc ls (.int i :: .ref b :: rest)) := by
  subst hj
  exact va_sld E.1 E.2.1 hX hbl hbA h.2 hin hdg kk
theorem law_end {p : Program} {e : Env} {s : State} {m : MethodId} {below : List Frame} {meth : Method} {c : Code} (l : Launch) {b : Nat} {g : CX} {σ : ST} (E : EV p s m #[Value.ref b] meth c cL_law RL wsL_law 4 ret g) {H : Heap} {ls : Array Slot} {locs : List Loc} (h : HW g σ s H locs) (hAw : ∀ q, Aw g q → s.heap.size ≤ q) : W p l e room_1 s m #[Value.ref b] below meth c H locs 108 7415 (lw_Z below #[Value.ref b] s) (F0 m 1072 ls []) := by
  refine lv_iconst (v := 1) E.1 E.2.1 dL_law_1072 (by decide) ?_
  refine W.widen (k := 600000) (n := 7302250) (Nat.le_of_ble_eq_true rfl) (Nat.le_of_ble_eq_true rfl) ?_
  refine va_forget (fun q hq => hAw _ (h.2.2.2 q hq)) ?_
  exact lw_ret E.1 E.2.1 E.2.2.2.2.2.2.1 E.2.2.2.2.2.2.2 dL_law_1073
theorem law_tail {p : Program} {e : Env} {s : State} {m : MethodId} {below : List Frame} {meth : Method} {c : Code} (l : Launch) {b : Nat} {xs : Nat → Int32} {g : CX} {σ : ST} (E : EV p s m #[Value.ref b] meth c cL_law RL wsL_law 4 ret g) {H : Heap} {ls : Array Slot} {locs : List Loc} (h : HW g σ s H locs) (hX : va_X b 5 xs s s.heap) (hbl : b < s.heap.size) (hbA : ¬ Aw g b) (hAw : ∀ q, Aw g q → s.heap.size ≤ q) (hl : lv_has ls 4 [(3, .int 0), (2, .ref (g.2.1 79)), (1, .ref (g.2.1 0)), (0, .ref b)]) : W p l e room_1 s m #[Value.ref b] below meth c H locs 108 7415 (lw_Z below #[Value.ref b] s) (F0 m 1066 ls []) := by
  have hx := E.1
  have hb := E.2.1
  refine lv_iinc (v := 5) (lv' := [(3, .int 5), (2, .ref (g.2.1 79)), (1, .ref (g.2.1 0)), (0, .ref b)]) hx hb dL_law_1066 hl (k := 0) rfl (by decide) (by decide) rfl (fun ls hl => ?_)
  refine lv_goto (tgt := 18) hx hb dL_law_1069 (by decide) ?_
  refine lv_iload_n hx hb dL_law_18 rfl (lv_at hl 0 rfl) ?_
  refine lv_aload_n hx hb dL_law_19 rfl (lv_at hl 3 rfl) ?_
  refine va_slen hx hb hX hbl hbA h.2 dL_law_20 ?_
  refine lv_iconst (v := 5) hx hb dL_law_21 (by decide) ?_
  refine lv_isub hx hb dL_law_22 ?_
  refine x_topI (v2 := 0) (by decide) ?_
  refine lv_icmp_gt (tgt := 1072) hx hb dL_law_23 (by decide) (fun _ => ?_) (fun c => absurd (by decide) c)
  exact law_end l E h hAw
