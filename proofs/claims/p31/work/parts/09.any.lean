section YR
variable {p : Program} {l : Launch} {e : Env} {R : Room} {s : State} {m : MethodId} {args : Array Value} {below : List Frame} {meth : Method} {c : Code} {H : Heap} {locs : List Loc} {cells slots : Nat} {Q : State → Prop}
variable {cc : ByteArray} {pc : Nat} {ls : Array Slot} {rest : List Value} {own : String} {Ts : List Cond} {nL : Nat} {ret : Option FieldType} {g : CX} {σ τ : ST} {I J : List (Nat × Nat)}
theorem y_putI (E : EV p s m args meth c cc own Ts nL ret g) (h : HW g τ s H locs) (hI : INV τ) (hF : Fr I J σ τ) {k ci j i N idx : Nat} {C : String} {T : u_T} {ty0 : Nat → FieldType} {ty : FieldType} {v : Int32} (F : FI g k ci j i) (hc : vwCl[ci]? = some (C, T, N)) (hin : ∀ w ∈ u_ws C T N, w ∈ Ts) (hty : ∀ k, k < N → parseFieldDescriptor (T k).2.2.1 = some (ty0 k)) (hnm : ∀ a, a < N → ∀ b, b < N → a ≠ b → (T a).2.1 ≠ (T b).2.1) (hj : j < N) (hlink : Cond.fieldLink own idx (T j).1 (T j).2.1 (T j).2.2.1 ∈ Ts) (hfin : (T j).2.2.2 = false) (hd : parseFieldDescriptor (T j).2.2.1 = some ty) (hn : narrow ty (.int v) = .int v) (hfit : fits ty (.int v) = true) (hb : ∀ N, bI i = some N → Bd v N) (hs : inR I i = true) (hdg : decode cc pc = .ok (.putfield idx, 3))
    (kk : ∀ (τ' : ST) (H1 : Heap) (locs1 : List Loc), τ' = sI τ i v → INV τ' → Fr I J σ τ' → HW g τ' s H1 locs1 → W p l e R s m args below meth c H1 locs1 cells slots Q (F0 m (pc + 3) ls rest)) : W p l e R s m args below meth c H locs cells slots Q (F0 m pc ls (.int v :: .ref (g.2.1 k) :: rest)) :=
  x_putI E h F hc hin hty hnm hj hlink hfin hd hn hfit hdg (fun H1 locs1 h1 => kk _ H1 locs1 rfl (hI.putI hb) (hF.putI hs) h1)
theorem y_putIN (E : EV p s m args meth c cc own Ts nL ret g) (h : HW g τ s H locs) (hI : INV τ) (hF : Fr I J σ τ) {k ci j i N idx : Nat} {C : String} {T : u_T} {ty0 : Nat → FieldType} {ty : FieldType} {v : Int32} (F : FI g k ci j i) (hc : vwCl[ci]? = some (C, T, N)) (hin : ∀ w ∈ u_ws C T N, w ∈ Ts) (hty : ∀ k, k < N → parseFieldDescriptor (T k).2.2.1 = some (ty0 k)) (hnm : ∀ a, a < N → ∀ b, b < N → a ≠ b → (T a).2.1 ≠ (T b).2.1) (hj : j < N) (hlink : Cond.fieldLinkNest own idx (T j).1 (T j).2.1 (T j).2.2.1 "VoiceHeaps" ∈ nestF) (hfin : (T j).2.2.2 = false) (hd : parseFieldDescriptor (T j).2.2.1 = some ty) (hn : narrow ty (.int v) = .int v) (hfit : fits ty (.int v) = true) (hb : ∀ N, bI i = some N → Bd v N) (hs : inR I i = true) (hdg : decode cc pc = .ok (.putfield idx, 3))
    (kk : ∀ (τ' : ST) (H1 : Heap) (locs1 : List Loc), τ' = sI τ i v → INV τ' → Fr I J σ τ' → HW g τ' s H1 locs1 → W p l e R s m args below meth c H1 locs1 cells slots Q (F0 m (pc + 3) ls rest)) : W p l e R s m args below meth c H locs cells slots Q (F0 m pc ls (.int v :: .ref (g.2.1 k) :: rest)) :=
  x_putIN E h F hc hin hty hnm hj hlink hfin hd hn hfit hdg (fun H1 locs1 h1 => kk _ H1 locs1 rfl (hI.putI hb) (hF.putI hs) h1)
theorem y_putL (E : EV p s m args meth c cc own Ts nL ret g) (h : HW g τ s H locs) (hI : INV τ) (hF : Fr I J σ τ) {k ci j i N idx : Nat} {C : String} {T : u_T} {ty0 : Nat → FieldType} {ty : FieldType} {v : Int64} (F : FL g k ci j i) (hc : vwCl[ci]? = some (C, T, N)) (hin : ∀ w ∈ u_ws C T N, w ∈ Ts) (hty : ∀ k, k < N → parseFieldDescriptor (T k).2.2.1 = some (ty0 k)) (hnm : ∀ a, a < N → ∀ b, b < N → a ≠ b → (T a).2.1 ≠ (T b).2.1) (hj : j < N) (hlink : Cond.fieldLink own idx (T j).1 (T j).2.1 (T j).2.2.1 ∈ Ts) (hfin : (T j).2.2.2 = false) (hd : parseFieldDescriptor (T j).2.2.1 = some ty) (hn : narrow ty (.long v) = .long v) (hfit : fits ty (.long v) = true) (hdg : decode cc pc = .ok (.putfield idx, 3))
    (kk : ∀ (τ' : ST) (H1 : Heap) (locs1 : List Loc), τ' = sL τ i v → INV τ' → Fr I J σ τ' → HW g τ' s H1 locs1 → W p l e R s m args below meth c H1 locs1 cells slots Q (F0 m (pc + 3) ls rest)) : W p l e R s m args below meth c H locs cells slots Q (F0 m pc ls (.long v :: .ref (g.2.1 k) :: rest)) :=
  x_putL E h F hc hin hty hnm hj hlink hfin hd hn hfit hdg (fun H1 locs1 h1 => kk _ H1 locs1 rfl hI ⟨hF.1, hF.2⟩ h1)
theorem y_stI (E : EV p s m args meth c cc own Ts nL ret g) (h : HW g τ s H locs) (hI : INV τ) (hF : Fr I J σ τ) {k n a : Nat} (A : IA g k n a .int) {i x : Int32} (hin : vp_in i n) {j : Nat} (hj : i.toNatClampNeg = j) (hb : ∀ N, bA a = some N → Bd x N) (hs : inR J a = true) (hdg : decode cc pc = .ok (.iastore, 1))
    (kk : ∀ (τ' : ST) (H1 : Heap) (locs1 : List Loc), τ' = sA τ a (upd (τ.2.2 a) j x) → INV τ' → Fr I J σ τ' → HW g τ' s H1 locs1 → W p l e R s m args below meth c H1 locs1 cells slots Q (F0 m (pc + 1) ls rest)) : W p l e R s m args below meth c H locs cells slots Q (F0 m pc ls (.int x :: .int i :: .ref (g.2.1 k) :: rest)) :=
  x_stI E h A hin hj rfl hdg (fun H1 locs1 h1 => kk _ H1 locs1 rfl (hI.putA hb) (hF.putA hs) h1)
theorem y_stZ (E : EV p s m args meth c cc own Ts nL ret g) (h : HW g τ s H locs) (hI : INV τ) (hF : Fr I J σ τ) {k n a : Nat} (A : IA g k n a .boolean) {i x : Int32} (hin : vp_in i n) {j : Nat} (hj : i.toNatClampNeg = j) (hb : ∀ N, bA a = some N → Bd (vp_nar .boolean x) N) (hs : inR J a = true) (hdg : decode cc pc = .ok (.bastore, 1))
    (kk : ∀ (τ' : ST) (H1 : Heap) (locs1 : List Loc), τ' = sA τ a (upd (τ.2.2 a) j (vp_nar .boolean x)) → INV τ' → Fr I J σ τ' → HW g τ' s H1 locs1 → W p l e R s m args below meth c H1 locs1 cells slots Q (F0 m (pc + 1) ls rest)) : W p l e R s m args below meth c H locs cells slots Q (F0 m pc ls (.int x :: .int i :: .ref (g.2.1 k) :: rest)) :=
  x_stZ E h A hin hj rfl hdg (fun H1 locs1 h1 => kk _ H1 locs1 rfl (hI.putA hb) (hF.putA hs) h1)
theorem y_stB (E : EV p s m args meth c cc own Ts nL ret g) (h : HW g τ s H locs) (hI : INV τ) (hF : Fr I J σ τ) {k n a : Nat} (A : IA g k n a .byte) {i x : Int32} (hin : vp_in i n) {j : Nat} (hj : i.toNatClampNeg = j) (hb : ∀ N, bA a = some N → Bd (vp_nar .byte x) N) (hs : inR J a = true) (hdg : decode cc pc = .ok (.bastore, 1))
    (kk : ∀ (τ' : ST) (H1 : Heap) (locs1 : List Loc), τ' = sA τ a (upd (τ.2.2 a) j (vp_nar .byte x)) → INV τ' → Fr I J σ τ' → HW g τ' s H1 locs1 → W p l e R s m args below meth c H1 locs1 cells slots Q (F0 m (pc + 1) ls rest)) : W p l e R s m args below meth c H locs cells slots Q (F0 m pc ls (.int x :: .int i :: .ref (g.2.1 k) :: rest)) :=
  x_stB E h A hin hj rfl hdg (fun H1 locs1 h1 => kk _ H1 locs1 rfl (hI.putA hb) (hF.putA hs) h1)
end YR
theorem gb_ga_sorted (n : Nat) (h : n < 4) : bA (8 + n) = none := by
  rcases (show n = 0 ∨ n = 1 ∨ n = 2 ∨ n = 3 by omega) with rfl | rfl | rfl | rfl <;> rfl
theorem gi_ga_sorted (g : CX) (n : Nat) (h : n < 4) : IA g (12 + n) 48 (8 + n) .int := by
  rcases (show n = 0 ∨ n = 1 ∨ n = 2 ∨ n = 3 by omega) with rfl | rfl | rfl | rfl
  · exact ia_ga_sorted_0 g
  · exact ia_ga_sorted_1 g
  · exact ia_ga_sorted_2 g
  · exact ia_ga_sorted_3 g
theorem gr_ga_sorted (n : Nat) (J : List (Nat × Nat)) (h : n < 4) (hs : subR [(8, 11)] J = true) : inR J (8 + n) = true := by
  refine inR_sub hs ?_
  rcases (show n = 0 ∨ n = 1 ∨ n = 2 ∨ n = 3 by omega) with rfl | rfl | rfl | rfl <;> rfl
theorem gb_bo_bond (n : Nat) (h : n < 9) : bA (21 + n) = none := by
  rcases (show n = 0 ∨ n = 1 ∨ n = 2 ∨ n = 3 ∨ n = 4 ∨ n = 5 ∨ n = 6 ∨ n = 7 ∨ n = 8 by omega) with rfl | rfl | rfl | rfl | rfl | rfl | rfl | rfl | rfl <;> rfl
theorem gi_bo_bond (g : CX) (n : Nat) (h : n < 9) : IA g (27 + n) 9 (21 + n) .int := by
  rcases (show n = 0 ∨ n = 1 ∨ n = 2 ∨ n = 3 ∨ n = 4 ∨ n = 5 ∨ n = 6 ∨ n = 7 ∨ n = 8 by omega) with rfl | rfl | rfl | rfl | rfl | rfl | rfl | rfl | rfl
  · exact ia_bo_bond_0 g
  · exact ia_bo_bond_1 g
  · exact ia_bo_bond_2 g
  · exact ia_bo_bond_3 g
  · exact ia_bo_bond_4 g
  · exact ia_bo_bond_5 g
  · exact ia_bo_bond_6 g
  · exact ia_bo_bond_7 g
  · exact ia_bo_bond_8 g
theorem gr_bo_bond (n : Nat) (J : List (Nat × Nat)) (h : n < 9) (hs : subR [(21, 29)] J = true) : inR J (21 + n) = true := by
  refine inR_sub hs ?_
  rcases (show n = 0 ∨ n = 1 ∨ n = 2 ∨ n = 3 ∨ n = 4 ∨ n = 5 ∨ n = 6 ∨ n = 7 ∨ n = 8 by omega) with rfl | rfl | rfl | rfl | rfl | rfl | rfl | rfl | rfl <;> rfl
theorem gb_bo_link (n : Nat) (h : n < 9) : bA (31 + n) = none := by
  rcases (show n = 0 ∨ n = 1 ∨ n = 2 ∨ n = 3 ∨ n = 4 ∨ n = 5 ∨ n = 6 ∨ n = 7 ∨ n = 8 by omega) with rfl | rfl | rfl | rfl | rfl | rfl | rfl | rfl | rfl <;> rfl
theorem gi_bo_link (g : CX) (n : Nat) (h : n < 9) : IA g (37 + n) 9 (31 + n) .int := by
  rcases (show n = 0 ∨ n = 1 ∨ n = 2 ∨ n = 3 ∨ n = 4 ∨ n = 5 ∨ n = 6 ∨ n = 7 ∨ n = 8 by omega) with rfl | rfl | rfl | rfl | rfl | rfl | rfl | rfl | rfl
  · exact ia_bo_link_0 g
  · exact ia_bo_link_1 g
  · exact ia_bo_link_2 g
  · exact ia_bo_link_3 g
  · exact ia_bo_link_4 g
  · exact ia_bo_link_5 g
  · exact ia_bo_link_6 g
  · exact ia_bo_link_7 g
  · exact ia_bo_link_8 g
theorem gr_bo_link (n : Nat) (J : List (Nat × Nat)) (h : n < 9) (hs : subR [(31, 39)] J = true) : inR J (31 + n) = true := by
  refine inR_sub hs ?_
  rcases (show n = 0 ∨ n = 1 ∨ n = 2 ∨ n = 3 ∨ n = 4 ∨ n = 5 ∨ n = 6 ∨ n = 7 ∨ n = 8 by omega) with rfl | rfl | rfl | rfl | rfl | rfl | rfl | rfl | rfl <;> rfl
theorem gb_ve_together (n : Nat) (h : n < 9) : bA (55 + n) = none := by
  rcases (show n = 0 ∨ n = 1 ∨ n = 2 ∨ n = 3 ∨ n = 4 ∨ n = 5 ∨ n = 6 ∨ n = 7 ∨ n = 8 by omega) with rfl | rfl | rfl | rfl | rfl | rfl | rfl | rfl | rfl <;> rfl
theorem gi_ve_together (g : CX) (n : Nat) (h : n < 9) : IA g (67 + n) 5 (55 + n) .int := by
  rcases (show n = 0 ∨ n = 1 ∨ n = 2 ∨ n = 3 ∨ n = 4 ∨ n = 5 ∨ n = 6 ∨ n = 7 ∨ n = 8 by omega) with rfl | rfl | rfl | rfl | rfl | rfl | rfl | rfl | rfl
  · exact ia_ve_together_0 g
  · exact ia_ve_together_1 g
  · exact ia_ve_together_2 g
  · exact ia_ve_together_3 g
  · exact ia_ve_together_4 g
  · exact ia_ve_together_5 g
  · exact ia_ve_together_6 g
  · exact ia_ve_together_7 g
  · exact ia_ve_together_8 g
theorem gr_ve_together (n : Nat) (J : List (Nat × Nat)) (h : n < 9) (hs : subR [(55, 63)] J = true) : inR J (55 + n) = true := by
  refine inR_sub hs ?_
  rcases (show n = 0 ∨ n = 1 ∨ n = 2 ∨ n = 3 ∨ n = 4 ∨ n = 5 ∨ n = 6 ∨ n = 7 ∨ n = 8 by omega) with rfl | rfl | rfl | rfl | rfl | rfl | rfl | rfl | rfl <;> rfl
