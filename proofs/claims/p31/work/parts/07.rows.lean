/-! the rows of a walk over the one world: fields, arrays, calls, ends -/
/-- what stays the same over a method's walk -/
def EV (p : Program) (s : State) (m : MethodId) (args : Array Value) (meth : Method) (c : Code) (cc : ByteArray) (own : String) (Ts : List Cond) (nL : Nat) (ret : Option FieldType) (g : CX) : Prop :=
  p.tables.exec = Jvm.exec ∧ c.code = cc ∧ c.maxLocals = nL ∧ s.vm.findClass own = some m.cls ∧ (∀ w ∈ Ts, w.before args s = true) ∧ GS g s ∧ meth.sig.returnType = ret ∧ meth.locks = false
theorem x_met {l : Launch} {g : CX} {y : MethodName} {ws ws' : List Cond} {rm : Room} {av : List Value} {σ : ST} {Qc : Array Value → State → Outcome → State → Prop} {cc : ByteArray} {maxL : Nat} {ret : Option FieldType} {own : String} {lv : List (Nat × Value)} (hy : plainName y.cls = true) (hw : ws = Cond.code y cc maxL ret :: ws') (ho : own = y.cls) (hn : (lg_sl av).length ≤ maxL) (hlv : lv_args 0 av = lv)
    (body : ∀ (p : Program) (e : Env) (s : State) (m : MethodId) (args : Array Value) (below : List Frame) (meth : Method) (c : Code) (ls : Array Slot), EV p s m args meth c cc own ws maxL ret g → HW g σ s s.heap [] → lv_has ls maxL lv → W p l e rm s m args below meth c s.heap [] 0 0 (MQ below Qc args s 0 0 (Aw g)) (F0 m 0 ls [])) : XM l g y ws rm av σ Qc := by
  refine Met.ofW (cc := cc) (maxL := maxL) (ret := ret) hy hw ?_
  intro p e s m args below meth c s₁ B hml hv
  obtain ⟨rfl, hP, hG⟩ := hv
  subst hlv
  subst ho
  have hl := lv_entry av hn
  rw [lg_entry_eq]
  exact body p e s m av.toArray below meth c _ ⟨B.exec, B.bytes, hml, findClass_of_methodNamed B.named, atoms_spec (ws := ws) B.pre, hG, B.returns, B.notSynchronized⟩ ⟨hP, va_S.rf⟩ hl
theorem x_wG {g : CX} {k0 n i : Nat} (h : i < n) : wG g k0 n i = some (g.2.1 (k0 + i)) := by
  unfold wG
  rw [List.getElem?_map, List.getElem?_range h]
  rfl
section XR
variable {p : Program} {l : Launch} {e : Env} {R : Room} {s : State} {m : MethodId} {args : Array Value} {below : List Frame} {meth : Method} {c : Code} {H : Heap} {locs : List Loc} {cells slots : Nat} {Q : State → Prop}
variable {cc : ByteArray} {pc : Nat} {ls : Array Slot} {rest : List Value} {own : String} {Ts : List Cond} {nL : Nat} {ret : Option FieldType} {g : CX} {σ : ST}
theorem x_getI (E : EV p s m args meth c cc own Ts nL ret g) (h : HW g σ s H locs) {k ci j i N idx : Nat} {C : String} {T : u_T} (F : FI g k ci j i) (hc : vwCl[ci]? = some (C, T, N)) (hin : ∀ w ∈ u_ws C T N, w ∈ Ts) (hj : j < N) (hlink : Cond.fieldLink own idx (T j).1 (T j).2.1 (T j).2.2.1 ∈ Ts) {v : Int32} (hv : σ.1 i = v) (hdg : decode cc pc = .ok (.getfield idx, 3))
    (kk : W p l e R s m args below meth c H locs cells slots Q (F0 m (pc + 3) ls (.int v :: rest))) : W p l e R s m args below meth c H locs cells slots Q (F0 m pc ls (.ref (g.2.1 k) :: rest)) := by
  subst hv
  obtain ⟨hx, hb, hml, hown, hts, hG, hr, hlk⟩ := E
  obtain ⟨fs, f1, f2, f3, f4⟩ := F σ
  exact va_get (D := g.1) (ref := (T j).1) hx hb hts hin hown hG.1 h.1 k f1 hc j hj (hts _ hlink) (fun _ q => q) f2 hdg kk
theorem x_getL (E : EV p s m args meth c cc own Ts nL ret g) (h : HW g σ s H locs) {k ci j i N idx : Nat} {C : String} {T : u_T} (F : FL g k ci j i) (hc : vwCl[ci]? = some (C, T, N)) (hin : ∀ w ∈ u_ws C T N, w ∈ Ts) (hj : j < N) (hlink : Cond.fieldLink own idx (T j).1 (T j).2.1 (T j).2.2.1 ∈ Ts) {v : Int64} (hv : σ.2.1 i = v) (hdg : decode cc pc = .ok (.getfield idx, 3))
    (kk : W p l e R s m args below meth c H locs cells slots Q (F0 m (pc + 3) ls (.long v :: rest))) : W p l e R s m args below meth c H locs cells slots Q (F0 m pc ls (.ref (g.2.1 k) :: rest)) := by
  subst hv
  obtain ⟨hx, hb, hml, hown, hts, hG, hr, hlk⟩ := E
  obtain ⟨fs, f1, f2, f3, f4⟩ := F σ
  exact va_get (D := g.1) (ref := (T j).1) hx hb hts hin hown hG.1 h.1 k f1 hc j hj (hts _ hlink) (fun _ q => q) f2 hdg kk
theorem x_getR (E : EV p s m args meth c cc own Ts nL ret g) (h : HW g σ s H locs) {k ci j k2 N idx : Nat} {C : String} {T : u_T} (F : FR g k ci j k2) (hc : vwCl[ci]? = some (C, T, N)) (hin : ∀ w ∈ u_ws C T N, w ∈ Ts) (hj : j < N) (hlink : Cond.fieldLink own idx (T j).1 (T j).2.1 (T j).2.2.1 ∈ Ts) (hdg : decode cc pc = .ok (.getfield idx, 3))
    (kk : W p l e R s m args below meth c H locs cells slots Q (F0 m (pc + 3) ls (.ref (g.2.1 k2) :: rest))) : W p l e R s m args below meth c H locs cells slots Q (F0 m pc ls (.ref (g.2.1 k) :: rest)) := by
  obtain ⟨hx, hb, hml, hown, hts, hG, hr, hlk⟩ := E
  obtain ⟨fs, f1, f2⟩ := F σ
  exact va_get (D := g.1) (ref := (T j).1) hx hb hts hin hown hG.1 h.1 k f1 hc j hj (hts _ hlink) (fun _ q => q) f2 hdg kk
theorem x_getIN (E : EV p s m args meth c cc own Ts nL ret g) (h : HW g σ s H locs) {k ci j i N idx : Nat} {C : String} {T : u_T} (F : FI g k ci j i) (hc : vwCl[ci]? = some (C, T, N)) (hin : ∀ w ∈ u_ws C T N, w ∈ Ts) (hj : j < N) (hlink : Cond.fieldLinkNest own idx (T j).1 (T j).2.1 (T j).2.2.1 "VoiceHeaps" ∈ nestF) {v : Int32} (hv : σ.1 i = v) (hdg : decode cc pc = .ok (.getfield idx, 3))
    (kk : W p l e R s m args below meth c H locs cells slots Q (F0 m (pc + 3) ls (.int v :: rest))) : W p l e R s m args below meth c H locs cells slots Q (F0 m pc ls (.ref (g.2.1 k) :: rest)) := by
  subst hv
  obtain ⟨hx, hb, hml, hown, hts, hG, hr, hlk⟩ := E
  obtain ⟨fs, f1, f2, f3, f4⟩ := F σ
  exact va_getN (D := g.1) (ref := (T j).1) hx hb hts hin hown hG.1 h.1 k f1 hc j hj (va_Nw.use rfl (hG.2.1.1 _ hlink)) (fun _ q => q) f2 hdg kk
theorem x_getLN (E : EV p s m args meth c cc own Ts nL ret g) (h : HW g σ s H locs) {k ci j i N idx : Nat} {C : String} {T : u_T} (F : FL g k ci j i) (hc : vwCl[ci]? = some (C, T, N)) (hin : ∀ w ∈ u_ws C T N, w ∈ Ts) (hj : j < N) (hlink : Cond.fieldLinkNest own idx (T j).1 (T j).2.1 (T j).2.2.1 "VoiceHeaps" ∈ nestF) {v : Int64} (hv : σ.2.1 i = v) (hdg : decode cc pc = .ok (.getfield idx, 3))
    (kk : W p l e R s m args below meth c H locs cells slots Q (F0 m (pc + 3) ls (.long v :: rest))) : W p l e R s m args below meth c H locs cells slots Q (F0 m pc ls (.ref (g.2.1 k) :: rest)) := by
  subst hv
  obtain ⟨hx, hb, hml, hown, hts, hG, hr, hlk⟩ := E
  obtain ⟨fs, f1, f2, f3, f4⟩ := F σ
  exact va_getN (D := g.1) (ref := (T j).1) hx hb hts hin hown hG.1 h.1 k f1 hc j hj (va_Nw.use rfl (hG.2.1.1 _ hlink)) (fun _ q => q) f2 hdg kk
theorem x_getRN (E : EV p s m args meth c cc own Ts nL ret g) (h : HW g σ s H locs) {k ci j k2 N idx : Nat} {C : String} {T : u_T} (F : FR g k ci j k2) (hc : vwCl[ci]? = some (C, T, N)) (hin : ∀ w ∈ u_ws C T N, w ∈ Ts) (hj : j < N) (hlink : Cond.fieldLinkNest own idx (T j).1 (T j).2.1 (T j).2.2.1 "VoiceHeaps" ∈ nestF) (hdg : decode cc pc = .ok (.getfield idx, 3))
    (kk : W p l e R s m args below meth c H locs cells slots Q (F0 m (pc + 3) ls (.ref (g.2.1 k2) :: rest))) : W p l e R s m args below meth c H locs cells slots Q (F0 m pc ls (.ref (g.2.1 k) :: rest)) := by
  obtain ⟨hx, hb, hml, hown, hts, hG, hr, hlk⟩ := E
  obtain ⟨fs, f1, f2⟩ := F σ
  exact va_getN (D := g.1) (ref := (T j).1) hx hb hts hin hown hG.1 h.1 k f1 hc j hj (va_Nw.use rfl (hG.2.1.1 _ hlink)) (fun _ q => q) f2 hdg kk
theorem x_putI (E : EV p s m args meth c cc own Ts nL ret g) (h : HW g σ s H locs) {k ci j i N idx : Nat} {C : String} {T : u_T} {ty0 : Nat → FieldType} {ty : FieldType} {v : Int32} (F : FI g k ci j i) (hc : vwCl[ci]? = some (C, T, N)) (hin : ∀ w ∈ u_ws C T N, w ∈ Ts) (hty : ∀ k, k < N → parseFieldDescriptor (T k).2.2.1 = some (ty0 k)) (hnm : ∀ a, a < N → ∀ b, b < N → a ≠ b → (T a).2.1 ≠ (T b).2.1) (hj : j < N) (hlink : Cond.fieldLink own idx (T j).1 (T j).2.1 (T j).2.2.1 ∈ Ts) (hfin : (T j).2.2.2 = false) (hd : parseFieldDescriptor (T j).2.2.1 = some ty) (hn : narrow ty (.int v) = .int v) (hfit : fits ty (.int v) = true) (hdg : decode cc pc = .ok (.putfield idx, 3))
    (kk : ∀ (H1 : Heap) (locs1 : List Loc), HW g (sI σ i v) s H1 locs1 → W p l e R s m args below meth c H1 locs1 cells slots Q (F0 m (pc + 3) ls rest)) : W p l e R s m args below meth c H locs cells slots Q (F0 m pc ls (.int v :: .ref (g.2.1 k) :: rest)) := by
  obtain ⟨hx, hb, hml, hown, hts, hG, hr, hlk⟩ := E
  obtain ⟨fs, f1, f2, f3, f4⟩ := F σ
  refine va_put (D := g.1) (ref := (T j).1) hx hb hts hin ty0 hty hnm hown hG.1 h.1 (wW_D hG.2.2.1 σ) h.2 k f1 hc j hj (hts _ hlink) (fun _ q => q) hfin hd hn hfit f3 hdg (fun H1 locs1 hP _ hS => ?_)
  rw [f4 v] at hP
  exact kk H1 locs1 ⟨hP, hS⟩
theorem x_putL (E : EV p s m args meth c cc own Ts nL ret g) (h : HW g σ s H locs) {k ci j i N idx : Nat} {C : String} {T : u_T} {ty0 : Nat → FieldType} {ty : FieldType} {v : Int64} (F : FL g k ci j i) (hc : vwCl[ci]? = some (C, T, N)) (hin : ∀ w ∈ u_ws C T N, w ∈ Ts) (hty : ∀ k, k < N → parseFieldDescriptor (T k).2.2.1 = some (ty0 k)) (hnm : ∀ a, a < N → ∀ b, b < N → a ≠ b → (T a).2.1 ≠ (T b).2.1) (hj : j < N) (hlink : Cond.fieldLink own idx (T j).1 (T j).2.1 (T j).2.2.1 ∈ Ts) (hfin : (T j).2.2.2 = false) (hd : parseFieldDescriptor (T j).2.2.1 = some ty) (hn : narrow ty (.long v) = .long v) (hfit : fits ty (.long v) = true) (hdg : decode cc pc = .ok (.putfield idx, 3))
    (kk : ∀ (H1 : Heap) (locs1 : List Loc), HW g (sL σ i v) s H1 locs1 → W p l e R s m args below meth c H1 locs1 cells slots Q (F0 m (pc + 3) ls rest)) : W p l e R s m args below meth c H locs cells slots Q (F0 m pc ls (.long v :: .ref (g.2.1 k) :: rest)) := by
  obtain ⟨hx, hb, hml, hown, hts, hG, hr, hlk⟩ := E
  obtain ⟨fs, f1, f2, f3, f4⟩ := F σ
  refine va_put (D := g.1) (ref := (T j).1) hx hb hts hin ty0 hty hnm hown hG.1 h.1 (wW_D hG.2.2.1 σ) h.2 k f1 hc j hj (hts _ hlink) (fun _ q => q) hfin hd hn hfit f3 hdg (fun H1 locs1 hP _ hS => ?_)
  rw [f4 v] at hP
  exact kk H1 locs1 ⟨hP, hS⟩
theorem x_putIN (E : EV p s m args meth c cc own Ts nL ret g) (h : HW g σ s H locs) {k ci j i N idx : Nat} {C : String} {T : u_T} {ty0 : Nat → FieldType} {ty : FieldType} {v : Int32} (F : FI g k ci j i) (hc : vwCl[ci]? = some (C, T, N)) (hin : ∀ w ∈ u_ws C T N, w ∈ Ts) (hty : ∀ k, k < N → parseFieldDescriptor (T k).2.2.1 = some (ty0 k)) (hnm : ∀ a, a < N → ∀ b, b < N → a ≠ b → (T a).2.1 ≠ (T b).2.1) (hj : j < N) (hlink : Cond.fieldLinkNest own idx (T j).1 (T j).2.1 (T j).2.2.1 "VoiceHeaps" ∈ nestF) (hfin : (T j).2.2.2 = false) (hd : parseFieldDescriptor (T j).2.2.1 = some ty) (hn : narrow ty (.int v) = .int v) (hfit : fits ty (.int v) = true) (hdg : decode cc pc = .ok (.putfield idx, 3))
    (kk : ∀ (H1 : Heap) (locs1 : List Loc), HW g (sI σ i v) s H1 locs1 → W p l e R s m args below meth c H1 locs1 cells slots Q (F0 m (pc + 3) ls rest)) : W p l e R s m args below meth c H locs cells slots Q (F0 m pc ls (.int v :: .ref (g.2.1 k) :: rest)) := by
  obtain ⟨hx, hb, hml, hown, hts, hG, hr, hlk⟩ := E
  obtain ⟨fs, f1, f2, f3, f4⟩ := F σ
  refine va_putN (D := g.1) (ref := (T j).1) hx hb hts hin ty0 hty hnm hown hG.1 h.1 (wW_D hG.2.2.1 σ) h.2 k f1 hc j hj (va_Nw.use rfl (hG.2.1.1 _ hlink)) (fun _ q => q) hfin hd hn hfit f3 hdg (fun H1 locs1 hP _ hS => ?_)
  rw [f4 v] at hP
  exact kk H1 locs1 ⟨hP, hS⟩
theorem x_ldI (E : EV p s m args meth c cc own Ts nL ret g) (h : HW g σ s H locs) {k n a : Nat} (A : IA g k n a .int) {i : Int32} (hin : vp_in i n) {v : Int32} (hv : σ.2.2 a i.toNatClampNeg = v) (hdg : decode cc pc = .ok (.iaload, 1))
    (kk : W p l e R s m args below meth c H locs cells slots Q (F0 m (pc + 1) ls (.int v :: rest))) : W p l e R s m args below meth c H locs cells slots Q (F0 m pc ls (.int i :: .ref (g.2.1 k) :: rest)) := by
  subst hv
  obtain ⟨hx, hb, hml, hown, hts, hG, hr, hlk⟩ := E
  exact va_iald (D := g.1) hx hb hG.1 h.1 k a (A.1 σ).1 A.2 hin hdg kk
theorem x_ldZ (E : EV p s m args meth c cc own Ts nL ret g) (h : HW g σ s H locs) {k n a : Nat} (A : IA g k n a .boolean) {i : Int32} (hin : vp_in i n) {v : Int32} (hv : σ.2.2 a i.toNatClampNeg = v) (hdg : decode cc pc = .ok (.baload, 1))
    (kk : W p l e R s m args below meth c H locs cells slots Q (F0 m (pc + 1) ls (.int v :: rest))) : W p l e R s m args below meth c H locs cells slots Q (F0 m pc ls (.int i :: .ref (g.2.1 k) :: rest)) := by
  subst hv
  obtain ⟨hx, hb, hml, hown, hts, hG, hr, hlk⟩ := E
  exact va_zald (D := g.1) hx hb hG.1 h.1 k a (A.1 σ).1 A.2 hin hdg kk
theorem x_ldB (E : EV p s m args meth c cc own Ts nL ret g) (h : HW g σ s H locs) {k n a : Nat} (A : IA g k n a .byte) {i : Int32} (hin : vp_in i n) {v : Int32} (hv : σ.2.2 a i.toNatClampNeg = v) (hdg : decode cc pc = .ok (.baload, 1))
    (kk : W p l e R s m args below meth c H locs cells slots Q (F0 m (pc + 1) ls (.int v :: rest))) : W p l e R s m args below meth c H locs cells slots Q (F0 m pc ls (.int i :: .ref (g.2.1 k) :: rest)) := by
  subst hv
  obtain ⟨hx, hb, hml, hown, hts, hG, hr, hlk⟩ := E
  exact va_bald (D := g.1) hx hb hG.1 h.1 k a (A.1 σ).1 A.2 hin hdg kk
theorem x_stI (E : EV p s m args meth c cc own Ts nL ret g) (h : HW g σ s H locs) {k n a : Nat} (A : IA g k n a .int) {i x : Int32} (hin : vp_in i n) {j : Nat} (hj : i.toNatClampNeg = j) {f : Nat → Int32} (hf : upd (σ.2.2 a) j x = f) (hdg : decode cc pc = .ok (.iastore, 1))
    (kk : ∀ (H1 : Heap) (locs1 : List Loc), HW g (sA σ a f) s H1 locs1 → W p l e R s m args below meth c H1 locs1 cells slots Q (F0 m (pc + 1) ls rest)) : W p l e R s m args below meth c H locs cells slots Q (F0 m pc ls (.int x :: .int i :: .ref (g.2.1 k) :: rest)) := by
  subst hj
  subst hf
  obtain ⟨hx, hb, hml, hown, hts, hG, hr, hlk⟩ := E
  refine va_iast (D := g.1) hx hb hG.1 h.1 (wW_D hG.2.2.1 σ) h.2 k a (A.1 σ).1 A.2 hin hdg (fun H1 locs1 hP _ hS => ?_)
  rw [(A.1 σ).2] at hP
  exact kk H1 locs1 ⟨hP, hS⟩
theorem x_stZ (E : EV p s m args meth c cc own Ts nL ret g) (h : HW g σ s H locs) {k n a : Nat} (A : IA g k n a .boolean) {i x : Int32} (hin : vp_in i n) {j : Nat} (hj : i.toNatClampNeg = j) {f : Nat → Int32} (hf : upd (σ.2.2 a) j (vp_nar .boolean x) = f) (hdg : decode cc pc = .ok (.bastore, 1))
    (kk : ∀ (H1 : Heap) (locs1 : List Loc), HW g (sA σ a f) s H1 locs1 → W p l e R s m args below meth c H1 locs1 cells slots Q (F0 m (pc + 1) ls rest)) : W p l e R s m args below meth c H locs cells slots Q (F0 m pc ls (.int x :: .int i :: .ref (g.2.1 k) :: rest)) := by
  subst hj
  subst hf
  obtain ⟨hx, hb, hml, hown, hts, hG, hr, hlk⟩ := E
  refine va_zast (D := g.1) hx hb hG.1 h.1 (wW_D hG.2.2.1 σ) h.2 k a (A.1 σ).1 A.2 hin hdg (fun H1 locs1 hP _ hS => ?_)
  rw [(A.1 σ).2] at hP
  exact kk H1 locs1 ⟨hP, hS⟩
theorem x_stB (E : EV p s m args meth c cc own Ts nL ret g) (h : HW g σ s H locs) {k n a : Nat} (A : IA g k n a .byte) {i x : Int32} (hin : vp_in i n) {j : Nat} (hj : i.toNatClampNeg = j) {f : Nat → Int32} (hf : upd (σ.2.2 a) j (vp_nar .byte x) = f) (hdg : decode cc pc = .ok (.bastore, 1))
    (kk : ∀ (H1 : Heap) (locs1 : List Loc), HW g (sA σ a f) s H1 locs1 → W p l e R s m args below meth c H1 locs1 cells slots Q (F0 m (pc + 1) ls rest)) : W p l e R s m args below meth c H locs cells slots Q (F0 m pc ls (.int x :: .int i :: .ref (g.2.1 k) :: rest)) := by
  subst hj
  subst hf
  obtain ⟨hx, hb, hml, hown, hts, hG, hr, hlk⟩ := E
  refine va_bast (D := g.1) hx hb hG.1 h.1 (wW_D hG.2.2.1 σ) h.2 k a (A.1 σ).1 A.2 hin hdg (fun H1 locs1 hP _ hS => ?_)
  rw [(A.1 σ).2] at hP
  exact kk H1 locs1 ⟨hP, hS⟩
theorem x_len (E : EV p s m args meth c cc own Ts nL ret g) (h : HW g σ s H locs) {k n a : Nat} {ty : FieldType} (A : IA g k n a ty) {v : Int32} (hv : Int32.ofNat n = v) (hdg : decode cc pc = .ok (.arraylength, 1))
    (kk : W p l e R s m args below meth c H locs cells slots Q (F0 m (pc + 1) ls (.int v :: rest))) : W p l e R s m args below meth c H locs cells slots Q (F0 m pc ls (.ref (g.2.1 k) :: rest)) := by
  obtain ⟨hx, hb, hml, hown, hts, hG, hr, hlk⟩ := E
  exact va_alen (D := g.1) hx hb hG.1 h.1 k a (A.1 σ).1 A.2 hv hdg kk
theorem x_row (E : EV p s m args meth c cc own Ts nL ret g) (h : HW g σ s H locs) {k n a k0 : Nat} (A : FG g k n a k0) {i : Int32} (hin : vp_in i n) {kr : Nat} (hk : k0 + i.toNatClampNeg = kr) (hdg : decode cc pc = .ok (.aaload, 1))
    (kk : W p l e R s m args below meth c H locs cells slots Q (F0 m (pc + 1) ls (.ref (g.2.1 kr) :: rest))) : W p l e R s m args below meth c H locs cells slots Q (F0 m pc ls (.int i :: .ref (g.2.1 k) :: rest)) := by
  subst hk
  obtain ⟨hx, hb, hml, hown, hts, hG, hr, hlk⟩ := E
  have hlt : i.toNatClampNeg < n := Nat.not_le.mp fun q => hin (Or.inr q)
  exact W.aald (v := .ref (g.2.1 (k0 + i.toNatClampNeg))) (ty := .array .int) hx hb (h.1 k _ (A.1 σ)) ((hG.1.2 a _ A.2).1 n (fun j => va_rf (wG g k0 n j))) rfl (fun q => by cases q) (by show ¬ (i < 0 ∨ (arrV _ _ _).slots.size ≤ _); rw [arrV_size]; exact hin) (by show (arrV _ _ _).slots[_]? = _; rw [arrV_read _ _ hlt, x_wG hlt]; rfl) rfl rfl hdg kk
theorem x_iret {post : Int32 → ST → Prop} (E : EV p s m args meth c cc own Ts nL (some .int) g) (h : HW g σ s H locs) {v : Int32} (hq : post v σ) (hdg : decode cc pc = .ok (.ireturn, 1)) : W p l e R s m args below meth c H locs cells slots (MQ below (XQi g post) args s cells slots (Aw g)) (F0 m pc ls [.int v]) := by
  obtain ⟨hx, hb, hml, hown, hts, hG, hr, hlk⟩ := E
  exact W.iret (v := v) hx hb hr (fun t ht hW => ⟨⟨v, σ, rfl, hq, by show va_P _ _ _ t.heap; rw [ht]; exact h.1⟩, h.2.F ht⟩) h.2.2.2 hdg hlk
theorem x_zret {post : Int32 → ST → Prop} {ty : FieldType} (E : EV p s m args meth c cc own Ts nL (some ty) g) (h : HW g σ s H locs) {v : Int32} (hn : narrow ty (.int v) = .int v) (hq : post v σ) (hdg : decode cc pc = .ok (.ireturn, 1)) : W p l e R s m args below meth c H locs cells slots (MQ below (XQi g post) args s cells slots (Aw g)) (F0 m pc ls [.int v]) := by
  obtain ⟨hx, hb, hml, hown, hts, hG, hr, hlk⟩ := E
  exact W.zret (v := v) hx hb hr hn (fun t ht hW => ⟨⟨v, σ, rfl, hq, by show va_P _ _ _ t.heap; rw [ht]; exact h.1⟩, h.2.F ht⟩) h.2.2.2 hdg hlk
theorem x_lret {post : Int64 → ST → Prop} (E : EV p s m args meth c cc own Ts nL (some .long) g) (h : HW g σ s H locs) {v : Int64} (hq : post v σ) (hdg : decode cc pc = .ok (.lreturn, 1)) : W p l e R s m args below meth c H locs cells slots (MQ below (XQl g post) args s cells slots (Aw g)) (F0 m pc ls [.long v]) := by
  obtain ⟨hx, hb, hml, hown, hts, hG, hr, hlk⟩ := E
  exact W.lret (v := v) hx hb hr (fun t ht hW => ⟨⟨v, σ, rfl, hq, by show va_P _ _ _ t.heap; rw [ht]; exact h.1⟩, h.2.F ht⟩) h.2.2.2 hdg hlk
theorem x_vret {post : ST → Prop} (E : EV p s m args meth c cc own Ts nL none g) (h : HW g σ s H locs) (hq : post σ) (hdg : decode cc pc = .ok (.return_, 1)) : W p l e R s m args below meth c H locs cells slots (MQ below (XQv g post) args s cells slots (Aw g)) (F0 m pc ls []) := by
  obtain ⟨hx, hb, hml, hown, hts, hG, hr, hlk⟩ := E
  exact W.vret hx hb hr (fun t ht hW => ⟨⟨σ, rfl, hq, by show va_P _ _ _ t.heap; rw [ht]; exact h.1⟩, h.2.F ht⟩) h.2.2.2 hdg hlk
/-- what a callee asks of its start -/
theorem x_pre (E : EV p s m args meth c cc own Ts nL ret g) (h : HW g σ s H locs) (av : List Value) : PreS s H (XPre g av σ) av := ⟨XPre.blind, fun U hU hW => ⟨rfl, by rw [hU]; exact h.1, E.2.2.2.2.2.1.go h.2 hU hW⟩⟩
theorem x_preV (E : EV p s m args meth c cc own Ts nL ret g) (h : HW g σ s H locs) {k ci N : Nat} {C : String} {T : u_T} (O : OC g k ci) (hc : vwCl[ci]? = some (C, T, N)) (As : List Value) : PreV s H C (g.2.1 k) (XPre g (.ref (g.2.1 k) :: As) σ) As := by
  obtain ⟨fs, f1⟩ := O σ
  exact ⟨XPre.blind, va_recv (q := (C, T, N)) E.2.2.2.2.2.1.1 h.1 hc f1, fun U hU hW => ⟨rfl, by rw [hU]; exact h.1, E.2.2.2.2.2.1.go h.2 hU hW⟩⟩
section CALLS
variable {y : MethodName} {ws ws' : List Cond} {rm : Room} {σ1 : ST} {As st0 : List Value} {bytes : ByteArray} {maxL idx n : Nat} {rt : Option FieldType}
theorem x_vi {post : Int32 → ST → Prop} {k ci N : Nat} {C : String} {T : u_T} (E : EV p s m args meth c cc own Ts nL ret g) (h : HW g σ s H locs) (hM : XM l g y ws rm (.ref (g.2.1 k) :: As) σ (XQi g post)) (O : OC g k ci) (hc : vwCl[ci]? = some (C, T, N)) (hG : GoodIn Ts (wsV own idx C y ws)) (hw : ws = Cond.code y bytes maxL rt :: ws') (hr0 : rm.cells = 0 ∧ rm.slots = 0) {na : Nat} (hna : As.length = na) (hd : y.cls = C ∧ y.cls ≠ "java/lang/invoke/MethodHandle" ∧ y.cls ≠ "java/lang/invoke/VarHandle" ∧ (parseMethodDescriptor y.desc).map (fun d => d.parameters.length) = some na) (hR : rm.frames + 1 ≤ R.frames ∧ 8 + (maxL + 11) + rm.locals ≤ R.locals) (hls : ls.size = nL) (hst : st0 = As.reverse ++ .ref (g.2.1 k) :: rest) (hW : (rest.map fun v => v.category).sum ≤ 8) (hdg : decode cc pc = .ok (.invokevirtual idx, 3)) (hroom : cells ≤ R.cells ∧ slots ≤ R.slots)
    (kk : ∀ (r : Int32) (σ' : ST) (H1 : Heap) (locs1 : List Loc), post r σ' → HW g σ' s H1 locs1 → W p l e R s m args below meth c H1 locs1 cells slots Q (F0 m (pc + 3) ls (.int r :: rest))) : W p l e R s m args below meth c H locs cells slots Q (F0 m pc ls st0) := by
  subst hst
  subst hna
  have hts := E.2.2.2.2.1
  refine va_calli (va_runV (As := As) (rest := rest) ⟨E.1, E.2.1, E.2.2.1, E.2.2.2.1, hts⟩ hM (cwV As.length hts hG hw hr0.1 hr0.2 hd hR) (x_preV E h O hc As) rfl rfl hls rfl (lv_room hW) hdg hroom) h.2 (fun _ _ q => q) (fun _ q => q) (fun r u t H1 locs1 ht hvm hpost hB hz hk hS => ?_)
  rw [XB, ht] at hB
  exact kk r u H1 locs1 hpost ⟨hB, hS⟩
theorem x_vl {post : Int64 → ST → Prop} {k ci N : Nat} {C : String} {T : u_T} (E : EV p s m args meth c cc own Ts nL ret g) (h : HW g σ s H locs) (hM : XM l g y ws rm (.ref (g.2.1 k) :: As) σ (XQl g post)) (O : OC g k ci) (hc : vwCl[ci]? = some (C, T, N)) (hG : GoodIn Ts (wsV own idx C y ws)) (hw : ws = Cond.code y bytes maxL rt :: ws') (hr0 : rm.cells = 0 ∧ rm.slots = 0) {na : Nat} (hna : As.length = na) (hd : y.cls = C ∧ y.cls ≠ "java/lang/invoke/MethodHandle" ∧ y.cls ≠ "java/lang/invoke/VarHandle" ∧ (parseMethodDescriptor y.desc).map (fun d => d.parameters.length) = some na) (hR : rm.frames + 1 ≤ R.frames ∧ 8 + (maxL + 11) + rm.locals ≤ R.locals) (hls : ls.size = nL) (hst : st0 = As.reverse ++ .ref (g.2.1 k) :: rest) (hW : (rest.map fun v => v.category).sum ≤ 8) (hdg : decode cc pc = .ok (.invokevirtual idx, 3)) (hroom : cells ≤ R.cells ∧ slots ≤ R.slots)
    (kk : ∀ (r : Int64) (σ' : ST) (H1 : Heap) (locs1 : List Loc), post r σ' → HW g σ' s H1 locs1 → W p l e R s m args below meth c H1 locs1 cells slots Q (F0 m (pc + 3) ls (.long r :: rest))) : W p l e R s m args below meth c H locs cells slots Q (F0 m pc ls st0) := by
  subst hst
  subst hna
  have hts := E.2.2.2.2.1
  refine va_calll (va_runV (As := As) (rest := rest) ⟨E.1, E.2.1, E.2.2.1, E.2.2.2.1, hts⟩ hM (cwV As.length hts hG hw hr0.1 hr0.2 hd hR) (x_preV E h O hc As) rfl rfl hls rfl (lv_room hW) hdg hroom) h.2 (fun _ _ q => q) (fun _ q => q) (fun r u t H1 locs1 ht hvm hpost hB hz hk hS => ?_)
  rw [XB, ht] at hB
  exact kk r u H1 locs1 hpost ⟨hB, hS⟩
theorem x_vv {post : ST → Prop} {k ci N : Nat} {C : String} {T : u_T} (E : EV p s m args meth c cc own Ts nL ret g) (h : HW g σ s H locs) (hM : XM l g y ws rm (.ref (g.2.1 k) :: As) σ (XQv g post)) (O : OC g k ci) (hc : vwCl[ci]? = some (C, T, N)) (hG : GoodIn Ts (wsV own idx C y ws)) (hw : ws = Cond.code y bytes maxL rt :: ws') (hr0 : rm.cells = 0 ∧ rm.slots = 0) {na : Nat} (hna : As.length = na) (hd : y.cls = C ∧ y.cls ≠ "java/lang/invoke/MethodHandle" ∧ y.cls ≠ "java/lang/invoke/VarHandle" ∧ (parseMethodDescriptor y.desc).map (fun d => d.parameters.length) = some na) (hR : rm.frames + 1 ≤ R.frames ∧ 8 + (maxL + 11) + rm.locals ≤ R.locals) (hls : ls.size = nL) (hst : st0 = As.reverse ++ .ref (g.2.1 k) :: rest) (hW : (rest.map fun v => v.category).sum ≤ 8) (hdg : decode cc pc = .ok (.invokevirtual idx, 3)) (hroom : cells ≤ R.cells ∧ slots ≤ R.slots)
    (kk : ∀ (σ' : ST) (H1 : Heap) (locs1 : List Loc), post σ' → HW g σ' s H1 locs1 → W p l e R s m args below meth c H1 locs1 cells slots Q (F0 m (pc + 3) ls rest)) : W p l e R s m args below meth c H locs cells slots Q (F0 m pc ls st0) := by
  subst hst
  subst hna
  have hts := E.2.2.2.2.1
  refine va_callv (va_runV (As := As) (rest := rest) ⟨E.1, E.2.1, E.2.2.1, E.2.2.2.1, hts⟩ hM (cwV As.length hts hG hw hr0.1 hr0.2 hd hR) (x_preV E h O hc As) rfl rfl hls rfl (lv_room hW) hdg hroom) h.2 (fun _ _ q => q) (fun _ q => q) (fun u t H1 locs1 ht hvm hpost hB hz hk hS => ?_)
  rw [XB, ht] at hB
  exact kk u H1 locs1 hpost ⟨hB, hS⟩
theorem x_si {post : Int32 → ST → Prop} (E : EV p s m args meth c cc own Ts nL ret g) (h : HW g σ s H locs) (hM : XM l g y ws rm As σ (XQi g post)) (hG : GoodIn Ts (va_wsS own idx y ws)) (hw : ws = Cond.code y bytes maxL rt :: ws') (hr0 : rm.cells = 0 ∧ rm.slots = 0) {na : Nat} (hna : As.length = na) (hd : y.cls ≠ "java/lang/invoke/MethodHandle" ∧ y.cls ≠ "java/lang/invoke/VarHandle" ∧ (parseMethodDescriptor y.desc).map (fun d => d.parameters.length) = some na) (hR : rm.frames + 1 ≤ R.frames ∧ 8 + (maxL + 11) + rm.locals ≤ R.locals) (hls : ls.size = nL) (hst : st0 = As.reverse ++ rest) (hW : (rest.map fun v => v.category).sum ≤ 8) (hdg : decode cc pc = .ok (.invokestatic idx, 3)) (hroom : cells ≤ R.cells ∧ slots ≤ R.slots)
    (kk : ∀ (r : Int32) (σ' : ST) (H1 : Heap) (locs1 : List Loc), post r σ' → HW g σ' s H1 locs1 → W p l e R s m args below meth c H1 locs1 cells slots Q (F0 m (pc + 3) ls (.int r :: rest))) : W p l e R s m args below meth c H locs cells slots Q (F0 m pc ls st0) := by
  subst hst
  subst hna
  have hts := E.2.2.2.2.1
  refine va_calli (va_runS (As := As) (rest := rest) ⟨E.1, E.2.1, E.2.2.1, E.2.2.2.1, hts⟩ hM (va_cwS As.length hts hG hw hr0.1 hr0.2 hd hR) (x_pre E h As) rfl rfl hls rfl (lv_room hW) hdg hroom) h.2 (fun _ _ q => q) (fun _ q => q) (fun r u t H1 locs1 ht hvm hpost hB hz hk hS => ?_)
  rw [XB, ht] at hB
  exact kk r u H1 locs1 hpost ⟨hB, hS⟩
theorem x_sl {post : Int64 → ST → Prop} (E : EV p s m args meth c cc own Ts nL ret g) (h : HW g σ s H locs) (hM : XM l g y ws rm As σ (XQl g post)) (hG : GoodIn Ts (va_wsS own idx y ws)) (hw : ws = Cond.code y bytes maxL rt :: ws') (hr0 : rm.cells = 0 ∧ rm.slots = 0) {na : Nat} (hna : As.length = na) (hd : y.cls ≠ "java/lang/invoke/MethodHandle" ∧ y.cls ≠ "java/lang/invoke/VarHandle" ∧ (parseMethodDescriptor y.desc).map (fun d => d.parameters.length) = some na) (hR : rm.frames + 1 ≤ R.frames ∧ 8 + (maxL + 11) + rm.locals ≤ R.locals) (hls : ls.size = nL) (hst : st0 = As.reverse ++ rest) (hW : (rest.map fun v => v.category).sum ≤ 8) (hdg : decode cc pc = .ok (.invokestatic idx, 3)) (hroom : cells ≤ R.cells ∧ slots ≤ R.slots)
    (kk : ∀ (r : Int64) (σ' : ST) (H1 : Heap) (locs1 : List Loc), post r σ' → HW g σ' s H1 locs1 → W p l e R s m args below meth c H1 locs1 cells slots Q (F0 m (pc + 3) ls (.long r :: rest))) : W p l e R s m args below meth c H locs cells slots Q (F0 m pc ls st0) := by
  subst hst
  subst hna
  have hts := E.2.2.2.2.1
  refine va_calll (va_runS (As := As) (rest := rest) ⟨E.1, E.2.1, E.2.2.1, E.2.2.2.1, hts⟩ hM (va_cwS As.length hts hG hw hr0.1 hr0.2 hd hR) (x_pre E h As) rfl rfl hls rfl (lv_room hW) hdg hroom) h.2 (fun _ _ q => q) (fun _ q => q) (fun r u t H1 locs1 ht hvm hpost hB hz hk hS => ?_)
  rw [XB, ht] at hB
  exact kk r u H1 locs1 hpost ⟨hB, hS⟩
theorem x_sv {post : ST → Prop} (E : EV p s m args meth c cc own Ts nL ret g) (h : HW g σ s H locs) (hM : XM l g y ws rm As σ (XQv g post)) (hG : GoodIn Ts (va_wsS own idx y ws)) (hw : ws = Cond.code y bytes maxL rt :: ws') (hr0 : rm.cells = 0 ∧ rm.slots = 0) {na : Nat} (hna : As.length = na) (hd : y.cls ≠ "java/lang/invoke/MethodHandle" ∧ y.cls ≠ "java/lang/invoke/VarHandle" ∧ (parseMethodDescriptor y.desc).map (fun d => d.parameters.length) = some na) (hR : rm.frames + 1 ≤ R.frames ∧ 8 + (maxL + 11) + rm.locals ≤ R.locals) (hls : ls.size = nL) (hst : st0 = As.reverse ++ rest) (hW : (rest.map fun v => v.category).sum ≤ 8) (hdg : decode cc pc = .ok (.invokestatic idx, 3)) (hroom : cells ≤ R.cells ∧ slots ≤ R.slots)
    (kk : ∀ (σ' : ST) (H1 : Heap) (locs1 : List Loc), post σ' → HW g σ' s H1 locs1 → W p l e R s m args below meth c H1 locs1 cells slots Q (F0 m (pc + 3) ls rest)) : W p l e R s m args below meth c H locs cells slots Q (F0 m pc ls st0) := by
  subst hst
  subst hna
  have hts := E.2.2.2.2.1
  refine va_callv (va_runS (As := As) (rest := rest) ⟨E.1, E.2.1, E.2.2.1, E.2.2.2.1, hts⟩ hM (va_cwS As.length hts hG hw hr0.1 hr0.2 hd hR) (x_pre E h As) rfl rfl hls rfl (lv_room hW) hdg hroom) h.2 (fun _ _ q => q) (fun _ q => q) (fun u t H1 locs1 ht hvm hpost hB hz hk hS => ?_)
  rw [XB, ht] at hB
  exact kk u H1 locs1 hpost ⟨hB, hS⟩
theorem x_siN {post : Int32 → ST → Prop} {host : String} (E : EV p s m args meth c cc own Ts nL ret g) (h : HW g σ s H locs) (hM : XM l g y ws rm As σ (XQi g post)) (hG : GoodIn Ts ws) (hlink : Cond.methodLinkNest own idx y host ∈ nestM) (hst2 : Cond.static y ∈ Ts) (hini : Cond.initialized y.cls ∈ Ts) (hw : ws = Cond.code y bytes maxL rt :: ws') (hr0 : rm.cells = 0 ∧ rm.slots = 0) {na : Nat} (hna : As.length = na) (hd : y.cls ≠ "java/lang/invoke/MethodHandle" ∧ y.cls ≠ "java/lang/invoke/VarHandle" ∧ (parseMethodDescriptor y.desc).map (fun d => d.parameters.length) = some na) (hR : rm.frames + 1 ≤ R.frames ∧ 8 + (maxL + 11) + rm.locals ≤ R.locals) (hls : ls.size = nL) (hst : st0 = As.reverse ++ rest) (hW : (rest.map fun v => v.category).sum ≤ 8) (hdg : decode cc pc = .ok (.invokestatic idx, 3)) (hroom : cells ≤ R.cells ∧ slots ≤ R.slots)
    (kk : ∀ (r : Int32) (σ' : ST) (H1 : Heap) (locs1 : List Loc), post r σ' → HW g σ' s H1 locs1 → W p l e R s m args below meth c H1 locs1 cells slots Q (F0 m (pc + 3) ls (.int r :: rest))) : W p l e R s m args below meth c H locs cells slots Q (F0 m pc ls st0) := by
  subst hst
  subst hna
  have hts := E.2.2.2.2.1
  refine va_calli (va_runSN (As := As) (rest := rest) ⟨E.1, E.2.1, E.2.2.1, E.2.2.2.1, hts⟩ hM ⟨va_cnB As.length hts hG hw hr0.1 hr0.2 (E.2.2.2.2.2.1.2.1.2.1 _ hlink) (hts _ hini) hd hR, hts _ hst2, trivial⟩ (x_pre E h As) rfl rfl hls rfl (lv_room hW) hdg hroom) h.2 (fun _ _ q => q) (fun _ q => q) (fun r u t H1 locs1 ht hvm hpost hB hz hk hS => ?_)
  rw [XB, ht] at hB
  exact kk r u H1 locs1 hpost ⟨hB, hS⟩
theorem x_max (E : EV p s m args meth c cc own Ts nL ret g) (hls : ls.size = nL) (hlink : Cond.methodLink own idx Lib.Math.max.name ∈ Ts) (hstat : Cond.static Lib.Math.max.name ∈ Ts) (hini : Cond.initialized "java/lang/Math" ∈ Ts) (hcode : Cond.code Lib.Math.max.name Lib.Math.max.code 2 (some .int) ∈ Ts) (hfr : 1 ≤ R.frames ∧ (rest.map fun v => v.category).sum + 13 ≤ R.locals) (hroom : cells ≤ R.cells ∧ slots ≤ R.slots) {x z : Int32} (hdg : decode cc pc = .ok (.invokestatic idx, 3))
    (kk : W p l e R s m args below meth c H locs cells slots Q (F0 m (pc + 3) ls (.int (if x < z then z else x) :: rest))) : W p l e R s m args below meth c H locs cells slots Q (F0 m pc ls (.int z :: .int x :: rest)) := by
  have hts := E.2.2.2.2.1
  exact va_mmax E.1 E.2.1 (E.2.2.1.trans hls.symm) E.2.2.2.1 (hts _ hlink) (hts _ hstat) (hts _ hini) (hts _ hcode) hfr.1 hfr.2 hroom.1 hroom.2 hdg kk
theorem x_min (E : EV p s m args meth c cc own Ts nL ret g) (hls : ls.size = nL) (hlink : Cond.methodLink own idx Lib.Math.min.name ∈ Ts) (hstat : Cond.static Lib.Math.min.name ∈ Ts) (hini : Cond.initialized "java/lang/Math" ∈ Ts) (hcode : Cond.code Lib.Math.min.name Lib.Math.min.code 2 (some .int) ∈ Ts) (hfr : 1 ≤ R.frames ∧ (rest.map fun v => v.category).sum + 13 ≤ R.locals) (hroom : cells ≤ R.cells ∧ slots ≤ R.slots) {x z : Int32} (hdg : decode cc pc = .ok (.invokestatic idx, 3))
    (kk : W p l e R s m args below meth c H locs cells slots Q (F0 m (pc + 3) ls (.int (if z < x then z else x) :: rest))) : W p l e R s m args below meth c H locs cells slots Q (F0 m pc ls (.int z :: .int x :: rest)) := by
  have hts := E.2.2.2.2.1
  exact va_mmin E.1 E.2.1 (E.2.2.1.trans hls.symm) E.2.2.2.1 (hts _ hlink) (hts _ hstat) (hts _ hini) (hts _ hcode) hfr.1 hfr.2 hroom.1 hroom.2 hdg kk
theorem x_abs (E : EV p s m args meth c cc own Ts nL ret g) (hls : ls.size = nL) (hlink : Cond.methodLink own idx Lib.Math.abs.name ∈ Ts) (hstat : Cond.static Lib.Math.abs.name ∈ Ts) (hini : Cond.initialized "java/lang/Math" ∈ Ts) (hcode : Cond.code Lib.Math.abs.name Lib.Math.abs.code 1 (some .int) ∈ Ts) (hfr : 1 ≤ R.frames ∧ (rest.map fun v => v.category).sum + 13 ≤ R.locals) (hroom : cells ≤ R.cells ∧ slots ≤ R.slots) {x : Int32} (hdg : decode cc pc = .ok (.invokestatic idx, 3))
    (kk : W p l e R s m args below meth c H locs cells slots Q (F0 m (pc + 3) ls (.int (if 0 ≤ x then x else 0 - x) :: rest))) : W p l e R s m args below meth c H locs cells slots Q (F0 m pc ls (.int x :: rest)) := by
  have hts := E.2.2.2.2.1
  exact va_mabs E.1 E.2.1 (E.2.2.1.trans hls.symm) E.2.2.2.1 (hts _ hlink) (hts _ hstat) (hts _ hini) (hts _ hcode) hfr.1 hfr.2 hroom.1 hroom.2 hdg kk
end CALLS
/-- the number on top is another name -/
theorem x_top {v v2 : Value} (h : v = v2) (kk : W p l e R s m args below meth c H locs cells slots Q (F0 m pc ls (v2 :: rest))) : W p l e R s m args below meth c H locs cells slots Q (F0 m pc ls (v :: rest)) := by
  subst h
  exact kk
theorem x_topI {v v2 : Int32} (h : v = v2) (kk : W p l e R s m args below meth c H locs cells slots Q (F0 m pc ls (.int v2 :: rest))) : W p l e R s m args below meth c H locs cells slots Q (F0 m pc ls (.int v :: rest)) := by
  subst h
  exact kk
theorem x_gets0 (E : EV p s m args meth c cc own Ts nL ret g) (h : HW g σ s H locs) {idx : Nat} (hlink : Cond.fieldLink own idx "VoiceHeaps$RuleText" "AT_FIRST" "[I" ∈ Ts) (hdg : decode cc pc = .ok (.getstatic idx, 3)) (kk : W p l e R s m args below meth c H locs cells slots Q (F0 m (pc + 3) ls (.ref (g.2.1 200) :: rest))) : W p l e R s m args below meth c H locs cells slots Q (F0 m pc ls rest) := by
  obtain ⟨hx, hb, hml, hown, hts, hG, hr, hlk⟩ := E
  exact va_gets hx hb hG.2.2.2.1 h.2 hown (hts _ hlink) (fun _ q => q) hdg kk
theorem x_gets1 (E : EV p s m args meth c cc own Ts nL ret g) (h : HW g σ s H locs) {idx : Nat} (hlink : Cond.fieldLink own idx "VoiceHeaps$RuleText" "MOST" "[I" ∈ Ts) (hdg : decode cc pc = .ok (.getstatic idx, 3)) (kk : W p l e R s m args below meth c H locs cells slots Q (F0 m (pc + 3) ls (.ref (g.2.1 201) :: rest))) : W p l e R s m args below meth c H locs cells slots Q (F0 m pc ls rest) := by
  obtain ⟨hx, hb, hml, hown, hts, hG, hr, hlk⟩ := E
  exact va_gets hx hb hG.2.2.2.2.2.1 h.2 hown (hts _ hlink) (fun _ q => q) hdg kk
theorem x_tab0 (E : EV p s m args meth c cc own Ts nL ret g) (h : HW g σ s H locs) {i v : Int32} (hin : vp_in i 6) (hv : atFirst i.toNatClampNeg = .int v) (hdg : decode cc pc = .ok (.iaload, 1)) (kk : W p l e R s m args below meth c H locs cells slots Q (F0 m (pc + 1) ls (.int v :: rest))) : W p l e R s m args below meth c H locs cells slots Q (F0 m pc ls (.int i :: .ref (g.2.1 200) :: rest)) := by
  obtain ⟨hx, hb, hml, hown, hts, hG, hr, hlk⟩ := E
  exact va_ti hx hb hG.2.2.2.2.1 h.2 hin hv hdg kk
theorem x_tab1 (E : EV p s m args meth c cc own Ts nL ret g) (h : HW g σ s H locs) {i v : Int32} (hin : vp_in i 6) (hv : atMost i.toNatClampNeg = .int v) (hdg : decode cc pc = .ok (.iaload, 1)) (kk : W p l e R s m args below meth c H locs cells slots Q (F0 m (pc + 1) ls (.int v :: rest))) : W p l e R s m args below meth c H locs cells slots Q (F0 m pc ls (.int i :: .ref (g.2.1 201) :: rest)) := by
  obtain ⟨hx, hb, hml, hown, hts, hG, hr, hlk⟩ := E
  exact va_ti hx hb hG.2.2.2.2.2.2.1 h.2 hin hv hdg kk
theorem x_aret {post : Nat → ST → Prop} {rt : FieldType} (E : EV p s m args meth c cc own Ts nL (some rt) g) (h : HW g σ s H locs) {k : Nat} (hrt : (∃ n, rt = .object n) ∨ ∃ t, rt = .array t) (hq : post k σ) (hdg : decode cc pc = .ok (.areturn, 1)) : W p l e R s m args below meth c H locs cells slots (MQ below (XQr g post) args s cells slots (Aw g)) (F0 m pc ls [.ref (g.2.1 k)]) := by
  obtain ⟨hx, hb, hml, hown, hts, hG, hr, hlk⟩ := E
  exact W.aret (v := .ref (g.2.1 k)) hx hb hr hrt (Or.inr ⟨_, rfl⟩) (fun t ht hW => ⟨⟨(k, σ), g.2.1 k, rfl, hq, rfl, by show va_P _ _ _ t.heap; rw [ht]; exact h.1⟩, h.2.F ht⟩) h.2.2.2 hdg hlk
theorem x_vr {y : MethodName} {ws ws' : List Cond} {rm : Room} {As st0 : List Value} {bytes : ByteArray} {maxL idx : Nat} {rt : Option FieldType} {post : Nat → ST → Prop} {k ci N : Nat} {C : String} {T : u_T} (E : EV p s m args meth c cc own Ts nL ret g) (h : HW g σ s H locs) (hM : XM l g y ws rm (.ref (g.2.1 k) :: As) σ (XQr g post)) (O : OC g k ci) (hc : vwCl[ci]? = some (C, T, N)) (hG : GoodIn Ts (wsV own idx C y ws)) (hw : ws = Cond.code y bytes maxL rt :: ws') (hr0 : rm.cells = 0 ∧ rm.slots = 0) {na : Nat} (hna : As.length = na) (hd : y.cls = C ∧ y.cls ≠ "java/lang/invoke/MethodHandle" ∧ y.cls ≠ "java/lang/invoke/VarHandle" ∧ (parseMethodDescriptor y.desc).map (fun d => d.parameters.length) = some na) (hR : rm.frames + 1 ≤ R.frames ∧ 8 + (maxL + 11) + rm.locals ≤ R.locals) (hls : ls.size = nL) (hst : st0 = As.reverse ++ .ref (g.2.1 k) :: rest) (hW : (rest.map fun v => v.category).sum ≤ 8) (hdg : decode cc pc = .ok (.invokevirtual idx, 3)) (hroom : cells ≤ R.cells ∧ slots ≤ R.slots)
    (kk : ∀ (r : Nat) (σ' : ST) (H1 : Heap) (locs1 : List Loc), post r σ' → HW g σ' s H1 locs1 → W p l e R s m args below meth c H1 locs1 cells slots Q (F0 m (pc + 3) ls (.ref (g.2.1 r) :: rest))) : W p l e R s m args below meth c H locs cells slots Q (F0 m pc ls st0) := by
  subst hst
  subst hna
  have hts := E.2.2.2.2.1
  refine va_callr (va_runV (As := As) (rest := rest) ⟨E.1, E.2.1, E.2.2.1, E.2.2.2.1, hts⟩ hM (cwV As.length hts hG hw hr0.1 hr0.2 hd hR) (x_preV E h O hc As) rfl rfl hls rfl (lv_room hW) hdg hroom) h.2 (fun _ _ q => q) (fun _ q => q) (fun u ra t H1 locs1 ht hvm hpost hB hz hk hS => ?_)
  obtain ⟨hra, hB⟩ := hB
  subst hra
  rw [XB, ht] at hB
  exact kk u.1 u.2 H1 locs1 hpost ⟨hB, hS⟩
end XR
theorem x_neI {x : Int32} {a : Int32} {n : Int} (h : ¬ x = a) (ha : a.toInt = n) : x.toInt ≠ n := fun q => h (Int32.toInt_inj.mp (q.trans ha.symm))
theorem x_out3 {x : Int32} (h0 : ¬ x = 0) (h1 : ¬ x = 1) (h2 : ¬ x = 2) (h3 : ¬ x = 3) : x.toInt < 0 ∨ 3 < x.toInt := by
  have e0 := x_neI h0 (n := 0) rfl
  have e1 := x_neI h1 (n := 1) rfl
  have e2 := x_neI h2 (n := 2) rfl
  have e3 := x_neI h3 (n := 3) rfl
  omega
theorem x_out5 {x : Int32} (h0 : ¬ x = 0) (h1 : ¬ x = 1) (h2 : ¬ x = 2) (h3 : ¬ x = 3) (h4 : ¬ x = 4) (h5 : ¬ x = 5) : x.toInt < 0 ∨ 5 < x.toInt := by
  have e0 := x_neI h0 (n := 0) rfl
  have e1 := x_neI h1 (n := 1) rfl
  have e2 := x_neI h2 (n := 2) rfl
  have e3 := x_neI h3 (n := 3) rfl
  have e4 := x_neI h4 (n := 4) rfl
  have e5 := x_neI h5 (n := 5) rfl
  omega
theorem x_out6 {x : Int32} (h0 : ¬ x = 0) (h1 : ¬ x = 1) (h2 : ¬ x = 2) (h3 : ¬ x = 3) (h4 : ¬ x = 4) (h5 : ¬ x = 5) (h6 : ¬ x = 6) : x.toInt < 0 ∨ 6 < x.toInt := by
  have e0 := x_neI h0 (n := 0) rfl
  have e1 := x_neI h1 (n := 1) rfl
  have e2 := x_neI h2 (n := 2) rfl
  have e3 := x_neI h3 (n := 3) rfl
  have e4 := x_neI h4 (n := 4) rfl
  have e5 := x_neI h5 (n := 5) rfl
  have e6 := x_neI h6 (n := 6) rfl
  omega
/-- within: 1 or 0 -/
def bB (x lo hi : Int32) : Int32 := if x < lo then 0 else if hi < x then 0 else 1
theorem bB_none (x : Int32) : bB x 0 (-1) = 0 := by
  unfold bB
  split
  · rfl
  · split
    · rfl
    · rename_i h1 h2
      rw [Int32.lt_iff_toInt_lt] at h1 h2
      have a : (0 : Int32).toInt = 0 := rfl
      have b : (-1 : Int32).toInt = -1 := rfl
      omega
theorem sI_sI (σ : ST) (i : Nat) (v w : Int32) : sI (sI σ i v) i w = sI σ i w := by
  unfold sI
  refine Prod.ext (funext fun j => ?_) rfl
  show cond (Nat.beq j i) w (cond (Nat.beq j i) v (σ.1 j)) = cond (Nat.beq j i) w (σ.1 j)
  cases Nat.beq j i <;> rfl
theorem sI_get (σ : ST) (i : Nat) (v : Int32) : (sI σ i v).1 i = v := by
  show cond (Nat.beq i i) v (σ.1 i) = v
  rw [Nat.beq_refl]
  rfl
