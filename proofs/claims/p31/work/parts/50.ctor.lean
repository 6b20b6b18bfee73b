/-! constructors: the object ahead, behind it what it has made so far -/
def AOA (U : State) : Prop := (Cond.arrayOver (.array .int)).before #[] U = true
def nestC : List Cond := [.methodLinkNest RX11 18 yX7_init "VoiceHeaps", .methodLinkNest RX11 25 yX3_init "VoiceHeaps", .methodLinkNest RX11 32 yX2_init "VoiceHeaps", .methodLinkNest RX11 39 yX1_init "VoiceHeaps", .methodLinkNest RX11 46 yX0_init "VoiceHeaps", .methodLinkNest RX0 11 yX4_init "VoiceHeaps", .methodLinkNest RX11 53 yX4_init "VoiceHeaps", .methodLinkNest RX11 60 yX5_init "VoiceHeaps", .methodLinkNest RX11 67 yX10_init "VoiceHeaps", .methodLinkNest RX11 74 yX9_init "VoiceHeaps", .methodLinkNest RX11 81 yX6_init "VoiceHeaps"]
theorem AOA.warm {s U : State} (hW : s.WarmedH U.vm) (h : AOA s) : AOA U := by
  have hvm := hW.alike
  have hb : U.vm.bare = s.vm.bare := by first | exact hvm.bare_eq | exact hvm.bare_eq.symm
  have hi : ∀ comp : ClassId, (U.vm.classes.findIdx? fun (x : Class) => match x.kind with | .array component _ => component == comp | _ => false) = (s.vm.classes.findIdx? fun (x : Class) => match x.kind with | .array component _ => component == comp | _ => false) := fun comp => (va_idx_bare U.vm comp).symm.trans ((congrArg (fun v : Vm => v.classes.findIdx? fun (x : Class) => match x.kind with | .array component _ => component == comp | _ => false) hb).trans (va_idx_bare s.vm comp))
  have hf : ∀ n : String, U.vm.findClass n = s.vm.findClass n := fun n => by rw [hvm.findClass]
  unfold AOA Cond.before Cond.holds at h ⊢
  simp only [Cond.value, beq_iff_eq] at h ⊢
  rw [hf]
  cases hc : s.vm.findClass (FieldType.array .int).toString with
  | none => simp [hc] at h
  | some comp =>
    simp only [hc, Option.bind_some] at h ⊢
    obtain ⟨c, h1, h2⟩ := Option.bind_eq_some_iff.mp h
    obtain ⟨k, hk, h3⟩ := Option.map_eq_some_iff.mp h2
    obtain ⟨k', hk', he⟩ := hvm.2.2 _ _ hk
    refine Option.bind_eq_some_iff.mpr ⟨c, (hi comp).trans h1, Option.map_eq_some_iff.mpr ⟨k', hk', ?_⟩⟩
    rw [he, hf]
    exact h3
/-- what a constructor asks of the machine: nest links, the class of rows of rows, the static table (all older than N0) -/
def KX (N0 t1 : Nat) (U : State) (H : Heap) : Prop := (∀ w ∈ nestC, va_Nw w U) ∧ AOA U ∧ va_Z "VoiceHeaps$RuleText" "AT_FIRST" "[I" (.ref t1) (fun q => N0 ≤ q) U H ∧ va_T .int t1 6 atFirst (fun q => N0 ≤ q) U H
theorem KX.warm {N0 t1 : Nat} {s U : State} {H0 H : Heap} (h : KX N0 t1 s H0) (hW : s.WarmedH U.vm) (hq : ∀ a : Nat, a < H0.size → ¬ N0 ≤ a → H[a]? = H0[a]?) : KX N0 t1 U H := by
  refine ⟨fun w hw => ?_, AOA.warm hW h.2.1, (h.2.2.1.kept hq).moved hW.alike, (h.2.2.2.kept hq).moved hW.alike⟩
  have h1 := h.1 w hw
  simp only [nestC, List.mem_cons, List.not_mem_nil, or_false] at hw
  rcases hw with rfl | rfl | rfl | rfl | rfl | rfl | rfl | rfl | rfl | rfl | rfl <;> exact va_Nw.warmM hW h1
theorem KX.calling {N0 t1 : Nat} {U : State} {H : Heap} {f : JFrame} {mk : MethodId} {a : Array Value} (h : KX N0 t1 U H) : KX N0 t1 (U.calling f mk a) H := by
  refine ⟨fun w hw => ?_, h.2.1, h.2.2.1.moved (u := U) (U := U.calling f mk a) (Vm.Alike.refl U.vm), h.2.2.2.moved (u := U) (U := U.calling f mk a) (Vm.Alike.refl U.vm)⟩
  have h1 := h.1 w hw
  simp only [nestC, List.mem_cons, List.not_mem_nil, or_false] at hw
  rcases hw with rfl | rfl | rfl | rfl | rfl | rfl | rfl | rfl | rfl | rfl | rfl <;> exact va_Nw.same rfl rfl h1
def CPre (D : va_G) (N0 t1 h0 sz ci : Nat) (fs : List Value) : Array Value → State → Prop := va_Pc [.ref h0] (fun U => U.heap.size = sz ∧ va_P D vwCl [(h0, .inr (ci, fs))] U.heap ∧ va_K D vwCl [] U ∧ KX N0 t1 U U.heap)
theorem CPre.blind {D : va_G} {N0 t1 h0 sz ci : Nat} {fs : List Value} : FrameBlind (CPre D N0 t1 h0 sz ci fs) := by
  intro a U f mk q
  obtain ⟨q1, q2, q3, q4, q5⟩ := q
  exact ⟨q1, q2, q3, va_K.moved (u := U) (U := U.calling f mk a) (Vm.Alike.refl U.vm) q4, q5.calling⟩
def CB (D : va_G) (A : Nat → Prop) (wo : va_W) (ty : List (ClassId × FieldType)) (t : State) : Prop := va_P D vwCl wo t.heap ∧ va_K D vwCl ty t ∧ va_D A wo
abbrev C1 (h0 ci : Nat) (fs : List Value) : va_W := [(h0, .inr (ci, fs))]
/-- a constructor's contract: the world wo, the classes of its arrays ty, for some addresses and classes; it makes mc cells of ms slots -/
def CM (l : Launch) (D : va_G) (N0 t1 h0 sz : Nat) (y : MethodName) (ws : List Cond) (rm : Room) (ci : Nat) (fs : List Value) (wo : (Nat → Nat) → (Nat → ClassId) → va_W) (ty : (Nat → ClassId) → List (ClassId × FieldType)) (mc ms : Nat) : Prop :=
  Met l y ws rm (CPre D N0 t1 h0 sz ci fs) (va_Qv (fun _ : (Nat → Nat) × (Nat → ClassId) => True) (fun u => CB D (va_A (C1 h0 ci fs) sz) (wo u.1 u.2) (ty u.2)) (va_A (C1 h0 ci fs) sz)) mc ms (va_A (C1 h0 ci fs) sz)
/-- what stays the same over a constructor's walk -/
def EC (p : Program) (s : State) (m : MethodId) (meth : Method) (args : Array Value) (c : Code) (cc : ByteArray) (own : String) (Ts : List Cond) (nL : Nat) (A : Nat → Prop) (N0 t1 : Nat) : Prop :=
  p.tables.exec = Jvm.exec ∧ c.code = cc ∧ c.maxLocals = nL ∧ s.vm.findClass own = some m.cls ∧ (∀ w ∈ Ts, w.before args s = true) ∧ (meth.name = "<init>" ∨ own = "VoiceHeapsLaw") ∧ (∀ q, s.heap.size ≤ q → A q) ∧ (∀ q, A q → N0 ≤ q) ∧ KX N0 t1 s s.heap ∧ (meth.sig.returnType = none ∨ own = "VoiceHeapsLaw") ∧ meth.locks = false
/-- the world, its places, the classes of arrays, the frame -/
def HC (D : va_G) (A : Nat → Prop) (s : State) (ws : va_W) (tys : List (ClassId × FieldType)) (H : Heap) (locs : List Loc) : Prop := va_P D vwCl ws H ∧ va_D A ws ∧ va_K D vwCl tys s ∧ va_S A s.heap H locs
theorem c_met {l : Launch} {D : va_G} {N0 t1 h0 sz : Nat} {y : MethodName} {ws ws' : List Cond} {rm : Room} {ci : Nat} {fs : List Value} {wo : (Nat → Nat) → (Nat → ClassId) → va_W} {ty : (Nat → ClassId) → List (ClassId × FieldType)} {mc ms : Nat} {cc : ByteArray} {maxL : Nat} {own : String} (hN : N0 ≤ h0 ∧ N0 ≤ sz) (hy : plainName y.cls = true) (hw : ws = Cond.code y cc maxL none :: ws') (ho : own = y.cls) (hi : y.name = "<init>") (hn : 1 ≤ maxL)
    (body : ∀ (p : Program) (e : Env) (s : State) (m : MethodId) (args : Array Value) (below : List Frame) (meth : Method) (c : Code) (ls : Array Slot), EC p s m meth args c cc own ws maxL (va_A (C1 h0 ci fs) sz) N0 t1 → HC D (va_A (C1 h0 ci fs) sz) s (C1 h0 ci fs) [] s.heap [] → lv_has ls maxL [(0, .ref h0)] → W p l e rm s m args below meth c s.heap [] 0 0 (MQ below (va_Qv (fun _ : (Nat → Nat) × (Nat → ClassId) => True) (fun u => CB D (va_A (C1 h0 ci fs) sz) (wo u.1 u.2) (ty u.2)) (va_A (C1 h0 ci fs) sz)) args s mc ms (va_A (C1 h0 ci fs) sz)) (F0 m 0 ls [])) : CM l D N0 t1 h0 sz y ws rm ci fs wo ty mc ms := by
  refine Met.ofW (cc := cc) (maxL := maxL) (ret := none) hy hw ?_
  intro p e s m args below meth c s₁ B hml hv
  obtain ⟨rfl, hsz, hP, hK, hX⟩ := hv
  subst ho
  subst hsz
  have hl := lv_entry ([.ref h0]) (n := maxL) hn
  rw [lg_entry_eq]
  have hD0 : va_D (fun _ => True) (C1 h0 ci fs) := ⟨fun i j p q h1 h2 _ => by
    have a1 : i < 1 := (List.getElem?_eq_some_iff.mp h1).1
    have a2 : j < 1 := (List.getElem?_eq_some_iff.mp h2).1
    omega, fun _ _ _ => trivial⟩
  refine body p e s m _ below meth c _ ⟨B.exec, B.bytes, hml, findClass_of_methodNamed B.named, atoms_spec (ws := ws) B.pre, Or.inl ((name_of_methodNamed B.named B.method).1.trans hi), fun q h => Or.inr h, fun q h => ?_, hX, Or.inl B.returns, B.notSynchronized⟩ ⟨hP, hD0.self, hK, va_S.rf⟩ hl
  rcases h with ⟨k, e', h⟩ | h
  · have a1 : k < 1 := (List.getElem?_eq_some_iff.mp h).1
    rw [show k = 0 by omega] at h
    cases h
    exact hN.1
  · exact Nat.le_trans hN.2 h
section XC
variable {p : Program} {l : Launch} {e : Env} {R : Room} {s : State} {m : MethodId} {args : Array Value} {below : List Frame} {meth : Method} {c : Code} {H : Heap} {locs : List Loc} {cells slots : Nat} {Q : State → Prop}
variable {cc : ByteArray} {pc : Nat} {ls : Array Slot} {rest : List Value} {own : String} {Ts : List Cond} {nL : Nat} {D : va_G} {A : Nat → Prop} {N0 t1 : Nat} {ws : va_W} {tys : List (ClassId × FieldType)} {h0 ci : Nat} {fs : List Value} {RR : va_W}
theorem c_obj (E : EC p s m meth args c cc own Ts nL A N0 t1) {idx : Nat} {a : Nat} (h1 : Cond.methodLink own idx objectInit ∈ Ts) (h2 : Cond.instanceMethod objectInit ∈ Ts) (h3 : Cond.code objectInit ⟨#[0xb1]⟩ 1 none ∈ Ts) (hls : ls.size = nL) (hf : 1 ≤ R.frames ∧ (rest.map fun v => v.category).sum + 12 ≤ R.locals) (hdg : decode cc pc = .ok (.invokespecial idx, 3))
    (kk : W p l e R s m args below meth c H locs cells slots Q (F0 m (pc + 3) ls rest)) : W p l e R s m args below meth c H locs cells slots Q (F0 m pc ls (.ref a :: rest)) := by
  obtain ⟨hx, hb, hml, hown, hts, -⟩ := E
  exact W.objInit (g := F0 m pc ls (.ref a :: rest)) hx hb hown (hts _ h1) (hts _ h2) (hts _ h3) rfl (by rw [hml]; exact hls) rfl hdg hf.1 (by have := hf.2; show 2 * 0 + _ + 12 ≤ _; omega) kk
theorem c_newI (E : EC p s m meth args c cc own Ts nL A N0 t1) (h : HC D A s ((h0, .inr (ci, fs)) :: RR) tys H locs) (n' k' : Nat) {n : Int32} {N : Nat} (ha : Cond.arrayClass .int ∈ Ts) (hn : ¬ n < 0) (hN : n.toNatClampNeg = N) (hb : N * 4 ≤ 536870912) (hk : cells + 1 = k') (hs : slots + N = n') (hk2 : k' ≤ R.cells) (hs2 : n' ≤ R.slots) (hdg : decode cc pc = .ok (.newarray .int, 2))
    (kk : ∀ (q : Nat) (cA : ClassId) (H : Heap), HC D A s ((h0, .inr (ci, fs)) :: (RR ++ [(q, .inl (cA, N, .inl (fun _ => 0)))])) (tys ++ [(cA, .int)]) H locs → W p l e R s m args below meth c H locs k' n' Q (F0 m (pc + 2) ls (.ref q :: rest))) : W p l e R s m args below meth c H locs cells slots Q (F0 m pc ls (.int n :: rest)) := by
  subst hk
  subst hs
  exact va_newa (D := D) (atype := .int) (ty := .int) (a0 := (N, .inl (fun _ => 0))) E.1 E.2.1 (E.2.2.2.2.1 _ ha) rfl h.2.2.1 h.1 h.2.1 h.2.2.2 E.2.2.2.2.2.2.1 (fun _ => rfl) hn hN hb hk2 hs2 hdg (fun q cA H1 a1 a2 a3 a4 => kk q cA H1 ⟨a2, a3, a1, a4⟩)
theorem c_newB (E : EC p s m meth args c cc own Ts nL A N0 t1) (h : HC D A s ((h0, .inr (ci, fs)) :: RR) tys H locs) (n' k' : Nat) {n : Int32} {N : Nat} (ha : Cond.arrayClass .byte ∈ Ts) (hn : ¬ n < 0) (hN : n.toNatClampNeg = N) (hb : N * 1 ≤ 536870912) (hk : cells + 1 = k') (hs : slots + N = n') (hk2 : k' ≤ R.cells) (hs2 : n' ≤ R.slots) (hdg : decode cc pc = .ok (.newarray .byte, 2))
    (kk : ∀ (q : Nat) (cA : ClassId) (H : Heap), HC D A s ((h0, .inr (ci, fs)) :: (RR ++ [(q, .inl (cA, N, .inl (fun _ => 0)))])) (tys ++ [(cA, .byte)]) H locs → W p l e R s m args below meth c H locs k' n' Q (F0 m (pc + 2) ls (.ref q :: rest))) : W p l e R s m args below meth c H locs cells slots Q (F0 m pc ls (.int n :: rest)) := by
  subst hk
  subst hs
  exact va_newa (D := D) (atype := .byte) (ty := .byte) (a0 := (N, .inl (fun _ => 0))) E.1 E.2.1 (E.2.2.2.2.1 _ ha) rfl h.2.2.1 h.1 h.2.1 h.2.2.2 E.2.2.2.2.2.2.1 (fun _ => rfl) hn hN hb hk2 hs2 hdg (fun q cA H1 a1 a2 a3 a4 => kk q cA H1 ⟨a2, a3, a1, a4⟩)
theorem c_newZ (E : EC p s m meth args c cc own Ts nL A N0 t1) (h : HC D A s ((h0, .inr (ci, fs)) :: RR) tys H locs) (n' k' : Nat) {n : Int32} {N : Nat} (ha : Cond.arrayClass .boolean ∈ Ts) (hn : ¬ n < 0) (hN : n.toNatClampNeg = N) (hb : N * 1 ≤ 536870912) (hk : cells + 1 = k') (hs : slots + N = n') (hk2 : k' ≤ R.cells) (hs2 : n' ≤ R.slots) (hdg : decode cc pc = .ok (.newarray .boolean, 2))
    (kk : ∀ (q : Nat) (cA : ClassId) (H : Heap), HC D A s ((h0, .inr (ci, fs)) :: (RR ++ [(q, .inl (cA, N, .inl (fun _ => 0)))])) (tys ++ [(cA, .boolean)]) H locs → W p l e R s m args below meth c H locs k' n' Q (F0 m (pc + 2) ls (.ref q :: rest))) : W p l e R s m args below meth c H locs cells slots Q (F0 m pc ls (.int n :: rest)) := by
  subst hk
  subst hs
  exact va_newa (D := D) (atype := .boolean) (ty := .boolean) (a0 := (N, .inl (fun _ => 0))) E.1 E.2.1 (E.2.2.2.2.1 _ ha) rfl h.2.2.1 h.1 h.2.1 h.2.2.2 E.2.2.2.2.2.2.1 (fun _ => rfl) hn hN hb hk2 hs2 hdg (fun q cA H1 a1 a2 a3 a4 => kk q cA H1 ⟨a2, a3, a1, a4⟩)
theorem c_new (E : EC p s m meth args c cc own Ts nL A N0 t1) (h : HC D A s ((h0, .inr (ci, fs)) :: RR) tys H locs) (n' k' : Nat) {C : String} {T : u_T} {N cj idx : Nat} {ty : Nat → FieldType} {gs : List Value} (hin : ∀ w ∈ u_ws C T N, w ∈ Ts) (hty : ∀ k, k < N → parseFieldDescriptor (T k).2.2.1 = some (ty k)) (w1 : Cond.classLink own idx C ∈ Ts) (w2 : Cond.instantiable C N ∈ Ts) (w3 : Cond.initialized C ∈ Ts) (hc : vwCl[cj]? = some (C, T, N)) (hgs : ∀ j, j < N → defaultValue (ty j) = vp_V gs j) (hk : cells + 1 = k') (hs : slots + N = n') (hk2 : k' ≤ R.cells) (hs2 : n' ≤ R.slots) (hdg : decode cc pc = .ok (.new idx, 3))
    (kk : ∀ (q : Nat) (H : Heap), HC D A s ((h0, .inr (ci, fs)) :: (RR ++ [(q, .inr (cj, gs))])) tys H locs → W p l e R s m args below meth c H locs k' n' Q (F0 m (pc + 3) ls (.ref q :: rest))) : W p l e R s m args below meth c H locs cells slots Q (F0 m pc ls rest) := by
  subst hk
  subst hs
  exact va_new (D := D) (ci := cj) (fs := gs) E.1 E.2.1 E.2.2.2.2.1 hin ty hty E.2.2.2.1 (E.2.2.2.2.1 _ w1) (E.2.2.2.2.1 _ w2) (E.2.2.2.2.1 _ w3) h.2.2.1 h.1 h.2.1 h.2.2.2 E.2.2.2.2.2.2.1 hc hgs hk2 hs2 hdg (fun q H1 a2 a3 a4 => kk q H1 ⟨a2, a3, h.2.2.1, a4⟩)
theorem c_putF (E : EC p s m meth args c cc own Ts nL A N0 t1) (h : HC D A s ((h0, .inr (ci, fs)) :: RR) tys H locs) {C : String} {T : u_T} {N j idx q : Nat} {ty0 : Nat → FieldType} {ty : FieldType} {fs' : List Value} (hc : vwCl[ci]? = some (C, T, N)) (hin : ∀ w ∈ u_ws C T N, w ∈ Ts) (hty : ∀ k, k < N → parseFieldDescriptor (T k).2.2.1 = some (ty0 k)) (hnm : ∀ a, a < N → ∀ b, b < N → a ≠ b → (T a).2.1 ≠ (T b).2.1) (hj : j < N) (hlink : Cond.fieldLink own idx (T j).1 (T j).2.1 (T j).2.2.1 ∈ Ts) (hno : ¬ own = "VoiceHeapsLaw") (hfin : (T j).2.2.2 = true) (hdecl : (T j).1 = own) (hd : parseFieldDescriptor (T j).2.2.1 = some ty) (hn : narrow ty (.ref q) = .ref q) (hfit : fits ty (.ref q) = true) (hl : j < fs.length) (hfs : fs.set j (.ref q) = fs') (hdg : decode cc pc = .ok (.putfield idx, 3))
    (kk : ∀ (H : Heap) (locs : List Loc), HC D A s ((h0, .inr (ci, fs')) :: RR) tys H locs → W p l e R s m args below meth c H locs cells slots Q (F0 m (pc + 3) ls rest)) : W p l e R s m args below meth c H locs cells slots Q (F0 m pc ls (.ref q :: .ref h0 :: rest)) := by
  subst hfs
  exact va_putF (D := D) (ref := (T j).1) E.1 E.2.1 E.2.2.2.2.1 hin ty0 hty hnm E.2.2.2.1 h.2.2.1 h.1 h.2.1 h.2.2.2 0 rfl hc j hj (E.2.2.2.2.1 _ hlink) (fun _ z => z) hfin (E.2.2.2.2.2.1.resolve_right hno) hdecl hd hn hfit hl hdg (fun H1 locs1 a1 a2 a3 => kk H1 locs1 ⟨a1, a2, h.2.2.1, a3⟩)
theorem c_putI (E : EC p s m meth args c cc own Ts nL A N0 t1) (h : HC D A s ((h0, .inr (ci, fs)) :: RR) tys H locs) {C : String} {T : u_T} {N j idx : Nat} {v : Int32} {ty0 : Nat → FieldType} {ty : FieldType} {fs' : List Value} (hc : vwCl[ci]? = some (C, T, N)) (hin : ∀ w ∈ u_ws C T N, w ∈ Ts) (hty : ∀ k, k < N → parseFieldDescriptor (T k).2.2.1 = some (ty0 k)) (hnm : ∀ a, a < N → ∀ b, b < N → a ≠ b → (T a).2.1 ≠ (T b).2.1) (hj : j < N) (hlink : Cond.fieldLink own idx (T j).1 (T j).2.1 (T j).2.2.1 ∈ Ts) (hfin : (T j).2.2.2 = false) (hd : parseFieldDescriptor (T j).2.2.1 = some ty) (hn : narrow ty (.int v) = .int v) (hfit : fits ty (.int v) = true) (hl : j < fs.length) (hfs : fs.set j (.int v) = fs') (hdg : decode cc pc = .ok (.putfield idx, 3))
    (kk : ∀ (H : Heap) (locs : List Loc), HC D A s ((h0, .inr (ci, fs')) :: RR) tys H locs → W p l e R s m args below meth c H locs cells slots Q (F0 m (pc + 3) ls rest)) : W p l e R s m args below meth c H locs cells slots Q (F0 m pc ls (.int v :: .ref h0 :: rest)) := by
  subst hfs
  exact va_put (D := D) (ref := (T j).1) E.1 E.2.1 E.2.2.2.2.1 hin ty0 hty hnm E.2.2.2.1 h.2.2.1 h.1 h.2.1 h.2.2.2 0 rfl hc j hj (E.2.2.2.2.1 _ hlink) (fun _ z => z) hfin hd hn hfit hl hdg (fun H1 locs1 a1 a2 a3 => kk H1 locs1 ⟨a1, a2, h.2.2.1, a3⟩)
theorem c_vret {wo : (Nat → Nat) → (Nat → ClassId) → va_W} {ty : (Nat → ClassId) → List (ClassId × FieldType)} (r : Nat → Nat) (cz : Nat → ClassId) (E : EC p s m meth args c cc own Ts nL A N0 t1) (h : HC D A s (wo r cz) (ty cz) H locs) (hno : ¬ own = "VoiceHeapsLaw") (hdg : decode cc pc = .ok (.return_, 1)) : W p l e R s m args below meth c H locs cells slots (MQ below (va_Qv (fun _ : (Nat → Nat) × (Nat → ClassId) => True) (fun u => CB D A (wo u.1 u.2) (ty u.2)) A) args s cells slots A) (F0 m pc ls []) :=
  W.vret E.1 E.2.1 (E.2.2.2.2.2.2.2.2.2.1.resolve_right hno) (fun t ht hW => ⟨⟨(r, cz), rfl, trivial, by rw [ht]; exact h.1, va_K.moved hW.alike h.2.2.1, h.2.1⟩, h.2.2.2.F ht⟩) h.2.2.2.2.2 hdg E.2.2.2.2.2.2.2.2.2.2
theorem c_last {α : Type} (x : α) (R : List α) (y : α) : (x :: (R ++ [y]))[R.length + 1]? = some y := by simp
theorem c_front {α : Type} (x : α) (R : List α) (y : α) : (List.range (R.length + 1)).map (fun i => (x :: (R ++ [y]))[i]?) = (x :: R).map some := by
  apply List.ext_getElem?
  intro i
  rw [List.getElem?_map, List.getElem?_map]
  rcases Nat.lt_or_ge i (R.length + 1) with h | h
  · rw [List.getElem?_range h]
    show some ((x :: (R ++ [y]))[i]?) = _
    have e : (x :: (R ++ [y]))[i]? = (x :: R)[i]? := by
      rw [show x :: (R ++ [y]) = (x :: R) ++ [y] from rfl, List.getElem?_append_left (by simpa using h)]
    rw [e]
    cases h2 : (x :: R)[i]? with
    | none => exact absurd (List.getElem?_eq_none_iff.mp h2) (by simp; omega)
    | some z => rfl
  · rw [List.getElem?_eq_none (by simpa using h), List.getElem?_eq_none (by simp; omega)]
    rfl
theorem c_nd : ∀ (n : Nat), va_nd (List.range n) = true → va_nd (List.range n) = true := fun _ h => h
/-- behind a constructor's call -/
theorem c_join {H1 : Heap} {x : Nat × va_E} {q : Nat} {y : va_E} {w1 : va_W} (hP : va_P D vwCl (x :: (RR ++ [(q, y)])) H) (hD : va_D A (x :: (RR ++ [(q, y)]))) (hF : ∀ z, va_A [(q, y)] H.size z → A z) (hk : ∀ z : Nat, z < H.size → ¬ va_A [(q, y)] H.size z → H1[z]? = H[z]?) (hP1 : va_P D vwCl w1 H1) (hD1 : va_D (va_A [(q, y)] H.size) w1) : va_P D vwCl (x :: (RR ++ w1)) H1 ∧ va_D A (x :: (RR ++ w1)) := by
  have pre : ∀ (k : Nat) (z : Nat × va_E), (x :: RR)[k]? = some z → (x :: (RR ++ [(q, y)]))[k]? = some z ∧ k < RR.length + 1 := by
    intro k z hz
    have hl : k < (x :: RR).length := (List.getElem?_eq_some_iff.mp hz).1
    refine ⟨?_, by simpa using hl⟩
    rw [show x :: (RR ++ [(q, y)]) = (x :: RR) ++ [(q, y)] from rfl, List.getElem?_append_left hl]
    exact hz
  have apart : ∀ (k : Nat) (z : Nat × va_E), (x :: RR)[k]? = some z → z.1 < H.size ∧ ¬ va_A [(q, y)] H.size z.1 := by
    intro k z hz
    obtain ⟨h1, h2⟩ := pre k z hz
    have hl := (hP k z h1).lt
    refine ⟨hl, fun h => ?_⟩
    rcases h with ⟨k2, e2, h⟩ | h
    · have a1 : k2 < 1 := (List.getElem?_eq_some_iff.mp h).1
      rw [show k2 = 0 by omega] at h
      cases h
      have := hD.1 k (RR.length + 1) z _ h1 (c_last x RR (z.1, y)) rfl
      omega
    · omega
  have hPw : va_P D vwCl (x :: RR) H1 := fun k z hz => (hP k z (pre k z hz).1).kept (hk z.1 (apart k z hz).1 (apart k z hz).2)
  have hDw : va_D A (x :: RR) := ⟨fun i j a b ha hb hab => hD.1 i j a b (pre i a ha).1 (pre j b hb).1 hab, fun k z hz => hD.2 k z (pre k z hz).1⟩
  exact ⟨va_P.app hPw hP1, va_D.app hDw (hD1.weaken (fun k z _ h => hF z.1 h)) (fun i j a b ha hb hab => (apart i a ha).2 (by rw [hab]; exact hD1.2 j b hb))⟩
theorem c_call (E : EC p s m meth args c cc own Ts nL A N0 t1) (n' k' : Nat) {cj q idx maxL mc ms : Nat} {gs : List Value} {y : MethodName} {bytes : ByteArray} {wsy ws' : List Cond} {rm : Room} {wo : (Nat → Nat) → (Nat → ClassId) → va_W} {ty : (Nat → ClassId) → List (ClassId × FieldType)} (h : HC D A s ((h0, .inr (ci, fs)) :: (RR ++ [(q, .inr (cj, gs))])) tys H locs) (hM : N0 ≤ q → N0 ≤ H.size → CM l D N0 t1 q H.size y wsy rm cj gs wo ty mc ms) (hG : GoodIn Ts wsy) (hw : wsy = Cond.code y bytes maxL none :: ws') (hr0 : rm.cells = mc ∧ rm.slots = ms) (hini : Cond.initialized y.cls ∈ Ts) (hlink : (Cond.methodLink own idx y).before args s = true ∨ ∃ host, Cond.methodLinkNest own idx y host ∈ nestC) (hinst : Cond.instanceMethod y ∈ Ts) (hy1 : y.name = "<init>") (hd : y.cls ≠ "java/lang/invoke/MethodHandle" ∧ y.cls ≠ "java/lang/invoke/VarHandle" ∧ (parseMethodDescriptor y.desc).map (fun d => d.parameters.length) = some 0) (hR : rm.frames + 1 ≤ R.frames ∧ 8 + (maxL + 11) + rm.locals ≤ R.locals) (hls : ls.size = nL) (hW : (rest.map fun v => v.category).sum ≤ 8) (hk : cells + mc = k') (hs : slots + ms = n') (hk2 : k' ≤ R.cells) (hs2 : n' ≤ R.slots) (hdg : decode cc pc = .ok (.invokespecial idx, 3))
    (kk : ∀ (r : Nat → Nat) (cz : Nat → ClassId) (H : Heap) (locs : List Loc), HC D A s ((h0, .inr (ci, fs)) :: (RR ++ wo r cz)) (tys ++ ty cz) H locs → W p l e R s m args below meth c H locs k' n' Q (F0 m (pc + 3) ls rest)) : W p l e R s m args below meth c H locs cells slots Q (F0 m pc ls (.ref q :: rest)) := by
  subst hk
  subst hs
  obtain ⟨hx, hb, hml, hown, hts, hin, hA, hAN, hX, hr, hlk⟩ := E
  obtain ⟨hP, hD, hK, hS⟩ := h
  have hlast := c_last ((h0, .inr (ci, fs)) : Nat × va_E) RR (q, .inr (cj, gs))
  have hAq : A q := hD.2 _ _ hlast
  have hF : ∀ z, va_A (C1 q cj gs) H.size z → A z := by
    intro z hz
    rcases hz with ⟨k2, e2, hz⟩ | hz
    · have a1 : k2 < 1 := (List.getElem?_eq_some_iff.mp hz).1
      rw [show k2 = 0 by omega] at hz
      cases hz
      exact hAq
    · exact hA z (Nat.le_trans hS.1 hz)
  have hPc : va_P D vwCl (C1 q cj gs) H := by
    intro k z hz
    have a1 : k < 1 := (List.getElem?_eq_some_iff.mp hz).1
    rw [show k = 0 by omega] at hz
    cases hz
    exact hP _ _ hlast
  have hN : N0 ≤ s.heap.size := hAN _ (hA _ (Nat.le_refl _))
  have hMM := hM (hAN q hAq) (Nat.le_trans hN hS.1)
  have hKc : va_K D vwCl [] s := hK.sub [] rfl
  have hp : PreS s H (CPre D N0 t1 q H.size cj gs) [.ref q] := ⟨CPre.blind, fun U hU hW2 => ⟨rfl, by rw [hU], by rw [hU]; exact hPc, va_K.moved hW2.alike hKc, by rw [hU]; exact hX.warm hW2 (fun a h1 h2 => hS.2.1 a h1 (fun z => h2 (hAN a z)))⟩⟩
  have tail : ∀ (u : (Nat → Nat) × (Nat → ClassId)) (t : State) (H1 : Heap) (locs1 : List Loc), t.heap = H1 → s.vm.Alike t.vm → True → CB D (va_A (C1 q cj gs) H.size) (wo u.1 u.2) (ty u.2) t → H.size ≤ H1.size → (∀ z : Nat, z < H.size → ¬ va_A (C1 q cj gs) H.size z → H1[z]? = H[z]?) → va_S A s.heap H1 locs1 → W p l e R s m args below meth c H1 locs1 (cells + mc) (slots + ms) Q (F0 m (pc + 3) ls rest) := by
    intro u t H1 locs1 ht hvm _ hB hz hk9 hS9
    obtain ⟨b1, b2, b3⟩ := hB
    rw [ht] at b1
    obtain ⟨j1, j2⟩ := c_join hP hD hF hk9 b1 b3
    exact kk u.1 u.2 H1 locs1 ⟨j1, j2, hK.app (va_K.moved hvm.symm b2), hS9⟩
  rcases hlink with hl1 | ⟨host, hl1⟩
  · exact va_callv (va_runI (As := []) (rest := rest) ⟨hx, hb, hml, hown, hts⟩ hMM (cwI 0 hts hG hw hr0.1 hr0.2 (hts _ hini) hl1 (hts _ hinst) hy1 hd hR) hp rfl rfl hls rfl (lv_room hW) hdg ⟨hk2, hs2⟩) hS (fun z _ h => hF z h) hF tail
  · exact va_callv (va_runIN (As := []) (rest := rest) ⟨hx, hb, hml, hown, hts⟩ hMM ⟨va_cnB 0 hts hG hw hr0.1 hr0.2 (hX.1 _ hl1) (hts _ hini) hd hR, hy1, hts _ hinst⟩ hp rfl rfl hls rfl (lv_room hW) hdg ⟨hk2, hs2⟩) hS (fun z _ h => hF z h) hF tail
theorem c_mapv {α β : Type} (l : List α) (f : α → β) (h : ∀ x ∈ l, True) : l.map f = l.map f := rfl
end XC
section XC2
variable {p : Program} {l : Launch} {e : Env} {R : Room} {s : State} {m : MethodId} {args : Array Value} {below : List Frame} {meth : Method} {c : Code} {H : Heap} {locs : List Loc} {cells slots : Nat} {Q : State → Prop}
variable {cc : ByteArray} {pc : Nat} {ls : Array Slot} {rest : List Value} {own : String} {Ts : List Cond} {nL : Nat} {D : va_G} {A : Nat → Prop} {N0 t1 : Nat} {ws : va_W} {tys : List (ClassId × FieldType)} {h0 ci : Nat} {fs : List Value} {RR : va_W}
theorem c_getR (E : EC p s m meth args c cc own Ts nL A N0 t1) (h : HC D A s ((h0, .inr (ci, fs)) :: RR) tys H locs) {C : String} {T : u_T} {N j idx q : Nat} (hc : vwCl[ci]? = some (C, T, N)) (hin : ∀ w ∈ u_ws C T N, w ∈ Ts) (hj : j < N) (hlink : Cond.fieldLink own idx (T j).1 (T j).2.1 (T j).2.2.1 ∈ Ts) (hv : fs[j]? = some (.ref q)) (hdg : decode cc pc = .ok (.getfield idx, 3))
    (kk : W p l e R s m args below meth c H locs cells slots Q (F0 m (pc + 3) ls (.ref q :: rest))) : W p l e R s m args below meth c H locs cells slots Q (F0 m pc ls (.ref h0 :: rest)) :=
  va_get (D := D) (ref := (T j).1) E.1 E.2.1 E.2.2.2.2.1 hin E.2.2.2.1 h.2.2.1 h.1 0 rfl hc j hj (E.2.2.2.2.1 _ hlink) (fun _ z => z) hv hdg kk
theorem c_stI (E : EC p s m meth args c cc own Ts nL A N0 t1) (h : HC D A s ws tys H locs) (k t : Nat) {q n : Nat} {cA : ClassId} {f : Nat → Int32} (ha : ws[k]? = some (q, .inl (cA, n, .inl f))) (ht : tys[t]? = some (cA, .int)) {i x : Int32} (hin : vp_in i n) {j : Nat} (hj : i.toNatClampNeg = j) {f' : Nat → Int32} (hf : upd f j x = f') (hdg : decode cc pc = .ok (.iastore, 1))
    (kk : ∀ (H : Heap) (locs : List Loc), HC D A s (ws.set k (q, .inl (cA, n, .inl f'))) tys H locs → W p l e R s m args below meth c H locs cells slots Q (F0 m (pc + 1) ls rest)) : W p l e R s m args below meth c H locs cells slots Q (F0 m pc ls (.int x :: .int i :: .ref q :: rest)) := by
  subst hj
  subst hf
  exact va_iast (D := D) E.1 E.2.1 h.2.2.1 h.1 h.2.1 h.2.2.2 k t ha ht hin hdg (fun H1 locs1 a1 a2 a3 => kk H1 locs1 ⟨a1, a2, h.2.2.1, a3⟩)
theorem c_gets (E : EC p s m meth args c cc own Ts nL A N0 t1) (h : HC D A s ws tys H locs) {idx : Nat} (hlink : Cond.fieldLink own idx "VoiceHeaps$RuleText" "AT_FIRST" "[I" ∈ Ts) (hdg : decode cc pc = .ok (.getstatic idx, 3)) (kk : W p l e R s m args below meth c H locs cells slots Q (F0 m (pc + 3) ls (.ref t1 :: rest))) : W p l e R s m args below meth c H locs cells slots Q (F0 m pc ls rest) :=
  va_gets E.1 E.2.1 (E.2.2.2.2.2.2.2.2.1.2.2.1.narrow E.2.2.2.2.2.2.2.1) h.2.2.2 E.2.2.2.1 (E.2.2.2.2.1 _ hlink) (fun _ z => z) hdg kk
theorem c_tab (E : EC p s m meth args c cc own Ts nL A N0 t1) (h : HC D A s ws tys H locs) {i v : Int32} (hin : vp_in i 6) (hv : atFirst i.toNatClampNeg = .int v) (hdg : decode cc pc = .ok (.iaload, 1)) (kk : W p l e R s m args below meth c H locs cells slots Q (F0 m (pc + 1) ls (.int v :: rest))) : W p l e R s m args below meth c H locs cells slots Q (F0 m pc ls (.int i :: .ref t1 :: rest)) :=
  va_ti E.1 E.2.1 (E.2.2.2.2.2.2.2.2.1.2.2.2.narrow E.2.2.2.2.2.2.2.1) h.2.2.2 hin hv hdg kk
end XC2
/-- atFirst(0) of the reference, called by its constructor: only its array of rules changes -/
def FPre (D : va_G) (h0 : Nat) (ws : va_W) (tys : List (ClassId × FieldType)) : Array Value → State → Prop := va_Pc [.ref h0, .int 0] (fun U => va_P D vwCl ws U.heap ∧ va_K D vwCl tys U)
theorem FPre.blind {D : va_G} {h0 : Nat} {ws : va_W} {tys : List (ClassId × FieldType)} : FrameBlind (FPre D h0 ws tys) := by
  intro a U f mk q
  obtain ⟨q1, q2, q3⟩ := q
  exact ⟨q1, q2, va_K.moved (u := U) (U := U.calling f mk a) (Vm.Alike.refl U.vm) q3⟩
theorem va_f1 {A0 : Nat → Prop} {x : Nat × va_E} {RR : va_W} {y : Nat × va_E} (hD : va_D A0 (x :: RR)) (h1 : RR[0]? = some y) : x.1 ≠ y.1 := fun q => absurd (hD.1 0 1 x y rfl h1 q) (by decide)
section XC3
variable {p : Program} {l : Launch} {e : Env} {R : Room} {s : State} {m : MethodId} {args : Array Value} {below : List Frame} {meth : Method} {c : Code} {H : Heap} {locs : List Loc} {cells slots : Nat} {Q : State → Prop}
variable {cc : ByteArray} {pc : Nat} {ls : Array Slot} {rest : List Value} {D : va_G} {cl : List vw_C} {A A1 : Nat → Prop} {a : Nat} {tys : List (ClassId × FieldType)} {ws : va_W} {H0 : Heap}
/-- a store where only the written cell need be of the kind -/
theorem va_iastD (hexec : p.tables.exec = Jvm.exec) (hb : c.code = cc) (hK : va_K D cl tys s) (hP : va_P D cl ws H) (hD : va_D A1 ws) (hS : va_S (fun z => z = a) H0 H locs) (q0 t0 : Nat) {cA : ClassId} {n : Nat} {f : Nat → Int32} (ha : ws[q0]? = some (a, .inl (cA, n, .inl f))) (ht : tys[t0]? = some (cA, .int)) {i : Int32} {x : Int32} (hin : vp_in i n) {j : Nat} (hj : i.toNatClampNeg = j) {f' : Nat → Int32} (hf : upd f j x = f') (hdg : decode cc pc = .ok (.iastore, 1))
    (kk : ∀ (H1 : Heap) (locs1 : List Loc), va_P D cl (ws.set q0 (a, .inl (cA, n, .inl f'))) H1 → va_S (fun z => z = a) H0 H1 locs1 → W p l e R s m args below meth c H1 locs1 cells slots Q (F0 m (pc + 1) ls rest)) : W p l e R s m args below meth c H locs cells slots Q (F0 m pc ls (.int x :: .int i :: .ref a :: rest)) := by
  subst hj
  subst hf
  refine W.iast hexec hb (hP q0 _ ha) ((hK.2 t0 _ ht).1 n (fun j => .int (f j))) (fun q => by cases q) (by show ¬ (i < 0 ∨ (arrV _ _ _).slots.size ≤ _); rw [arrV_size]; exact hin) rfl rfl hdg fun H1 e z oq => ?_
  refine kk H1 _ (hP.set hD ha ?_ oq) (hS.put z oq rfl)
  show H1[a]? = some (vp_cell _ _)
  rw [e]
  rw [vp_cell_i, vp_cell_i, arrV_store]
  congr 2
  funext q
  by_cases hq : q = i.toNatClampNeg
  · subst hq
    simp [updV, upd]
  · simp [updV, upd, hq]
end XC3
