section XMORE
variable {p : Program} {l : Launch} {e : Env} {R : Room} {s : State} {m : MethodId} {args : Array Value} {below : List Frame} {meth : Method} {c : Code} {H : Heap} {locs : List Loc} {cells slots : Nat} {Q : State → Prop}
variable {cc : ByteArray} {pc : Nat} {ls : Array Slot} {rest : List Value} {own : String} {Ts : List Cond} {nL : Nat} {ret : Option FieldType} {g : CX} {σ : ST}
theorem x_sr {y : MethodName} {ws ws' : List Cond} {rm : Room} {As st0 : List Value} {bytes : ByteArray} {maxL idx : Nat} {rt : Option FieldType} {post : Nat → ST → Prop} (E : EV p s m args meth c cc own Ts nL ret g) (h : HW g σ s H locs) (hM : XM l g y ws rm As σ (XQr g post)) (hG : GoodIn Ts (va_wsS own idx y ws)) (hw : ws = Cond.code y bytes maxL rt :: ws') (hr0 : rm.cells = 0 ∧ rm.slots = 0) {na : Nat} (hna : As.length = na) (hd : y.cls ≠ "java/lang/invoke/MethodHandle" ∧ y.cls ≠ "java/lang/invoke/VarHandle" ∧ (parseMethodDescriptor y.desc).map (fun d => d.parameters.length) = some na) (hR : rm.frames + 1 ≤ R.frames ∧ 8 + (maxL + 11) + rm.locals ≤ R.locals) (hls : ls.size = nL) (hst : st0 = As.reverse ++ rest) (hW : (rest.map fun v => v.category).sum ≤ 8) (hdg : decode cc pc = .ok (.invokestatic idx, 3)) (hroom : cells ≤ R.cells ∧ slots ≤ R.slots)
    (kk : ∀ (r : Nat) (σ' : ST) (H1 : Heap) (locs1 : List Loc), post r σ' → HW g σ' s H1 locs1 → W p l e R s m args below meth c H1 locs1 cells slots Q (F0 m (pc + 3) ls (.ref (g.2.1 r) :: rest))) : W p l e R s m args below meth c H locs cells slots Q (F0 m pc ls st0) := by
  subst hst
  subst hna
  have hts := E.2.2.2.2.1
  refine va_callr (va_runS (As := As) (rest := rest) ⟨E.1, E.2.1, E.2.2.1, E.2.2.2.1, hts⟩ hM (va_cwS As.length hts hG hw hr0.1 hr0.2 hd hR) (x_pre E h As) rfl rfl hls rfl (lv_room hW) hdg hroom) h.2 (fun _ _ q => q) (fun _ q => q) (fun u ra t H1 locs1 ht hvm hpost hB hz hk hS => ?_)
  obtain ⟨hra, hB⟩ := hB
  subst hra
  rw [XB, ht] at hB
  exact kk u.1 u.2 H1 locs1 hpost ⟨hB, hS⟩
theorem x_si16 {y : MethodName} {ws ws' : List Cond} {rm : Room} {As st0 : List Value} {bytes : ByteArray} {maxL idx : Nat} {rt : Option FieldType} {post : Int32 → ST → Prop} (E : EV p s m args meth c cc own Ts nL ret g) (h : HW g σ s H locs) (hM : XM l g y ws rm As σ (XQi g post)) (hG : GoodIn Ts (va_wsS own idx y ws)) (hw : ws = Cond.code y bytes maxL rt :: ws') (hr0 : rm.cells = 0 ∧ rm.slots = 0) {na : Nat} (hna : As.length = na) (hd : y.cls ≠ "java/lang/invoke/MethodHandle" ∧ y.cls ≠ "java/lang/invoke/VarHandle" ∧ (parseMethodDescriptor y.desc).map (fun d => d.parameters.length) = some na) (hR : rm.frames + 1 ≤ R.frames ∧ 16 + (maxL + 11) + rm.locals ≤ R.locals) (hls : ls.size = nL) (hst : st0 = As.reverse ++ rest) (hW : (rest.map fun v => v.category).sum ≤ 16) (hdg : decode cc pc = .ok (.invokestatic idx, 3)) (hroom : cells ≤ R.cells ∧ slots ≤ R.slots)
    (kk : ∀ (r : Int32) (σ' : ST) (H1 : Heap) (locs1 : List Loc), post r σ' → HW g σ' s H1 locs1 → W p l e R s m args below meth c H1 locs1 cells slots Q (F0 m (pc + 3) ls (.int r :: rest))) : W p l e R s m args below meth c H locs cells slots Q (F0 m pc ls st0) := by
  subst hst
  subst hna
  have hts := E.2.2.2.2.1
  have cw := va_cwS (R := R) (s := s) (args := args) (rm := rm) As.length hts hG hw hr0.1 hr0.2 hd ⟨hR.1, by omega⟩
  have hp := x_pre E h As
  have hr : va_Run p l e R s m args below meth c H locs cells slots 0 0 (F0 m pc ls (As.reverse ++ rest)) rest (va_Qi post (XB g) (Aw g) As.toArray) (Aw g) := by
    obtain ⟨⟨hrc, hrs, hfr, hlo, hws, hcw, hcode, hini, hy, hlen, hl⟩, hstt⟩ := cw
    have hK : Back l R p e below s args y 3 16 (PreOf R 0 0 (XPre g As σ)) (PostOf (XQi g post) 0 0 (Aw g)) := back_of (bytes := bytes) (maxL := maxL) (ret := rt) hM hp.1 hrc hrs hfr hR.2 hws hcw (fun a' U hW => word_at hW (Or.inl (by first | rfl | simp [Cond.onTables, Cond.keeps, Cond.steady])) hini)
    intro T hT X
    obtain ⟨v, vm₁, ⟨U', l2, c2, s2⟩, hW₁, X', ⟨g', mk, t, L, e1, e2, hq, h1, hL, h2, h3⟩, st⟩ := callS X E.1 (bytes := bytes) (maxL := maxL) (ret := rt) E.2.2.2.1 hl hstt hini hcode hy hK (g := F0 m pc ls (As.reverse ++ rest)) rfl (hls.trans E.2.2.1.symm) (argsL := As) (rest := rest) (fun sig h => hlen sig h) rfl (by show 2 * 0 + _ ≤ 16; omega) (by rw [E.2.1]; exact hdg)
      (fun vm₁ hW₁ => ⟨hroom.1, hroom.2, hp.2 (T.setVm vm₁) hT hW₁⟩)
    dsimp only [Pt.U, Pt.locs, Pt.cells, Pt.slots] at X' e1 e2 h1 h2 h3 st
    subst h1; subst h2; subst h3
    exact ⟨v, (T.setVm vm₁).calling g' mk As.toArray, t, U', L, hT, X', hL, e1, e2, hq, st⟩
  refine va_calli hr h.2 (fun _ _ q => q) (fun _ q => q) (fun r u t H1 locs1 ht hvm hpost hB hz hk hS => ?_)
  rw [XB, ht] at hB
  exact kk r u H1 locs1 hpost ⟨hB, hS⟩
end XMORE
theorem x_out4 {x : Int32} (h0 : ¬ x = 0) (h1 : ¬ x = 1) (h2 : ¬ x = 2) (h3 : ¬ x = 3) (h4 : ¬ x = 4) : x.toInt < 0 ∨ 4 < x.toInt := by
  have e0 := x_neI h0 (n := 0) rfl
  have e1 := x_neI h1 (n := 1) rfl
  have e2 := x_neI h2 (n := 2) rfl
  have e3 := x_neI h3 (n := 3) rfl
  have e4 := x_neI h4 (n := 4) rfl
  omega
