theorem wl_F : ∀ w ∈ nestF, w ∈ lw_tbl := by decide +kernel
theorem wl_F2 : ∀ w ∈ nestF, w.onTables = true := by decide +kernel
theorem wl_M : ∀ w ∈ nestM, w ∈ lw_tbl := by decide +kernel
theorem wl_M2 : ∀ w ∈ nestM, w.onTables = true := by decide +kernel
theorem wl_C : ∀ w ∈ nestC, w ∈ lw_tbl := by decide +kernel
theorem wl_C2 : ∀ w ∈ nestC, w.onTables = true := by decide +kernel
theorem AD_of {g : CX} {σ : ST} {A : Nat → Prop} (h : va_D A (wW g σ)) : AD g ∧ ∀ k, k < 108 → A (g.2.1 k) := by
  have key : ∀ (i : Nat), i < 108 → ∃ e : va_E, (wW g σ)[i]? = some (g.2.1 i, e) := by
    intro i hi
    have hl : i < (wW g σ).length := by rw [wW_len]; exact hi
    have h1 : ((wW g σ).map (fun q => q.1))[i]? = some (g.2.1 i) := by rw [wW_ad, List.getElem?_map, List.getElem?_range hi]; rfl
    rw [List.getElem?_map, List.getElem?_eq_getElem hl] at h1
    refine ⟨((wW g σ)[i]).2, ?_⟩
    rw [List.getElem?_eq_getElem hl]
    exact congrArg some (Prod.ext (Option.some.inj h1) rfl)
  refine ⟨fun i j hi hj e => ?_, fun k hk => ?_⟩
  · obtain ⟨a, ha⟩ := key i hi
    obtain ⟨b, hb⟩ := key j hj
    exact h.1 i j _ _ ha hb e
  · obtain ⟨a, ha⟩ := key k hk
    exact h.2 k _ ha
theorem st_AT_FIRST {b : Nat} {s : State} (hts : ∀ w ∈ lw_tbl, w.before #[Value.ref b] s = true) (hgv : (Jvm.Cond.and given_1 narrow_1).before #[Value.ref b] s = true) : ∃ t : Nat, va_Z "VoiceHeaps$RuleText" "AT_FIRST" "[I" (.ref t) (fun q => s.heap.size ≤ q) s s.heap ∧ va_T .int t 6 atFirst (fun q => s.heap.size ≤ q) s s.heap := by
  have hs := flat_of_before _ hgv
  have hA : ∀ a : Nat, a < s.heap.size → ¬ s.heap.size ≤ a := fun a h => Nat.not_le.mpr h
  obtain ⟨t, ht, hT⟩ := va_Tof (args := #[Value.ref b]) (tm := (.static "VoiceHeaps$RuleText" "AT_FIRST" "[I")) (ty := .int) (N := 6) (f := atFirst) (A := fun q => s.heap.size ≤ q) (by decide) (hs (.arrayOf (.static "VoiceHeaps$RuleText" "AT_FIRST" "[I") .int) (by decide +kernel)) (va_eqt (z := 6) (hs (.eq (.length (.static "VoiceHeaps$RuleText" "AT_FIRST" "[I")) (.int 6)) (by decide +kernel))) (fun j hj => by
    rcases (show j = 0 ∨ j = 1 ∨ j = 2 ∨ j = 3 ∨ j = 4 ∨ j = 5 by omega) with rfl | rfl | rfl | rfl | rfl | rfl
    · exact va_eqt (z := 20) (hs (.eq (.elem (.static "VoiceHeaps$RuleText" "AT_FIRST" "[I") (.int 0)) (.int 20)) (by decide +kernel))
    · exact va_eqt (z := 10) (hs (.eq (.elem (.static "VoiceHeaps$RuleText" "AT_FIRST" "[I") (.int 1)) (.int 10)) (by decide +kernel))
    · exact va_eqt (z := 40) (hs (.eq (.elem (.static "VoiceHeaps$RuleText" "AT_FIRST" "[I") (.int 2)) (.int 40)) (by decide +kernel))
    · exact va_eqt (z := 0) (hs (.eq (.elem (.static "VoiceHeaps$RuleText" "AT_FIRST" "[I") (.int 3)) (.int 0)) (by decide +kernel))
    · exact va_eqt (z := 0) (hs (.eq (.elem (.static "VoiceHeaps$RuleText" "AT_FIRST" "[I") (.int 4)) (.int 0)) (by decide +kernel))
    · exact va_eqt (z := 10) (hs (.eq (.elem (.static "VoiceHeaps$RuleText" "AT_FIRST" "[I") (.int 5)) (.int 10)) (by decide +kernel))) hA
  exact ⟨t, va_Zref (hts (.laysStatic "VoiceHeaps$RuleText" "AT_FIRST" "[I") (by decide +kernel)) (hts (.initialized "VoiceHeaps$RuleText") (by decide +kernel)) ht hA, hT⟩
theorem st_MOST {b : Nat} {s : State} (hts : ∀ w ∈ lw_tbl, w.before #[Value.ref b] s = true) (hgv : (Jvm.Cond.and given_1 narrow_1).before #[Value.ref b] s = true) : ∃ t : Nat, va_Z "VoiceHeaps$RuleText" "MOST" "[I" (.ref t) (fun q => s.heap.size ≤ q) s s.heap ∧ va_T .int t 6 atMost (fun q => s.heap.size ≤ q) s s.heap := by
  have hs := flat_of_before _ hgv
  have hA : ∀ a : Nat, a < s.heap.size → ¬ s.heap.size ≤ a := fun a h => Nat.not_le.mpr h
  obtain ⟨t, ht, hT⟩ := va_Tof (args := #[Value.ref b]) (tm := (.static "VoiceHeaps$RuleText" "MOST" "[I")) (ty := .int) (N := 6) (f := atMost) (A := fun q => s.heap.size ≤ q) (by decide) (hs (.arrayOf (.static "VoiceHeaps$RuleText" "MOST" "[I") .int) (by decide +kernel)) (va_eqt (z := 6) (hs (.eq (.length (.static "VoiceHeaps$RuleText" "MOST" "[I")) (.int 6)) (by decide +kernel))) (fun j hj => by
    rcases (show j = 0 ∨ j = 1 ∨ j = 2 ∨ j = 3 ∨ j = 4 ∨ j = 5 by omega) with rfl | rfl | rfl | rfl | rfl | rfl
    · exact va_eqt (z := 999) (hs (.eq (.elem (.static "VoiceHeaps$RuleText" "MOST" "[I") (.int 0)) (.int 999)) (by decide +kernel))
    · exact va_eqt (z := 399) (hs (.eq (.elem (.static "VoiceHeaps$RuleText" "MOST" "[I") (.int 1)) (.int 399)) (by decide +kernel))
    · exact va_eqt (z := 399) (hs (.eq (.elem (.static "VoiceHeaps$RuleText" "MOST" "[I") (.int 2)) (.int 399)) (by decide +kernel))
    · exact va_eqt (z := 9999) (hs (.eq (.elem (.static "VoiceHeaps$RuleText" "MOST" "[I") (.int 3)) (.int 9999)) (by decide +kernel))
    · exact va_eqt (z := 999) (hs (.eq (.elem (.static "VoiceHeaps$RuleText" "MOST" "[I") (.int 4)) (.int 999)) (by decide +kernel))
    · exact va_eqt (z := 399) (hs (.eq (.elem (.static "VoiceHeaps$RuleText" "MOST" "[I") (.int 5)) (.int 399)) (by decide +kernel))) hA
  exact ⟨t, va_Zref (hts (.laysStatic "VoiceHeaps$RuleText" "MOST" "[I") (by decide +kernel)) (hts (.initialized "VoiceHeaps$RuleText") (by decide +kernel)) ht hA, hT⟩
set_option maxHeartbeats 8000000 in
set_option maxRecDepth 100000 in
theorem st_words {b : Nat} {s : State} (hgv : (Jvm.Cond.and given_1 narrow_1).before #[Value.ref b] s = true) : ∃ adK adV : Nat → Nat, vk_S 6 lenS bytS adK adV (fun q => s.heap.size ≤ q) s s.heap ∧ ∀ i : Nat, i < 6 → (Term.string "VoiceHeaps$RuleText" (84 + 2 * i)).eval #[Value.ref b] s none [] s = some (.ref (adK i)) := by
  have hs := flat_of_before _ hgv
  have hA : ∀ a : Nat, a < s.heap.size → ¬ s.heap.size ≤ a := fun a h => Nat.not_le.mpr h
  refine vk_Sof (args := #[Value.ref b]) (s := s) (N := 6) (tm := fun i => .string "VoiceHeaps$RuleText" (84 + 2 * i)) (len := lenS) (byt := bytS) (A := fun q => s.heap.size ≤ q) (fun i hi => ?_) (fun i hi => ?_) (fun i hi => ?_) (fun i hi => ?_) (fun i hi => ?_) (fun i hi j hj => ?_) (fun i j hi hj hij => ?_) hA
  · exact (show ∀ i, i < 6 → lenS.getD i 0 < 2 ^ 31 by decide) i hi
  · exact by
      rcases (show i = 0 ∨ i = 1 ∨ i = 2 ∨ i = 3 ∨ i = 4 ∨ i = 5 by omega) with rfl | rfl | rfl | rfl | rfl | rfl
      · exact hs (.exactly (.string "VoiceHeaps$RuleText" 84) "java/lang/String") (by decide +kernel)
      · exact hs (.exactly (.string "VoiceHeaps$RuleText" 86) "java/lang/String") (by decide +kernel)
      · exact hs (.exactly (.string "VoiceHeaps$RuleText" 88) "java/lang/String") (by decide +kernel)
      · exact hs (.exactly (.string "VoiceHeaps$RuleText" 90) "java/lang/String") (by decide +kernel)
      · exact hs (.exactly (.string "VoiceHeaps$RuleText" 92) "java/lang/String") (by decide +kernel)
      · exact hs (.exactly (.string "VoiceHeaps$RuleText" 94) "java/lang/String") (by decide +kernel)
  · exact by
      rcases (show i = 0 ∨ i = 1 ∨ i = 2 ∨ i = 3 ∨ i = 4 ∨ i = 5 by omega) with rfl | rfl | rfl | rfl | rfl | rfl
      · exact hs (.eq (.field (.string "VoiceHeaps$RuleText" 84) "java/lang/String" "coder" "B") (.int 0)) (by decide +kernel)
      · exact hs (.eq (.field (.string "VoiceHeaps$RuleText" 86) "java/lang/String" "coder" "B") (.int 0)) (by decide +kernel)
      · exact hs (.eq (.field (.string "VoiceHeaps$RuleText" 88) "java/lang/String" "coder" "B") (.int 0)) (by decide +kernel)
      · exact hs (.eq (.field (.string "VoiceHeaps$RuleText" 90) "java/lang/String" "coder" "B") (.int 0)) (by decide +kernel)
      · exact hs (.eq (.field (.string "VoiceHeaps$RuleText" 92) "java/lang/String" "coder" "B") (.int 0)) (by decide +kernel)
      · exact hs (.eq (.field (.string "VoiceHeaps$RuleText" 94) "java/lang/String" "coder" "B") (.int 0)) (by decide +kernel)
  · exact by
      rcases (show i = 0 ∨ i = 1 ∨ i = 2 ∨ i = 3 ∨ i = 4 ∨ i = 5 by omega) with rfl | rfl | rfl | rfl | rfl | rfl
      · exact hs (.arrayOf (.field (.string "VoiceHeaps$RuleText" 84) "java/lang/String" "value" "[B") .byte) (by decide +kernel)
      · exact hs (.arrayOf (.field (.string "VoiceHeaps$RuleText" 86) "java/lang/String" "value" "[B") .byte) (by decide +kernel)
      · exact hs (.arrayOf (.field (.string "VoiceHeaps$RuleText" 88) "java/lang/String" "value" "[B") .byte) (by decide +kernel)
      · exact hs (.arrayOf (.field (.string "VoiceHeaps$RuleText" 90) "java/lang/String" "value" "[B") .byte) (by decide +kernel)
      · exact hs (.arrayOf (.field (.string "VoiceHeaps$RuleText" 92) "java/lang/String" "value" "[B") .byte) (by decide +kernel)
      · exact hs (.arrayOf (.field (.string "VoiceHeaps$RuleText" 94) "java/lang/String" "value" "[B") .byte) (by decide +kernel)
  · exact by
      rcases (show i = 0 ∨ i = 1 ∨ i = 2 ∨ i = 3 ∨ i = 4 ∨ i = 5 by omega) with rfl | rfl | rfl | rfl | rfl | rfl
      · exact hs (.eq (.length (.field (.string "VoiceHeaps$RuleText" 84) "java/lang/String" "value" "[B")) (.int 5)) (by decide +kernel)
      · exact hs (.eq (.length (.field (.string "VoiceHeaps$RuleText" 86) "java/lang/String" "value" "[B")) (.int 4)) (by decide +kernel)
      · exact hs (.eq (.length (.field (.string "VoiceHeaps$RuleText" 88) "java/lang/String" "value" "[B")) (.int 4)) (by decide +kernel)
      · exact hs (.eq (.length (.field (.string "VoiceHeaps$RuleText" 90) "java/lang/String" "value" "[B")) (.int 4)) (by decide +kernel)
      · exact hs (.eq (.length (.field (.string "VoiceHeaps$RuleText" 92) "java/lang/String" "value" "[B")) (.int 4)) (by decide +kernel)
      · exact hs (.eq (.length (.field (.string "VoiceHeaps$RuleText" 94) "java/lang/String" "value" "[B")) (.int 5)) (by decide +kernel)
  · rcases (show i = 0 ∨ i = 1 ∨ i = 2 ∨ i = 3 ∨ i = 4 ∨ i = 5 by omega) with rfl | rfl | rfl | rfl | rfl | rfl
    · have hj : j < 5 := hj
      rcases (show j = 0 ∨ j = 1 ∨ j = 2 ∨ j = 3 ∨ j = 4 by omega) with rfl | rfl | rfl | rfl | rfl
      · exact hs (.eq (.elem (.field (.string "VoiceHeaps$RuleText" 84) "java/lang/String" "value" "[B") (.int 0)) (.int 112)) (by decide +kernel)
      · exact hs (.eq (.elem (.field (.string "VoiceHeaps$RuleText" 84) "java/lang/String" "value" "[B") (.int 1)) (.int 114)) (by decide +kernel)
      · exact hs (.eq (.elem (.field (.string "VoiceHeaps$RuleText" 84) "java/lang/String" "value" "[B") (.int 2)) (.int 105)) (by decide +kernel)
      · exact hs (.eq (.elem (.field (.string "VoiceHeaps$RuleText" 84) "java/lang/String" "value" "[B") (.int 3)) (.int 99)) (by decide +kernel)
      · exact hs (.eq (.elem (.field (.string "VoiceHeaps$RuleText" 84) "java/lang/String" "value" "[B") (.int 4)) (.int 101)) (by decide +kernel)
    · have hj : j < 4 := hj
      rcases (show j = 0 ∨ j = 1 ∨ j = 2 ∨ j = 3 by omega) with rfl | rfl | rfl | rfl
      · exact hs (.eq (.elem (.field (.string "VoiceHeaps$RuleText" 86) "java/lang/String" "value" "[B") (.int 0)) (.int 104)) (by decide +kernel)
      · exact hs (.eq (.elem (.field (.string "VoiceHeaps$RuleText" 86) "java/lang/String" "value" "[B") (.int 1)) (.int 117)) (by decide +kernel)
      · exact hs (.eq (.elem (.field (.string "VoiceHeaps$RuleText" 86) "java/lang/String" "value" "[B") (.int 2)) (.int 115)) (by decide +kernel)
      · exact hs (.eq (.elem (.field (.string "VoiceHeaps$RuleText" 86) "java/lang/String" "value" "[B") (.int 3)) (.int 104)) (by decide +kernel)
    · have hj : j < 4 := hj
      rcases (show j = 0 ∨ j = 1 ∨ j = 2 ∨ j = 3 by omega) with rfl | rfl | rfl | rfl
      · exact hs (.eq (.elem (.field (.string "VoiceHeaps$RuleText" 88) "java/lang/String" "value" "[B") (.int 0)) (.int 108)) (by decide +kernel)
      · exact hs (.eq (.elem (.field (.string "VoiceHeaps$RuleText" 88) "java/lang/String" "value" "[B") (.int 1)) (.int 105)) (by decide +kernel)
      · exact hs (.eq (.elem (.field (.string "VoiceHeaps$RuleText" 88) "java/lang/String" "value" "[B") (.int 2)) (.int 107)) (by decide +kernel)
      · exact hs (.eq (.elem (.field (.string "VoiceHeaps$RuleText" 88) "java/lang/String" "value" "[B") (.int 3)) (.int 101)) (by decide +kernel)
    · have hj : j < 4 := hj
      rcases (show j = 0 ∨ j = 1 ∨ j = 2 ∨ j = 3 by omega) with rfl | rfl | rfl | rfl
      · exact hs (.eq (.elem (.field (.string "VoiceHeaps$RuleText" 90) "java/lang/String" "value" "[B") (.int 0)) (.int 110)) (by decide +kernel)
      · exact hs (.eq (.elem (.field (.string "VoiceHeaps$RuleText" 90) "java/lang/String" "value" "[B") (.int 1)) (.int 101)) (by decide +kernel)
      · exact hs (.eq (.elem (.field (.string "VoiceHeaps$RuleText" 90) "java/lang/String" "value" "[B") (.int 2)) (.int 97)) (by decide +kernel)
      · exact hs (.eq (.elem (.field (.string "VoiceHeaps$RuleText" 90) "java/lang/String" "value" "[B") (.int 3)) (.int 114)) (by decide +kernel)
    · have hj : j < 4 := hj
      rcases (show j = 0 ∨ j = 1 ∨ j = 2 ∨ j = 3 by omega) with rfl | rfl | rfl | rfl
      · exact hs (.eq (.elem (.field (.string "VoiceHeaps$RuleText" 92) "java/lang/String" "value" "[B") (.int 0)) (.int 116)) (by decide +kernel)
      · exact hs (.eq (.elem (.field (.string "VoiceHeaps$RuleText" 92) "java/lang/String" "value" "[B") (.int 1)) (.int 117)) (by decide +kernel)
      · exact hs (.eq (.elem (.field (.string "VoiceHeaps$RuleText" 92) "java/lang/String" "value" "[B") (.int 2)) (.int 114)) (by decide +kernel)
      · exact hs (.eq (.elem (.field (.string "VoiceHeaps$RuleText" 92) "java/lang/String" "value" "[B") (.int 3)) (.int 110)) (by decide +kernel)
    · have hj : j < 5 := hj
      rcases (show j = 0 ∨ j = 1 ∨ j = 2 ∨ j = 3 ∨ j = 4 by omega) with rfl | rfl | rfl | rfl | rfl
      · exact hs (.eq (.elem (.field (.string "VoiceHeaps$RuleText" 94) "java/lang/String" "value" "[B") (.int 0)) (.int 116)) (by decide +kernel)
      · exact hs (.eq (.elem (.field (.string "VoiceHeaps$RuleText" 94) "java/lang/String" "value" "[B") (.int 1)) (.int 119)) (by decide +kernel)
      · exact hs (.eq (.elem (.field (.string "VoiceHeaps$RuleText" 94) "java/lang/String" "value" "[B") (.int 2)) (.int 105)) (by decide +kernel)
      · exact hs (.eq (.elem (.field (.string "VoiceHeaps$RuleText" 94) "java/lang/String" "value" "[B") (.int 3)) (.int 99)) (by decide +kernel)
      · exact hs (.eq (.elem (.field (.string "VoiceHeaps$RuleText" 94) "java/lang/String" "value" "[B") (.int 4)) (.int 101)) (by decide +kernel)
  · rcases (show i = 0 ∨ i = 1 ∨ i = 2 ∨ i = 3 ∨ i = 4 ∨ i = 5 by omega) with rfl | rfl | rfl | rfl | rfl | rfl <;> rcases (show j = 0 ∨ j = 1 ∨ j = 2 ∨ j = 3 ∨ j = 4 ∨ j = 5 by omega) with rfl | rfl | rfl | rfl | rfl | rfl
    · exact absurd rfl hij
    · first | exact Or.inl (hs (.not (.eq (.string "VoiceHeaps$RuleText" 84) (.string "VoiceHeaps$RuleText" 86))) (by decide +kernel)) | exact Or.inr (hs (.not (.eq (.string "VoiceHeaps$RuleText" 86) (.string "VoiceHeaps$RuleText" 84))) (by decide +kernel))
    · first | exact Or.inl (hs (.not (.eq (.string "VoiceHeaps$RuleText" 84) (.string "VoiceHeaps$RuleText" 88))) (by decide +kernel)) | exact Or.inr (hs (.not (.eq (.string "VoiceHeaps$RuleText" 88) (.string "VoiceHeaps$RuleText" 84))) (by decide +kernel))
    · first | exact Or.inl (hs (.not (.eq (.string "VoiceHeaps$RuleText" 84) (.string "VoiceHeaps$RuleText" 90))) (by decide +kernel)) | exact Or.inr (hs (.not (.eq (.string "VoiceHeaps$RuleText" 90) (.string "VoiceHeaps$RuleText" 84))) (by decide +kernel))
    · first | exact Or.inl (hs (.not (.eq (.string "VoiceHeaps$RuleText" 84) (.string "VoiceHeaps$RuleText" 92))) (by decide +kernel)) | exact Or.inr (hs (.not (.eq (.string "VoiceHeaps$RuleText" 92) (.string "VoiceHeaps$RuleText" 84))) (by decide +kernel))
    · first | exact Or.inl (hs (.not (.eq (.string "VoiceHeaps$RuleText" 84) (.string "VoiceHeaps$RuleText" 94))) (by decide +kernel)) | exact Or.inr (hs (.not (.eq (.string "VoiceHeaps$RuleText" 94) (.string "VoiceHeaps$RuleText" 84))) (by decide +kernel))
    · first | exact Or.inl (hs (.not (.eq (.string "VoiceHeaps$RuleText" 86) (.string "VoiceHeaps$RuleText" 84))) (by decide +kernel)) | exact Or.inr (hs (.not (.eq (.string "VoiceHeaps$RuleText" 84) (.string "VoiceHeaps$RuleText" 86))) (by decide +kernel))
    · exact absurd rfl hij
    · first | exact Or.inl (hs (.not (.eq (.string "VoiceHeaps$RuleText" 86) (.string "VoiceHeaps$RuleText" 88))) (by decide +kernel)) | exact Or.inr (hs (.not (.eq (.string "VoiceHeaps$RuleText" 88) (.string "VoiceHeaps$RuleText" 86))) (by decide +kernel))
    · first | exact Or.inl (hs (.not (.eq (.string "VoiceHeaps$RuleText" 86) (.string "VoiceHeaps$RuleText" 90))) (by decide +kernel)) | exact Or.inr (hs (.not (.eq (.string "VoiceHeaps$RuleText" 90) (.string "VoiceHeaps$RuleText" 86))) (by decide +kernel))
    · first | exact Or.inl (hs (.not (.eq (.string "VoiceHeaps$RuleText" 86) (.string "VoiceHeaps$RuleText" 92))) (by decide +kernel)) | exact Or.inr (hs (.not (.eq (.string "VoiceHeaps$RuleText" 92) (.string "VoiceHeaps$RuleText" 86))) (by decide +kernel))
    · first | exact Or.inl (hs (.not (.eq (.string "VoiceHeaps$RuleText" 86) (.string "VoiceHeaps$RuleText" 94))) (by decide +kernel)) | exact Or.inr (hs (.not (.eq (.string "VoiceHeaps$RuleText" 94) (.string "VoiceHeaps$RuleText" 86))) (by decide +kernel))
    · first | exact Or.inl (hs (.not (.eq (.string "VoiceHeaps$RuleText" 88) (.string "VoiceHeaps$RuleText" 84))) (by decide +kernel)) | exact Or.inr (hs (.not (.eq (.string "VoiceHeaps$RuleText" 84) (.string "VoiceHeaps$RuleText" 88))) (by decide +kernel))
    · first | exact Or.inl (hs (.not (.eq (.string "VoiceHeaps$RuleText" 88) (.string "VoiceHeaps$RuleText" 86))) (by decide +kernel)) | exact Or.inr (hs (.not (.eq (.string "VoiceHeaps$RuleText" 86) (.string "VoiceHeaps$RuleText" 88))) (by decide +kernel))
    · exact absurd rfl hij
    · first | exact Or.inl (hs (.not (.eq (.string "VoiceHeaps$RuleText" 88) (.string "VoiceHeaps$RuleText" 90))) (by decide +kernel)) | exact Or.inr (hs (.not (.eq (.string "VoiceHeaps$RuleText" 90) (.string "VoiceHeaps$RuleText" 88))) (by decide +kernel))
    · first | exact Or.inl (hs (.not (.eq (.string "VoiceHeaps$RuleText" 88) (.string "VoiceHeaps$RuleText" 92))) (by decide +kernel)) | exact Or.inr (hs (.not (.eq (.string "VoiceHeaps$RuleText" 92) (.string "VoiceHeaps$RuleText" 88))) (by decide +kernel))
    · first | exact Or.inl (hs (.not (.eq (.string "VoiceHeaps$RuleText" 88) (.string "VoiceHeaps$RuleText" 94))) (by decide +kernel)) | exact Or.inr (hs (.not (.eq (.string "VoiceHeaps$RuleText" 94) (.string "VoiceHeaps$RuleText" 88))) (by decide +kernel))
    · first | exact Or.inl (hs (.not (.eq (.string "VoiceHeaps$RuleText" 90) (.string "VoiceHeaps$RuleText" 84))) (by decide +kernel)) | exact Or.inr (hs (.not (.eq (.string "VoiceHeaps$RuleText" 84) (.string "VoiceHeaps$RuleText" 90))) (by decide +kernel))
    · first | exact Or.inl (hs (.not (.eq (.string "VoiceHeaps$RuleText" 90) (.string "VoiceHeaps$RuleText" 86))) (by decide +kernel)) | exact Or.inr (hs (.not (.eq (.string "VoiceHeaps$RuleText" 86) (.string "VoiceHeaps$RuleText" 90))) (by decide +kernel))
    · first | exact Or.inl (hs (.not (.eq (.string "VoiceHeaps$RuleText" 90) (.string "VoiceHeaps$RuleText" 88))) (by decide +kernel)) | exact Or.inr (hs (.not (.eq (.string "VoiceHeaps$RuleText" 88) (.string "VoiceHeaps$RuleText" 90))) (by decide +kernel))
    · exact absurd rfl hij
    · first | exact Or.inl (hs (.not (.eq (.string "VoiceHeaps$RuleText" 90) (.string "VoiceHeaps$RuleText" 92))) (by decide +kernel)) | exact Or.inr (hs (.not (.eq (.string "VoiceHeaps$RuleText" 92) (.string "VoiceHeaps$RuleText" 90))) (by decide +kernel))
    · first | exact Or.inl (hs (.not (.eq (.string "VoiceHeaps$RuleText" 90) (.string "VoiceHeaps$RuleText" 94))) (by decide +kernel)) | exact Or.inr (hs (.not (.eq (.string "VoiceHeaps$RuleText" 94) (.string "VoiceHeaps$RuleText" 90))) (by decide +kernel))
    · first | exact Or.inl (hs (.not (.eq (.string "VoiceHeaps$RuleText" 92) (.string "VoiceHeaps$RuleText" 84))) (by decide +kernel)) | exact Or.inr (hs (.not (.eq (.string "VoiceHeaps$RuleText" 84) (.string "VoiceHeaps$RuleText" 92))) (by decide +kernel))
    · first | exact Or.inl (hs (.not (.eq (.string "VoiceHeaps$RuleText" 92) (.string "VoiceHeaps$RuleText" 86))) (by decide +kernel)) | exact Or.inr (hs (.not (.eq (.string "VoiceHeaps$RuleText" 86) (.string "VoiceHeaps$RuleText" 92))) (by decide +kernel))
    · first | exact Or.inl (hs (.not (.eq (.string "VoiceHeaps$RuleText" 92) (.string "VoiceHeaps$RuleText" 88))) (by decide +kernel)) | exact Or.inr (hs (.not (.eq (.string "VoiceHeaps$RuleText" 88) (.string "VoiceHeaps$RuleText" 92))) (by decide +kernel))
    · first | exact Or.inl (hs (.not (.eq (.string "VoiceHeaps$RuleText" 92) (.string "VoiceHeaps$RuleText" 90))) (by decide +kernel)) | exact Or.inr (hs (.not (.eq (.string "VoiceHeaps$RuleText" 90) (.string "VoiceHeaps$RuleText" 92))) (by decide +kernel))
    · exact absurd rfl hij
    · first | exact Or.inl (hs (.not (.eq (.string "VoiceHeaps$RuleText" 92) (.string "VoiceHeaps$RuleText" 94))) (by decide +kernel)) | exact Or.inr (hs (.not (.eq (.string "VoiceHeaps$RuleText" 94) (.string "VoiceHeaps$RuleText" 92))) (by decide +kernel))
    · first | exact Or.inl (hs (.not (.eq (.string "VoiceHeaps$RuleText" 94) (.string "VoiceHeaps$RuleText" 84))) (by decide +kernel)) | exact Or.inr (hs (.not (.eq (.string "VoiceHeaps$RuleText" 84) (.string "VoiceHeaps$RuleText" 94))) (by decide +kernel))
    · first | exact Or.inl (hs (.not (.eq (.string "VoiceHeaps$RuleText" 94) (.string "VoiceHeaps$RuleText" 86))) (by decide +kernel)) | exact Or.inr (hs (.not (.eq (.string "VoiceHeaps$RuleText" 86) (.string "VoiceHeaps$RuleText" 94))) (by decide +kernel))
    · first | exact Or.inl (hs (.not (.eq (.string "VoiceHeaps$RuleText" 94) (.string "VoiceHeaps$RuleText" 88))) (by decide +kernel)) | exact Or.inr (hs (.not (.eq (.string "VoiceHeaps$RuleText" 88) (.string "VoiceHeaps$RuleText" 94))) (by decide +kernel))
    · first | exact Or.inl (hs (.not (.eq (.string "VoiceHeaps$RuleText" 94) (.string "VoiceHeaps$RuleText" 90))) (by decide +kernel)) | exact Or.inr (hs (.not (.eq (.string "VoiceHeaps$RuleText" 90) (.string "VoiceHeaps$RuleText" 94))) (by decide +kernel))
    · first | exact Or.inl (hs (.not (.eq (.string "VoiceHeaps$RuleText" 94) (.string "VoiceHeaps$RuleText" 92))) (by decide +kernel)) | exact Or.inr (hs (.not (.eq (.string "VoiceHeaps$RuleText" 92) (.string "VoiceHeaps$RuleText" 94))) (by decide +kernel))
    · exact absurd rfl hij
theorem st_cs {b : Nat} {s : State} (hts : ∀ w ∈ lw_tbl, w.before #[Value.ref b] s = true) (hgv : (Jvm.Cond.and given_1 narrow_1).before #[Value.ref b] s = true) : va_Z "java/lang/String" "COMPACT_STRINGS" "Z" (.int 1) (fun q => s.heap.size ≤ q) s s.heap ∧ va_Zq "jdk/internal/util/Preconditions" "SIOOBE_FORMATTER" "Ljava/util/function/BiFunction;" (fun q => s.heap.size ≤ q) s s.heap := by
  have hs := flat_of_before _ hgv
  have hA : ∀ a : Nat, a < s.heap.size → ¬ s.heap.size ≤ a := fun a h => Nat.not_le.mpr h
  exact ⟨va_Zof (args := #[Value.ref b]) (hts (.laysStatic "java/lang/String" "COMPACT_STRINGS" "Z") (by decide +kernel)) (hts (.initialized "java/lang/String") (by decide +kernel)) (va_eqt (z := 1) (hs (.eq (.static "java/lang/String" "COMPACT_STRINGS" "Z") (.int 1)) (by decide +kernel))) hA,
    va_Zqof (args := #[Value.ref b]) (hts (.laysStatic "jdk/internal/util/Preconditions" "SIOOBE_FORMATTER" "Ljava/util/function/BiFunction;") (by decide +kernel)) (hts (.initialized "jdk/internal/util/Preconditions") (by decide +kernel)) (hs (.isRef (.static "jdk/internal/util/Preconditions" "SIOOBE_FORMATTER" "Ljava/util/function/BiFunction;")) (by decide +kernel)) hA⟩
set_option maxHeartbeats 8000000 in
set_option maxRecDepth 100000 in
/-- THE LAW, from its entry -/
theorem whole_start {p : Program} {e : Env} {s : State} {m : MethodId} {below : List Frame} {meth : Method} {c : Code} (l : Launch) (hflags : l.flags = flags0) {b L : Nat} {xs : Nat → Int32} (hL : L ≤ 2560) (C0 : lw_At p s m meth c b L xs) : W p l e room_1 s m #[Value.ref b] below meth c s.heap [] 0 0 (lw_Z below #[Value.ref b] s) (entryFrame m ([Value.ref b] : List Value).toArray 4) := by
  obtain ⟨hx, hb, hr, hml, hown, hts, hX, hbl, hlocks, hgv⟩ := id C0
  have htl : ∀ w ∈ wsL_law, w.before #[Value.ref b] s = true := fun w h => hts w (wl_in w h)
  have hA : ∀ q : Nat, s.heap.size ≤ q → (fun q : Nat => s.heap.size ≤ q) q := fun _ h => h
  obtain ⟨c0, i0, hn0⟩ := u_known (C := RX0) (T := TX0) (N := 10) (n := 10) hts wi_wsX00 (hts (.instantiable RX0 10) (by decide +kernel))
  obtain ⟨c1, i1, hn1⟩ := u_known (C := RX1) (T := TX1) (N := 4) (n := 4) hts wi_wsX10 (hts (.instantiable RX1 4) (by decide +kernel))
  obtain ⟨c2, i2, hn2⟩ := u_known (C := RX2) (T := TX2) (N := 12) (n := 12) hts wi_wsX20 (hts (.instantiable RX2 12) (by decide +kernel))
  obtain ⟨c3, i3, hn3⟩ := u_known (C := RX3) (T := TX3) (N := 3) (n := 3) hts wi_wsX30 (hts (.instantiable RX3 3) (by decide +kernel))
  obtain ⟨c4, i4, hn4⟩ := u_known (C := RX4) (T := TX4) (N := 5) (n := 5) hts wi_wsX40 (hts (.instantiable RX4 5) (by decide +kernel))
  obtain ⟨c5, i5, hn5⟩ := u_known (C := RX5) (T := TX5) (N := 4) (n := 4) hts wi_wsX50 (hts (.instantiable RX5 4) (by decide +kernel))
  obtain ⟨c6, i6, hn6⟩ := u_known (C := RX6) (T := TX6) (N := 1) (n := 1) hts wi_wsX60 (hts (.instantiable RX6 1) (by decide +kernel))
  obtain ⟨c7, i7, hn7⟩ := u_known (C := RX7) (T := TX7) (N := 5) (n := 5) hts wi_wsX70 (hts (.instantiable RX7 5) (by decide +kernel))
  obtain ⟨c8, i8, hn8⟩ := u_known (C := RX8) (T := TX8) (N := 5) (n := 5) hts wi_wsX80 (hts (.instantiable RX8 5) (by decide +kernel))
  obtain ⟨c9, i9, hn9⟩ := u_known (C := RX9) (T := TX9) (N := 2) (n := 2) hts wi_wsX90 (hts (.instantiable RX9 2) (by decide +kernel))
  obtain ⟨c10, i10, hn10⟩ := u_known (C := RX10) (T := TX10) (N := 3) (n := 3) hts wi_wsX100 (hts (.instantiable RX10 3) (by decide +kernel))
  obtain ⟨c11, i11, hn11⟩ := u_known (C := RX11) (T := TX11) (N := 16) (n := 16) hts wi_wsX110 (hts (.instantiable RX11 16) (by decide +kernel))
  obtain ⟨c12, i12, hn12⟩ := u_known (C := RX12) (T := TX12) (N := 45) (n := 45) hts wi_wsX120 (hts (.instantiable RX12 45) (by decide +kernel))
  obtain ⟨dC, dI, hKc⟩ : ∃ (dC : Nat → ClassId) (dI : Nat → Nat → Nat), ∀ (k : Nat) (q : vw_C), vwCl[k]? = some q → u_Kn s q.1 q.2.1 q.2.2 (dC k) (dI k) := by
    refine ⟨fun k => [c0, c1, c2, c3, c4, c5, c6, c7, c8, c9, c10, c11, c12].getD k 0, fun k => [i0, i1, i2, i3, i4, i5, i6, i7, i8, i9, i10, i11, i12].getD k (fun _ => 0), ?_⟩
    intro k q hq
    match k, hq with
    | 0, hq => cases hq; exact hn0
    | 1, hq => cases hq; exact hn1
    | 2, hq => cases hq; exact hn2
    | 3, hq => cases hq; exact hn3
    | 4, hq => cases hq; exact hn4
    | 5, hq => cases hq; exact hn5
    | 6, hq => cases hq; exact hn6
    | 7, hq => cases hq; exact hn7
    | 8, hq => cases hq; exact hn8
    | 9, hq => cases hq; exact hn9
    | 10, hq => cases hq; exact hn10
    | 11, hq => cases hq; exact hn11
    | 12, hq => cases hq; exact hn12
    | k + 13, hq => simp [vwCl] at hq
  obtain ⟨t1, hZ1, hT1⟩ := st_AT_FIRST hts hgv
  obtain ⟨t2, hZ2, hT2⟩ := st_MOST hts hgv
  have hAO : AOA s := hts (.arrayOver (.array .int)) (by decide +kernel)
  have hKX : KX s.heap.size t1 s s.heap := ⟨fun w hw => va_Nw.of (wl_C2 w hw) (hts w (wl_C w hw)), hAO, hZ1, hT1⟩
  obtain ⟨adK, adV, hVS, hVR⟩ := st_words hgv
  obtain ⟨hCS, hSI⟩ := st_cs hts hgv
  have EC0 : EC p s m meth #[Value.ref b] c cL_law RL wsL_law 4 (fun q : Nat => s.heap.size ≤ q) s.heap.size t1 := ⟨hx, hb, hml, hown, htl, Or.inr rfl, fun _ h => h, fun _ h => h, hKX, Or.inr rfl, hlocks⟩
  have hS : va_S (fun q : Nat => s.heap.size ≤ q) s.heap s.heap [] := va_S.rf
  have hK : va_K (dC, dI) vwCl [] s := ⟨hKc, fun k q h => by simp at h⟩
  have hP : va_P (dC, dI) vwCl [] s.heap := fun k q h => by simp at h
  have hD : va_D (fun q : Nat => s.heap.size ≤ q) [] := ⟨fun i j p q h => by simp at h, fun k q h => by simp at h⟩
  have hl := lv_entry ([.ref b]) (n := 4) (Nat.le_of_ble_eq_true rfl)
  rw [lg_entry_eq]
  generalize (lg_sl ([.ref b]) ++ List.replicate (4 - (lg_sl ([.ref b])).length) Slot.unset).toArray = ls at hl ⊢
  have hl : lv_has ls 4 [(0, .ref b)] := hl
  have hwX11 : ∀ w ∈ wsX110, w ∈ wsL_law := by decide +kernel
  have hwX12 : ∀ w ∈ wsX120, w ∈ wsL_law := by decide +kernel
  refine va_new (D := (dC, dI)) (ci := 11) (fs := [.null, .null, .null, .null, .null, .null, .null, .null, .null, .null, .null, .null, .int 0, .int 0, .int 0, .int 0]) (C := RX11) (T := TX11) (N := 16) hx hb htl hwX11 tyX11 tyX11_ok hown (htl (.classLink RL 7 RX11) (by decide +kernel)) (htl (.instantiable RX11 16) (by decide +kernel)) (htl (.initialized RX11) (by decide +kernel)) hK hP hD hS hA rfl (fun j hj => by rcases (show j = 0 ∨ j = 1 ∨ j = 2 ∨ j = 3 ∨ j = 4 ∨ j = 5 ∨ j = 6 ∨ j = 7 ∨ j = 8 ∨ j = 9 ∨ j = 10 ∨ j = 11 ∨ j = 12 ∨ j = 13 ∨ j = 14 ∨ j = 15 by omega) with rfl | rfl | rfl | rfl | rfl | rfl | rfl | rfl | rfl | rfl | rfl | rfl | rfl | rfl | rfl | rfl <;> rfl) (Nat.le_of_ble_eq_true rfl) (Nat.le_of_ble_eq_true rfl) dL_law_0 (fun q0 H hP hD hS => ?_)
  have hP : va_P (dC, dI) vwCl (C1 q0 11 [.null, .null, .null, .null, .null, .null, .null, .null, .null, .null, .null, .null, .int 0, .int 0, .int 0, .int 0]) H := hP
  have hD : va_D (fun q : Nat => s.heap.size ≤ q) (C1 q0 11 [.null, .null, .null, .null, .null, .null, .null, .null, .null, .null, .null, .null, .int 0, .int 0, .int 0, .int 0]) := hD
  refine W.widen (k := 1) (n := 16) (by omega) (by omega) ?_
  refine lv_dup hx hb dL_law_3 rfl ?_
  have hq0 : s.heap.size ≤ q0 := hD.2 0 _ rfl
  have hAc : ∀ q, va_A (C1 q0 11 [.null, .null, .null, .null, .null, .null, .null, .null, .null, .null, .null, .null, .int 0, .int 0, .int 0, .int 0]) H.size q → s.heap.size ≤ q := by
    intro z hz
    rcases hz with ⟨k2, e2, hz⟩ | hz
    · have a1 : k2 < 1 := (List.getElem?_eq_some_iff.mp hz).1
      rw [show k2 = 0 by omega] at hz
      cases hz
      exact hq0
    · exact Nat.le_trans hS.1 hz
  refine va_callv (va_runI (As := []) (rest := [.ref q0]) ⟨hx, hb, hml, hown, htl⟩ (kc_X11 l (dC, dI) s.heap.size t1 q0 H.size ⟨hq0, hS.1⟩) (cwI 0 htl gL_law_X11_init rfl rfl rfl (htl (.initialized RX11) (by decide +kernel)) (htl (.methodLink RL 9 yX11_init) (by decide +kernel)) (htl (.instanceMethod yX11_init) (by decide +kernel)) rfl (by decide +kernel) ⟨Nat.le_of_ble_eq_true rfl, Nat.le_of_ble_eq_true rfl⟩) ⟨CPre.blind, fun U hU hW => ⟨rfl, by rw [hU], by rw [hU]; exact hP, va_K.moved hW.alike hK, by rw [hU]; exact hKX.warm hW (fun a h1 h2 => hS.2.1 a h1 h2)⟩⟩ rfl rfl hl.1 rfl (lv_room (Nat.le_of_ble_eq_true rfl)) dL_law_4 ⟨Nat.le_of_ble_eq_true rfl, Nat.le_of_ble_eq_true rfl⟩) hS (fun q _ h => hAc q h) hAc (fun u t H1 locs ht hvm hw9 hB hz1 hk1 hS => ?_)
  obtain ⟨r, cz⟩ := u
  obtain ⟨hP1, hK1, hD1⟩ := hB
  rw [ht] at hP1
  have hK1 := va_K.moved hvm.symm hK1
  have h : HC (dC, dI) (fun q : Nat => s.heap.size ≤ q) s ((q0, .inr (11, [.ref (r 0), .ref (r 4), .ref (r 9), .ref (r 15), .ref (r 24), .ref (r 46), .ref (r 53), .ref (r 57), .ref (r 61), .ref (r 64), .ref (r 76), .ref (r 77), .int (-1), .int 1, .int 1, .int 1])) :: (wo_X11 q0 r cz).tail) (ty_X11 cz) H1 locs := ⟨hP1, hD1.weaken (fun k z _ hz => hAc _ hz), hK1, hS⟩
  refine W.widen (k := 79) (n := 2866) (by omega) (by omega) ?_
  refine lv_astore_n (lv' := [(1, .ref q0), (0, .ref b)]) hx hb dL_law_7 rfl hl (by decide) rfl (fun ls hl => ?_)
  refine c_new EC0 h 2911 80 (cj := 12) (gs := [.long 0, .null, .null, .int 0, .int 0, .int 0, .int 0, .int 0, .int 0, .int 0, .null, .null, .null, .null, .int 0, .null, .null, .int 0, .int 0, .null, .int 0, .int 0, .int 0, .null, .null, .null, .null, .null, .null, .null, .int 0, .null, .null, .null, .null, .null, .null, .int 0, .null, .null, .int 0, .null, .null, .null, .null]) hwX12 tyX12_ok (by decide +kernel) (by decide +kernel) (by decide +kernel) rfl (fun j hj => by rcases (show j = 0 ∨ j = 1 ∨ j = 2 ∨ j = 3 ∨ j = 4 ∨ j = 5 ∨ j = 6 ∨ j = 7 ∨ j = 8 ∨ j = 9 ∨ j = 10 ∨ j = 11 ∨ j = 12 ∨ j = 13 ∨ j = 14 ∨ j = 15 ∨ j = 16 ∨ j = 17 ∨ j = 18 ∨ j = 19 ∨ j = 20 ∨ j = 21 ∨ j = 22 ∨ j = 23 ∨ j = 24 ∨ j = 25 ∨ j = 26 ∨ j = 27 ∨ j = 28 ∨ j = 29 ∨ j = 30 ∨ j = 31 ∨ j = 32 ∨ j = 33 ∨ j = 34 ∨ j = 35 ∨ j = 36 ∨ j = 37 ∨ j = 38 ∨ j = 39 ∨ j = 40 ∨ j = 41 ∨ j = 42 ∨ j = 43 ∨ j = 44 by omega) with rfl | rfl | rfl | rfl | rfl | rfl | rfl | rfl | rfl | rfl | rfl | rfl | rfl | rfl | rfl | rfl | rfl | rfl | rfl | rfl | rfl | rfl | rfl | rfl | rfl | rfl | rfl | rfl | rfl | rfl | rfl | rfl | rfl | rfl | rfl | rfl | rfl | rfl | rfl | rfl | rfl | rfl | rfl | rfl | rfl <;> rfl) rfl rfl (Nat.le_of_ble_eq_true rfl) (Nat.le_of_ble_eq_true rfl) dL_law_8 (fun q1 H h => ?_)
  refine lv_dup hx hb dL_law_11 rfl ?_
  refine c_call EC0 7415 108 h (fun a1 a2 => kc_X12 l (dC, dI) s.heap.size t1 q1 H.size ⟨a1, a2⟩) gL_law_X12_init rfl ⟨rfl, rfl⟩ (by decide +kernel) (Or.inl (htl (.methodLink RL 12 yX12_init) (by decide +kernel))) (by decide +kernel) rfl (by decide +kernel) ⟨Nat.le_of_ble_eq_true rfl, Nat.le_of_ble_eq_true rfl⟩ hl.1 (Nat.le_of_ble_eq_true rfl) rfl rfl (Nat.le_of_ble_eq_true rfl) (Nat.le_of_ble_eq_true rfl) dL_law_12 (fun r2 cz2 H locs h => ?_)
  refine lv_astore_n (lv' := [(2, .ref q1), (1, .ref q0), (0, .ref b)]) hx hb dL_law_15 rfl hl (by decide) rfl (fun ls hl => ?_)
  refine lv_iconst (v := 0) hx hb dL_law_16 (by decide) ?_
  refine lv_istore_n (lv' := [(3, .int 0), (2, .ref q1), (1, .ref q0), (0, .ref b)]) hx hb dL_law_17 rfl hl (by decide) rfl (fun ls hl => ?_)
  refine va_forget (fun q hq => h.2.2.2.2.2 q hq) ?_
  obtain ⟨g, hg⟩ : ∃ g : CX, g = ((dC, dI), (fun k => cond (Nat.beq k 200) t1 (cond (Nat.beq k 201) t2 (cond (Nat.ble 220 k) (adV (k - 220)) (cond (Nat.ble 210 k) (adK (k - 210)) (cond (Nat.beq k 0) q0 (cond (Nat.ble 80 k) (r2 (k - 80)) (cond (Nat.beq k 79) q1 (r (k - 1))))))))), (fun a => cond (Nat.ble 66 a) (cz2 (a - 66)) (cz a))) := ⟨_, rfl⟩
  have hWW : ((q0, .inr (11, [.ref (r 0), .ref (r 4), .ref (r 9), .ref (r 15), .ref (r 24), .ref (r 46), .ref (r 53), .ref (r 57), .ref (r 61), .ref (r 64), .ref (r 76), .ref (r 77), .int (-1), .int 1, .int 1, .int 1])) :: ((wo_X11 q0 r cz).tail ++ wo_X12 q1 r2 cz2)) = wW g σ0 := by rw [hg]; rfl
  have hTT : ty_X11 cz ++ ty_X12 cz2 = tysW g := by rw [hg]; rfl
  obtain ⟨hP, hD, hK, hS⟩ := h
  rw [hWW] at hP hD
  rw [hTT] at hK
  obtain ⟨hAD, hAw⟩ := AD_of hD
  have hAw2 : ∀ q, Aw g q → s.heap.size ≤ q := by
    rintro q ⟨k, hk, rfl⟩
    exact hAw k hk
  have e200 : g.2.1 200 = t1 := by rw [hg]; rfl
  have e201 : g.2.1 201 = t2 := by rw [hg]; rfl
  have eD : g.1 = (dC, dI) := by rw [hg]
  have e0 : g.2.1 0 = q0 := by rw [hg]; rfl
  have e79 : g.2.1 79 = q1 := by rw [hg]; rfl
  have hk : ∀ i, i < 6 → g.2.1 (210 + i) = adK i := by
    intro i hi
    rcases (show i = 0 ∨ i = 1 ∨ i = 2 ∨ i = 3 ∨ i = 4 ∨ i = 5 by omega) with rfl | rfl | rfl | rfl | rfl | rfl <;> (rw [hg]; rfl)
  have hv : ∀ i, i < 6 → g.2.1 (220 + i) = adV i := by
    intro i hi
    rcases (show i = 0 ∨ i = 1 ∨ i = 2 ∨ i = 3 ∨ i = 4 ∨ i = 5 by omega) with rfl | rfl | rfl | rfl | rfl | rfl <;> (rw [hg]; rfl)
  have hVS2 := hVS.narrow hAw2
  have hSTR : STR g s s.heap := ⟨⟨fun i hi => by show va_O _ (g.2.1 (210 + i)) _ _ _ ∧ va_OF _ _ _ _ (g.2.1 (210 + i)) _ _ _ ∧ va_OF _ _ _ (.ref (g.2.1 (220 + i))) (g.2.1 (210 + i)) _ _ _ ∧ va_T _ (g.2.1 (220 + i)) _ _ _ _ _; rw [hk i hi, hv i hi]; exact hVS2.1 i hi, fun i j hi hj e => hVS2.2 i j hi hj ((hk i hi).symm.trans (e.trans (hk j hj)))⟩, hCS.narrow hAw2, hSI.narrow hAw2⟩
  have hSTA : STA g s s.heap := by
    unfold STA
    rw [e200, e201]
    exact ⟨hZ1.narrow hAw2, hT1.narrow hAw2, hZ2.narrow hAw2, hT2.narrow hAw2, hSTR⟩
  have hNW : NW g s := ⟨fun w hw => va_Nw.of (wl_F2 w hw) (hts w (wl_F w hw)), fun w hw => va_Nw.of (wl_M2 w hw) (hts w (wl_M w hw)), fun i hi => by
    rw [hk i hi]
    refine vk_R.of (A := #[Value.ref b]) ?_ (hVR i hi)
    rcases (show i = 0 ∨ i = 1 ∨ i = 2 ∨ i = 3 ∨ i = 4 ∨ i = 5 by omega) with rfl | rfl | rfl | rfl | rfl | rfl
    · exact hts (.stringRef RX8 84 "price") (by decide +kernel)
    · exact hts (.stringRef RX8 86 "hush") (by decide +kernel)
    · exact hts (.stringRef RX8 88 "like") (by decide +kernel)
    · exact hts (.stringRef RX8 90 "near") (by decide +kernel)
    · exact hts (.stringRef RX8 92 "turn") (by decide +kernel)
    · exact hts (.stringRef RX8 94 "twice") (by decide +kernel)⟩
  have hGS : GS g s := ⟨by rw [eD]; exact hK, hNW, hAD, hSTA⟩
  have hHW : HW g σ0 s H [] := ⟨by rw [eD]; exact hP, hS.1, fun q h1 h2 => hS.2.1 q h1 (Nat.not_le.mpr h1), fun l hl => by cases hl⟩
  have hbA : ¬ Aw g b := fun hq => Nat.not_le.mpr hbl (hAw2 b hq)
  exact law_loop l ⟨hx, hb, hml, hown, htl, hGS, hr, hlocks⟩ hX hbl hbA hAw2 hL (L + 6) INV.start JJ.start (i := 0) hHW (by rw [e0, e79]; exact hl) (by omega) (by omega)
