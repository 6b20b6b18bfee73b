/-! small facts of numbers; fill -/
theorem x_le3 {a b : Int32} (h1 : ¬ a < 0) (h2 : ¬ b < a) : 0 ≤ b := by
  rw [Int32.lt_iff_toInt_lt] at h1 h2
  rw [Int32.le_iff_toInt_le]
  have z : (0 : Int32).toInt = 0 := rfl
  omega
theorem x_ge0 {a : Int32} (h1 : ¬ a < 0) (h2 : ¬ 0 ≤ a) : False := by
  rw [Int32.lt_iff_toInt_lt] at h1
  rw [Int32.le_iff_toInt_le] at h2
  have z : (0 : Int32).toInt = 0 := rfl
  omega
theorem bB_spec {x lo hi : Int32} (h : bB x lo hi = 1) : ¬ x < lo ∧ ¬ hi < x := by
  unfold bB at h
  split at h
  · exact absurd h (by decide)
  · split at h
    · exact absurd h (by decide)
    · rename_i h1 h2
      exact ⟨h1, h2⟩
theorem bB_ge {x hi : Int32} (h : bB x 0 hi = 1) (h2 : ¬ 0 ≤ x) : False := x_ge0 (bB_spec h).1 h2
theorem bB_01 {x lo hi : Int32} (h : bB x lo hi = 1) (h2 : bB x lo hi = 0) : False := absurd (h.symm.trans h2) (by decide)
theorem bB_n1 {x : Int32} (h : bB x 0 (-1) = 1) : False := absurd (h.symm.trans (bB_none x)) (by decide)
theorem x_bnd {x lo hi : Int32} {a b : Int} (h : bB x lo hi = 1) (ha : lo.toInt = a) (hb : hi.toInt = b) : a ≤ x.toInt ∧ x.toInt ≤ b := by
  obtain ⟨h1, h2⟩ := bB_spec h
  rw [Int32.lt_iff_toInt_lt] at h1 h2
  omega
theorem x_isI {x y : Int32} {n : Int} (h : x.toInt = n) (hy : y.toInt = n) : x = y := Int32.toInt_inj.mp (h.trans hy.symm)
theorem bB_0_5 {x : Int32} (h : bB x 0 5 = 1) : x = 0 ∨ x = 1 ∨ x = 2 ∨ x = 3 ∨ x = 4 ∨ x = 5 := by
  obtain ⟨h1, h2⟩ := x_bnd h (a := 0) (b := 5) rfl rfl
  rcases (show x.toInt = 0 ∨ x.toInt = 1 ∨ x.toInt = 2 ∨ x.toInt = 3 ∨ x.toInt = 4 ∨ x.toInt = 5 by omega) with e | e | e | e | e | e
  · exact Or.inl (x_isI e rfl)
  · exact Or.inr (Or.inl (x_isI e rfl))
  · exact Or.inr (Or.inr (Or.inl (x_isI e rfl)))
  · exact Or.inr (Or.inr (Or.inr (Or.inl (x_isI e rfl))))
  · exact Or.inr (Or.inr (Or.inr (Or.inr (Or.inl (x_isI e rfl)))))
  · exact Or.inr (Or.inr (Or.inr (Or.inr (Or.inr (x_isI e rfl)))))
theorem bB_1_8 {x : Int32} (h : bB x 1 8 = 1) : x = 1 ∨ x = 2 ∨ x = 3 ∨ x = 4 ∨ x = 5 ∨ x = 6 ∨ x = 7 ∨ x = 8 := by
  obtain ⟨h1, h2⟩ := x_bnd h (a := 1) (b := 8) rfl rfl
  rcases (show x.toInt = 1 ∨ x.toInt = 2 ∨ x.toInt = 3 ∨ x.toInt = 4 ∨ x.toInt = 5 ∨ x.toInt = 6 ∨ x.toInt = 7 ∨ x.toInt = 8 by omega) with e | e | e | e | e | e | e | e
  · exact Or.inl (x_isI e rfl)
  · exact Or.inr (Or.inl (x_isI e rfl))
  · exact Or.inr (Or.inr (Or.inl (x_isI e rfl)))
  · exact Or.inr (Or.inr (Or.inr (Or.inl (x_isI e rfl))))
  · exact Or.inr (Or.inr (Or.inr (Or.inr (Or.inl (x_isI e rfl)))))
  · exact Or.inr (Or.inr (Or.inr (Or.inr (Or.inr (Or.inl (x_isI e rfl))))))
  · exact Or.inr (Or.inr (Or.inr (Or.inr (Or.inr (Or.inr (Or.inl (x_isI e rfl)))))))
  · exact Or.inr (Or.inr (Or.inr (Or.inr (Or.inr (Or.inr (Or.inr (x_isI e rfl)))))))
theorem bB_1_9 {x : Int32} (h : bB x 1 9 = 1) : x = 1 ∨ x = 2 ∨ x = 3 ∨ x = 4 ∨ x = 5 ∨ x = 6 ∨ x = 7 ∨ x = 8 ∨ x = 9 := by
  obtain ⟨h1, h2⟩ := x_bnd h (a := 1) (b := 9) rfl rfl
  rcases (show x.toInt = 1 ∨ x.toInt = 2 ∨ x.toInt = 3 ∨ x.toInt = 4 ∨ x.toInt = 5 ∨ x.toInt = 6 ∨ x.toInt = 7 ∨ x.toInt = 8 ∨ x.toInt = 9 by omega) with e | e | e | e | e | e | e | e | e
  · exact Or.inl (x_isI e rfl)
  · exact Or.inr (Or.inl (x_isI e rfl))
  · exact Or.inr (Or.inr (Or.inl (x_isI e rfl)))
  · exact Or.inr (Or.inr (Or.inr (Or.inl (x_isI e rfl))))
  · exact Or.inr (Or.inr (Or.inr (Or.inr (Or.inl (x_isI e rfl)))))
  · exact Or.inr (Or.inr (Or.inr (Or.inr (Or.inr (Or.inl (x_isI e rfl))))))
  · exact Or.inr (Or.inr (Or.inr (Or.inr (Or.inr (Or.inr (Or.inl (x_isI e rfl)))))))
  · exact Or.inr (Or.inr (Or.inr (Or.inr (Or.inr (Or.inr (Or.inr (Or.inl (x_isI e rfl))))))))
  · exact Or.inr (Or.inr (Or.inr (Or.inr (Or.inr (Or.inr (Or.inr (Or.inr (x_isI e rfl))))))))
theorem x_ltn {i n : Nat} {N : Int32} (hN : N = nI n) (hn : n < 2 ^ 31) (hi : i ≤ n) (c : ¬ N ≤ nI i) : i < n := by
  rcases Nat.lt_or_ge i n with h | h
  · exact h
  · exact absurd (by rw [hN]; exact nI_le h (by omega)) c
theorem x_eqn {i n : Nat} {N : Int32} (hN : N = nI n) (hn : n < 2 ^ 31) (hi : i ≤ n) (c : N ≤ nI i) : i = n := by
  rcases Nat.lt_or_ge i n with h | h
  · exact absurd c (by rw [hN]; exact nI_ge h hn)
  · omega
theorem x_all {i n : Nat} {N : Int32} {f : Nat → Int32} (hN : N = nI n) (hn : n < 2 ^ 31) (hi : i ≤ n) (c : N ≤ nI i) (hf : ∀ j, j < i → f j = 0) : ∀ j, j < n → f j = 0 := by
  have e := x_eqn hN hn hi c
  subst e
  exact hf
theorem x_zero {i : Nat} {f : Nat → Int32} (hf : ∀ j, j < i → f j = 0) : ∀ j, j < i + 1 → upd f i 0 j = 0 := by
  intro j hj
  unfold upd
  split
  · rfl
  · exact hf j (by omega)
set_option maxHeartbeats 4000000 in
set_option maxRecDepth 100000 in
/-- Arrays.fill of the whole array in cell k -/
theorem k_fill (l : Launch) (g : CX) (σ : ST) (k n a : Nat) (A : IA g k n a .int) (hn : n < 2 ^ 31) (v : Int32) : XM l g yJ7_fill_53178 wsJ7_fill_53178 { frames := 0, cells := 0, slots := 0, locals := 0 } [.ref (g.2.1 k), .int v] σ (XQv g (fun σ' => sA σ a (fun j => if j < n then v else σ.2.2 a j) = σ')) := by
  refine x_met (own := RJ7) (cc := cJ7_fill_53178) (maxL := 4) (ret := none) (lv := [(0, .ref (g.2.1 k)), (1, .int v)]) (by decide) rfl rfl (Nat.le_of_ble_eq_true rfl) rfl ?_
  intro p e s m args below meth c ls E h hl
  have hx := E.1
  have hb := E.2.1
  refine lv_iconst (v := 0) hx hb dJ7_fill_53178_0 (by decide) ?_
  refine lv_istore_n (lv' := [(2, .int 0), (0, .ref (g.2.1 k)), (1, .int v)]) hx hb dJ7_fill_53178_1 rfl hl (by decide) rfl (fun ls hl => ?_)
  refine lv_aload_n hx hb dJ7_fill_53178_2 rfl (lv_at hl 1 rfl) ?_
  refine x_len E h A (v := nI n) rfl dJ7_fill_53178_3 ?_
  refine lv_istore_n (lv' := [(3, .int (nI n)), (2, .int 0), (0, .ref (g.2.1 k)), (1, .int v)]) hx hb dJ7_fill_53178_4 rfl hl (by decide) rfl (fun ls hl => ?_)
  have loop : ∀ (fu i : Nat) (f : Nat → Int32), i ≤ n → (∀ j, f j = if j < i then v else σ.2.2 a j) → n - i < fu → ∀ (H : Heap) (locs : List Loc) (ls : Array Slot), HW g (sA σ a f) s H locs → lv_has ls 4 [(2, .int (nI i)), (3, .int (nI n)), (0, .ref (g.2.1 k)), (1, .int v)] → W p l e { frames := 0, cells := 0, slots := 0, locals := 0 } s m args below meth c H locs 0 0 (MQ below (XQv g (fun σ' => sA σ a (fun j => if j < n then v else σ.2.2 a j) = σ')) args s 0 0 (Aw g)) (F0 m 5 ls []) := by
    intro fu
    induction fu with
    | zero => intro i f _ _ hm; exact absurd hm (Nat.not_lt_zero _)
    | succ fu ih =>
      intro i f hi hf hm H locs ls h hl
      refine lv_iload_n hx hb dJ7_fill_53178_5 rfl (lv_at hl 0 rfl) ?_
      refine lv_iload_n hx hb dJ7_fill_53178_6 rfl (lv_at hl 1 rfl) ?_
      refine lv_icmp_ge (tgt := 20) hx hb dJ7_fill_53178_7 (by decide) (fun c1 => ?_) (fun c1 => ?_)
      · have e := x_eqn rfl hn hi c1
        subst e
        exact x_vret E h (congrArg (sA σ a) (funext fun j => (hf j).symm)) dJ7_fill_53178_20
      · have hlt := x_ltn rfl hn hi c1
        refine lv_aload_n hx hb dJ7_fill_53178_10 rfl (lv_at hl 2 rfl) ?_
        refine lv_iload_n hx hb dJ7_fill_53178_11 rfl (lv_at hl 0 rfl) ?_
        refine lv_iload_n hx hb dJ7_fill_53178_12 rfl (lv_at hl 3 rfl) ?_
        refine x_stI E h A (vp_in_nI hlt hn) (j := i) (nI_clamp (by omega)) rfl dJ7_fill_53178_13 (fun H locs h => ?_)
        refine lv_iinc (v := nI (i + 1)) (lv' := [(2, .int (nI (i + 1))), (3, .int (nI n)), (0, .ref (g.2.1 k)), (1, .int v)]) hx hb dJ7_fill_53178_14 hl (k := 0) rfl (nI_1 _) (by decide) rfl (fun ls hl => ?_)
        refine lv_goto (tgt := 5) hx hb dJ7_fill_53178_17 (by decide) ?_
        rw [sA_sA, sA_get] at h
        refine ih (i + 1) (upd f i v) (Nat.succ_le_of_lt hlt) (fun j => ?_) (by omega) _ _ _ h hl
        unfold upd
        by_cases e : j = i
        · subst e
          simp
        · rw [if_neg e, hf j]
          by_cases e2 : j < i
          · rw [if_pos e2, if_pos (by omega)]
          · rw [if_neg e2, if_neg (by omega)]
  exact loop _ 0 (σ.2.2 a) (Nat.zero_le _) (fun j => by rw [if_neg (Nat.not_lt_zero _)]) (Nat.lt_succ_self _) _ _ _ (by rw [sA_self]; exact h) (lv_sub hl [1, 0, 2, 3] rfl)
/-- the reference's own fields stay -/
def MO (σ' σ : ST) : Prop := σ'.1 25 = σ.1 25 ∧ σ'.1 26 = σ.1 26 ∧ σ'.1 27 = σ.1 27 ∧ σ'.1 28 = σ.1 28 ∧ σ'.1 29 = σ.1 29 ∧ σ'.1 30 = σ.1 30 ∧ σ'.1 31 = σ.1 31 ∧ σ'.1 32 = σ.1 32 ∧ σ'.1 33 = σ.1 33 ∧ σ'.1 34 = σ.1 34 ∧ σ'.1 35 = σ.1 35 ∧ σ'.1 36 = σ.1 36 ∧ σ'.1 37 = σ.1 37 ∧ σ'.1 38 = σ.1 38 ∧ σ'.1 39 = σ.1 39 ∧ σ'.1 40 = σ.1 40 ∧ σ'.2.2 66 = σ.2.2 66 ∧ σ'.2.1 3 = σ.2.1 3
theorem MO.refl (σ : ST) : MO σ σ := ⟨rfl, rfl, rfl, rfl, rfl, rfl, rfl, rfl, rfl, rfl, rfl, rfl, rfl, rfl, rfl, rfl, rfl, rfl⟩
theorem bB_eq0 {x lo hi y : Int32} (e : x = y) (h : bB x lo hi = 0) (hd : bB y lo hi = 1) : False := by
  subst e
  exact absurd (h.symm.trans hd) (by decide)
theorem bB_ne3 {x : Int32} (h : bB x 0 3 = 1) (h0 : ¬ x = 0) (h1 : ¬ x = 1) (h2 : ¬ x = 2) (h3 : ¬ x = 3) : False := by
  have e := x_bnd h (a := 0) (b := 3) rfl rfl
  have e2 := x_out3 h0 h1 h2 h3
  omega
theorem x_self {g : CX} {σ : ST} {s : State} {H : Heap} {locs : List Loc} (h : HW g σ s H locs) (a : Nat) {f : Nat → Int32} (hf : σ.2.2 a = f) : HW g (sA σ a f) s H locs := by
  subst hf
  rw [sA_self]
  exact h
