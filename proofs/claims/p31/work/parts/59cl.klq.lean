/-! made by wip/gen3/gkeep.py lq -/
def LQP {γ : Type} (u w : Int64) (x : γ × ST) : Prop := LQ u w x.2
theorem lqbd {α : Type} {u w : Int64} {x : α} {F : α → ST} (h : ∀ y, y = x → LQ u w (F y)) : LQ u w (bd x F) := h x rfl
theorem lqbd2 {α γ : Type} {u w : Int64} {x : α} {F : α → γ × ST} (h : ∀ y, y = x → LQP u w (F y)) : LQP u w (bd x F) := h x rfl
theorem lqbp {α : Type} {u w : Int64} {x : α × ST} {F : α → ST → ST} (h : ∀ a b, x.2 = b → LQ u w (F a b)) : LQ u w (bp x F) := h x.1 x.2 rfl
theorem lqbp2 {α γ : Type} {u w : Int64} {x : α × ST} {F : α → ST → γ × ST} (h : ∀ a b, x.2 = b → LQP u w (F a b)) : LQP u w (bp x F) := h x.1 x.2 rfl
theorem lqite {u w : Int64} {c : Prop} {i : Decidable c} {x y : ST} (h1 : LQ u w x) (h2 : LQ u w y) : LQ u w (@ite ST c i x y) := by
  cases i with
  | isTrue q => exact h1
  | isFalse q => exact h2
theorem lqite2 {γ : Type} {u w : Int64} {c : Prop} {i : Decidable c} {x y : γ × ST} (h1 : LQP u w x) (h2 : LQP u w y) : LQP u w (@ite (γ × ST) c i x y) := by
  cases i with
  | isTrue q => exact h1
  | isFalse q => exact h2
theorem lqb_fX8_append_0b16 {u w : Int64}  {σ : ST} (h_σ : LQ u w σ) : LQP u w (fX8_append_0b16 σ) := by
  unfold fX8_append_0b16
  exact h_σ
theorem lqb_fX8_append_0b65 {u w : Int64}  {σ : ST} (h_σ : LQ u w σ) : LQP u w (fX8_append_0b65 σ) := by
  unfold fX8_append_0b65
  exact h_σ
theorem lqb_fX8_append_0b28 {u w : Int64} {K23 : Int64 → Int32 → ST → (Int32 × ST)} (hK23 : ∀ (q0 : Int64) (q1 : Int32) (τ : ST), LQ u w τ → LQP u w (K23 q0 q1 τ)) {l1 : Int64} {l4 : Int32} {σ : ST} (h_σ : LQ u w σ) : LQP u w (fX8_append_0b28 K23 l1 l4 σ) := by
  unfold fX8_append_0b28
  refine lqbd2 fun v33 _ => ?_
  refine lqbd2 fun v41 _ => ?_
  refine lqbd2 fun v42 _ => ?_
  refine lqbd2 fun v43 _ => ?_
  refine lqbd2 fun v47 _ => ?_
  refine lqbd2 fun s48 e_s48 => ?_
  have h_s48 : LQ u w s48 := by rw [e_s48]; exact h_σ
  refine lqbd2 fun v51 _ => ?_
  refine lqbd2 fun v55 _ => ?_
  refine lqbd2 fun s56 e_s56 => ?_
  have h_s56 : LQ u w s56 := by rw [e_s56]; exact h_s48
  refine lqbd2 fun v59 _ => ?_
  exact hK23 _ _ _ h_s56
theorem lqb_fX8_append_0b23 {u w : Int64} {K23 : Int64 → Int32 → ST → (Int32 × ST)} (hK23 : ∀ (q0 : Int64) (q1 : Int32) (τ : ST), LQ u w τ → LQP u w (K23 q0 q1 τ)) {l1 : Int64} {l4 : Int32} {σ : ST} (h_σ : LQ u w σ) : LQP u w (fX8_append_0b23 K23 l1 l4 σ) := by
  unfold fX8_append_0b23
  exact lqite2 (lqb_fX8_append_0b65  h_σ) (lqb_fX8_append_0b28 hK23 h_σ)
theorem lqb_fX8_append_0l23 {u w : Int64}  : ∀ (fu : Nat) {q0 : Int64} {q1 : Int32} {τ : ST} (h : LQ u w τ), LQP u w (fX8_append_0l23 fu q0 q1 τ)
  | 0, _, _, _, h => h
  | fu + 1, _, _, _, h => lqb_fX8_append_0b23 (fun _ _ _ q => lqb_fX8_append_0l23  fu q) h
theorem lqb_fX8_append_0b18 {u w : Int64}  {l1 : Int64} {l3 : Int32} {σ : ST} (h_σ : LQ u w σ) : LQP u w (fX8_append_0b18 l1 l3 σ) := by
  unfold fX8_append_0b18
  refine lqbd2 fun v20 _ => ?_
  exact lqb_fX8_append_0l23  _ h_σ
theorem lqb_fX8_append_0b4 {u w : Int64}  {l1 : Int64} {l3 : Int32} {σ : ST} (h_σ : LQ u w σ) : LQP u w (fX8_append_0b4 l1 l3 σ) := by
  unfold fX8_append_0b4
  refine lqbd2 fun v9 _ => ?_
  refine lqbd2 fun v12 _ => ?_
  exact lqite2 (lqb_fX8_append_0b18  h_σ) (lqb_fX8_append_0b16  h_σ)
theorem lqb_fX8_append_0b0 {u w : Int64}  {l1 : Int64} {l3 : Int32} {σ : ST} (h_σ : LQ u w σ) : LQP u w (fX8_append_0b0 l1 l3 σ) := by
  unfold fX8_append_0b0
  exact lqite2 (lqb_fX8_append_0b16  h_σ) (lqb_fX8_append_0b4  h_σ)
theorem lq_fX8_append_0 {u w : Int64} {p1 : Int64} {p2 : Int32} {σ : ST} (h : LQ u w σ) : LQ u w (fX8_append_0 p1 p2 σ).2 := lqb_fX8_append_0b0 h
theorem lqb_fX11_type_0b36 {u w : Int64}  {t0 : Int32} {σ : ST} (h_σ : LQ u w σ) : LQP u w (fX11_type_0b36 t0 σ) := by
  unfold fX11_type_0b36
  exact h_σ
theorem lqb_fX11_type_0b34 {u w : Int64}  {σ : ST} (h_σ : LQ u w σ) : LQP u w (fX11_type_0b34 σ) := by
  unfold fX11_type_0b34
  exact lqb_fX11_type_0b36  h_σ
theorem lqb_fX11_type_0b24 {u w : Int64}  {σ : ST} (h_σ : LQ u w σ) : LQP u w (fX11_type_0b24 σ) := by
  unfold fX11_type_0b24
  refine lqbd2 fun v28 _ => ?_
  exact lqb_fX11_type_0b36  h_σ
theorem lqb_fX11_type_0b12 {u w : Int64}  {l1 : Int64} {l3 : Int32} {σ : ST} (h_σ : LQ u w σ) : LQP u w (fX11_type_0b12 l1 l3 σ) := by
  unfold fX11_type_0b12
  refine lqbp2 fun v18 s18 e_s18 => ?_
  have h_s18 : LQ u w s18 := by rw [← e_s18]; exact lq_fX8_append_0 h_σ
  exact lqite2 (lqb_fX11_type_0b34  h_s18) (lqb_fX11_type_0b24  h_s18)
theorem lqb_fX11_type_0b10 {u w : Int64}  {σ : ST} (h_σ : LQ u w σ) : LQP u w (fX11_type_0b10 σ) := by
  unfold fX11_type_0b10
  exact h_σ
theorem lqb_fX11_type_0b0 {u w : Int64}  {l1 : Int64} {l3 : Int32} {σ : ST} (h_σ : LQ u w σ) : LQP u w (fX11_type_0b0 l1 l3 σ) := by
  unfold fX11_type_0b0
  refine lqbd2 fun v4 _ => ?_
  exact lqite2 (lqb_fX11_type_0b10  h_σ) (lqb_fX11_type_0b12  h_σ)
theorem lq_fX11_type_0 {u w : Int64} {p1 : Int64} {p2 : Int32} {σ : ST} (h : LQ u w σ) : LQ u w (fX11_type_0 p1 p2 σ).2 := lqb_fX11_type_0b0 h
theorem lqb_fX11_clear_0b0 {u w : Int64}  {σ : ST} (h_σ : LQ u w σ) : LQP u w (fX11_clear_0b0 σ) := by
  unfold fX11_clear_0b0
  refine lqbd2 fun v4 _ => ?_
  refine lqbd2 fun s13 e_s13 => ?_
  have h_s13 : LQ u w s13 := by rw [e_s13]; exact h_σ
  exact h_s13
theorem lq_fX11_clear_0 {u w : Int64} {σ : ST} (h : LQ u w σ) : LQ u w (fX11_clear_0 σ).2 := lqb_fX11_clear_0b0 h
theorem lqb_fX8_endsBehindBlanks_0b54 {u w : Int64}  {t0 : Int32} {σ : ST} (h_σ : LQ u w σ) : LQP u w (fX8_endsBehindBlanks_0b54 t0 σ) := by
  unfold fX8_endsBehindBlanks_0b54
  exact h_σ
theorem lqb_fX8_endsBehindBlanks_0b53 {u w : Int64}  {σ : ST} (h_σ : LQ u w σ) : LQP u w (fX8_endsBehindBlanks_0b53 σ) := by
  unfold fX8_endsBehindBlanks_0b53
  exact lqb_fX8_endsBehindBlanks_0b54  h_σ
theorem lqb_fX8_endsBehindBlanks_0b49 {u w : Int64}  {σ : ST} (h_σ : LQ u w σ) : LQP u w (fX8_endsBehindBlanks_0b49 σ) := by
  unfold fX8_endsBehindBlanks_0b49
  exact lqb_fX8_endsBehindBlanks_0b54  h_σ
theorem lqb_fX8_endsBehindBlanks_0b38 {u w : Int64}  {σ : ST} (h_σ : LQ u w σ) : LQP u w (fX8_endsBehindBlanks_0b38 σ) := by
  unfold fX8_endsBehindBlanks_0b38
  refine lqbd2 fun v39 _ => ?_
  refine lqbd2 fun v43 _ => ?_
  exact lqite2 (lqb_fX8_endsBehindBlanks_0b53  h_σ) (lqb_fX8_endsBehindBlanks_0b49  h_σ)
theorem lqb_fX8_endsBehindBlanks_0b25 {u w : Int64} {K0 : ST → (Int32 × ST)} (hK0 : ∀ (τ : ST), LQ u w τ → LQP u w (K0 τ)) {σ : ST} (h_σ : LQ u w σ) : LQP u w (fX8_endsBehindBlanks_0b25 K0 σ) := by
  unfold fX8_endsBehindBlanks_0b25
  refine lqbd2 fun v27 _ => ?_
  refine lqbd2 fun v31 _ => ?_
  refine lqbd2 fun s32 e_s32 => ?_
  have h_s32 : LQ u w s32 := by rw [e_s32]; exact h_σ
  exact hK0 _ h_s32
theorem lqb_fX8_endsBehindBlanks_0b11 {u w : Int64} {K0 : ST → (Int32 × ST)} (hK0 : ∀ (τ : ST), LQ u w τ → LQP u w (K0 τ)) {σ : ST} (h_σ : LQ u w σ) : LQP u w (fX8_endsBehindBlanks_0b11 K0 σ) := by
  unfold fX8_endsBehindBlanks_0b11
  refine lqbd2 fun v16 _ => ?_
  refine lqbd2 fun v19 _ => ?_
  exact lqite2 (lqb_fX8_endsBehindBlanks_0b25 hK0 h_σ) (lqb_fX8_endsBehindBlanks_0b38  h_σ)
theorem lqb_fX8_endsBehindBlanks_0b0 {u w : Int64} {K0 : ST → (Int32 × ST)} (hK0 : ∀ (τ : ST), LQ u w τ → LQP u w (K0 τ)) {σ : ST} (h_σ : LQ u w σ) : LQP u w (fX8_endsBehindBlanks_0b0 K0 σ) := by
  unfold fX8_endsBehindBlanks_0b0
  refine lqbd2 fun v1 _ => ?_
  refine lqbd2 fun v5 _ => ?_
  exact lqite2 (lqb_fX8_endsBehindBlanks_0b38  h_σ) (lqb_fX8_endsBehindBlanks_0b11 hK0 h_σ)
theorem lqb_fX8_endsBehindBlanks_0l0 {u w : Int64}  : ∀ (fu : Nat) {τ : ST} (h : LQ u w τ), LQP u w (fX8_endsBehindBlanks_0l0 fu  τ)
  | 0, _, h => h
  | fu + 1, _, h => lqb_fX8_endsBehindBlanks_0b0 (fun _ q => lqb_fX8_endsBehindBlanks_0l0  fu q) h
theorem lq_fX8_endsBehindBlanks_0 {u w : Int64} {σ : ST} (h : LQ u w σ) : LQ u w (fX8_endsBehindBlanks_0 σ).2 := lqb_fX8_endsBehindBlanks_0l0 4096 h
theorem lqb_fX8_readWord_0b76 {u w : Int64}  {σ : ST} (h_σ : LQ u w σ) : LQP u w (fX8_readWord_0b76 σ) := by
  unfold fX8_readWord_0b76
  exact h_σ
theorem lqb_fX8_readWord_0b70 {u w : Int64} {K46 : Int32 → Int32 → ST → (Int32 × ST)} (hK46 : ∀ (q0 : Int32) (q1 : Int32) (τ : ST), LQ u w τ → LQP u w (K46 q0 q1 τ)) {l1 : Int32} {l2 : Int32} {σ : ST} (h_σ : LQ u w σ) : LQP u w (fX8_readWord_0b70 K46 l1 l2 σ) := by
  unfold fX8_readWord_0b70
  refine lqbd2 fun v70 _ => ?_
  exact hK46 _ _ _ h_σ
theorem lqb_fX8_readWord_0b68 {u w : Int64} {K46 : Int32 → Int32 → ST → (Int32 × ST)} (hK46 : ∀ (q0 : Int32) (q1 : Int32) (τ : ST), LQ u w τ → LQP u w (K46 q0 q1 τ)) {l2 : Int32} {σ : ST} (h_σ : LQ u w σ) : LQP u w (fX8_readWord_0b68 K46 l2 σ) := by
  unfold fX8_readWord_0b68
  exact h_σ
theorem lqb_fX8_readWord_0b52 {u w : Int64} {K46 : Int32 → Int32 → ST → (Int32 × ST)} (hK46 : ∀ (q0 : Int32) (q1 : Int32) (τ : ST), LQ u w τ → LQP u w (K46 q0 q1 τ)) {l1 : Int32} {l2 : Int32} {σ : ST} (h_σ : LQ u w σ) : LQP u w (fX8_readWord_0b52 K46 l1 l2 σ) := by
  unfold fX8_readWord_0b52
  refine lqbd2 fun v54 _ => ?_
  refine lqbd2 fun v59 _ => ?_
  refine lqbd2 fun v62 _ => ?_
  exact lqite2 (lqb_fX8_readWord_0b70 hK46 h_σ) (lqb_fX8_readWord_0b68 hK46 h_σ)
theorem lqb_fX8_readWord_0b46 {u w : Int64} {K46 : Int32 → Int32 → ST → (Int32 × ST)} (hK46 : ∀ (q0 : Int32) (q1 : Int32) (τ : ST), LQ u w τ → LQP u w (K46 q0 q1 τ)) {l1 : Int32} {l2 : Int32} {σ : ST} (h_σ : LQ u w σ) : LQP u w (fX8_readWord_0b46 K46 l1 l2 σ) := by
  unfold fX8_readWord_0b46
  exact lqite2 (lqb_fX8_readWord_0b76  h_σ) (lqb_fX8_readWord_0b52 hK46 h_σ)
theorem lqb_fX8_readWord_0l46 {u w : Int64}  : ∀ (fu : Nat) {q0 : Int32} {q1 : Int32} {τ : ST} (h : LQ u w τ), LQP u w (fX8_readWord_0l46 fu q0 q1 τ)
  | 0, _, _, _, h => h
  | fu + 1, _, _, _, h => lqb_fX8_readWord_0b46 (fun _ _ _ q => lqb_fX8_readWord_0l46  fu q) h
theorem lqb_fX8_readWord_0b44 {u w : Int64}  {l1 : Int32} {σ : ST} (h_σ : LQ u w σ) : LQP u w (fX8_readWord_0b44 l1 σ) := by
  unfold fX8_readWord_0b44
  exact lqb_fX8_readWord_0l46  _ h_σ
theorem lqb_fX8_readWord_0b31 {u w : Int64} {K5 : Int32 → ST → (Int32 × ST)} (hK5 : ∀ (q0 : Int32) (τ : ST), LQ u w τ → LQP u w (K5 q0 τ)) {l1 : Int32} {σ : ST} (h_σ : LQ u w σ) : LQP u w (fX8_readWord_0b31 K5 l1 σ) := by
  unfold fX8_readWord_0b31
  refine lqbd2 fun v33 _ => ?_
  refine lqbd2 fun v37 _ => ?_
  refine lqbd2 fun s38 e_s38 => ?_
  have h_s38 : LQ u w s38 := by rw [e_s38]; exact h_σ
  exact hK5 _ _ h_s38
theorem lqb_fX8_readWord_0b16 {u w : Int64} {K5 : Int32 → ST → (Int32 × ST)} (hK5 : ∀ (q0 : Int32) (τ : ST), LQ u w τ → LQP u w (K5 q0 τ)) {l1 : Int32} {σ : ST} (h_σ : LQ u w σ) : LQP u w (fX8_readWord_0b16 K5 l1 σ) := by
  unfold fX8_readWord_0b16
  refine lqbd2 fun v21 _ => ?_
  refine lqbd2 fun v24 _ => ?_
  refine lqbd2 fun v25 _ => ?_
  exact lqite2 (lqb_fX8_readWord_0b44  h_σ) (lqb_fX8_readWord_0b31 hK5 h_σ)
theorem lqb_fX8_readWord_0b5 {u w : Int64} {K5 : Int32 → ST → (Int32 × ST)} (hK5 : ∀ (q0 : Int32) (τ : ST), LQ u w τ → LQP u w (K5 q0 τ)) {l1 : Int32} {σ : ST} (h_σ : LQ u w σ) : LQP u w (fX8_readWord_0b5 K5 l1 σ) := by
  unfold fX8_readWord_0b5
  refine lqbd2 fun v6 _ => ?_
  refine lqbd2 fun v10 _ => ?_
  exact lqite2 (lqb_fX8_readWord_0b44  h_σ) (lqb_fX8_readWord_0b16 hK5 h_σ)
theorem lqb_fX8_readWord_0l5 {u w : Int64}  : ∀ (fu : Nat) {q0 : Int32} {τ : ST} (h : LQ u w τ), LQP u w (fX8_readWord_0l5 fu q0 τ)
  | 0, _, _, h => h
  | fu + 1, _, _, h => lqb_fX8_readWord_0b5 (fun _ _ q => lqb_fX8_readWord_0l5  fu q) h
theorem lqb_fX8_readWord_0b0 {u w : Int64}  {σ : ST} (h_σ : LQ u w σ) : LQP u w (fX8_readWord_0b0 σ) := by
  unfold fX8_readWord_0b0
  refine lqbd2 fun v1 _ => ?_
  exact lqb_fX8_readWord_0l5  _ h_σ
theorem lq_fX8_readWord_0 {u w : Int64} {σ : ST} (h : LQ u w σ) : LQ u w (fX8_readWord_0 σ).2 := lqb_fX8_readWord_0b0 h
theorem lqb_fX8_readNumber_0b104 {u w : Int64}  {σ : ST} (h_σ : LQ u w σ) : LQP u w (fX8_readNumber_0b104 σ) := by
  unfold fX8_readNumber_0b104
  exact h_σ
theorem lqb_fX8_readNumber_0b106 {u w : Int64}  {l2 : Int32} {σ : ST} (h_σ : LQ u w σ) : LQP u w (fX8_readNumber_0b106 l2 σ) := by
  unfold fX8_readNumber_0b106
  exact h_σ
theorem lqb_fX8_readNumber_0b93 {u w : Int64}  {l1 : Int32} {l2 : Int32} {σ : ST} (h_σ : LQ u w σ) : LQP u w (fX8_readNumber_0b93 l1 l2 σ) := by
  unfold fX8_readNumber_0b93
  refine lqbd2 fun v98 _ => ?_
  exact lqite2 (lqb_fX8_readNumber_0b104  h_σ) (lqb_fX8_readNumber_0b106  h_σ)
theorem lqb_fX8_readNumber_0b88 {u w : Int64}  {l1 : Int32} {l2 : Int32} {l3 : Int32} {σ : ST} (h_σ : LQ u w σ) : LQP u w (fX8_readNumber_0b88 l1 l2 l3 σ) := by
  unfold fX8_readNumber_0b88
  exact lqite2 (lqb_fX8_readNumber_0b106  h_σ) (lqb_fX8_readNumber_0b93  h_σ)
theorem lqb_fX8_readNumber_0b81 {u w : Int64}  {l1 : Int32} {l2 : Int32} {l3 : Int32} {σ : ST} (h_σ : LQ u w σ) : LQP u w (fX8_readNumber_0b81 l1 l2 l3 σ) := by
  unfold fX8_readNumber_0b81
  exact lqite2 (lqb_fX8_readNumber_0b104  h_σ) (lqb_fX8_readNumber_0b88  h_σ)
theorem lqb_fX8_readNumber_0b70 {u w : Int64}  {l1 : Int32} {l2 : Int32} {σ : ST} (h_σ : LQ u w σ) : LQP u w (fX8_readNumber_0b70 l1 l2 σ) := by
  unfold fX8_readNumber_0b70
  refine lqbd2 fun v71 _ => ?_
  refine lqbd2 fun v75 _ => ?_
  exact lqite2 (lqb_fX8_readNumber_0b104  h_σ) (lqb_fX8_readNumber_0b81  h_σ)
theorem lqb_fX8_readNumber_0b33 {u w : Int64} {K7 : Int32 → Int32 → ST → (Int32 × ST)} (hK7 : ∀ (q0 : Int32) (q1 : Int32) (τ : ST), LQ u w τ → LQP u w (K7 q0 q1 τ)) {l1 : Int32} {l2 : Int32} {σ : ST} (h_σ : LQ u w σ) : LQP u w (fX8_readNumber_0b33 K7 l1 l2 σ) := by
  unfold fX8_readNumber_0b33
  refine lqbd2 fun v36 _ => ?_
  refine lqbd2 fun v42 _ => ?_
  refine lqbd2 fun v45 _ => ?_
  refine lqbd2 fun v46 _ => ?_
  refine lqbd2 fun v49 _ => ?_
  refine lqbd2 fun v53 _ => ?_
  refine lqbd2 fun v59 _ => ?_
  refine lqbd2 fun v63 _ => ?_
  refine lqbd2 fun s64 e_s64 => ?_
  have h_s64 : LQ u w s64 := by rw [e_s64]; exact h_σ
  exact hK7 _ _ _ h_s64
theorem lqb_fX8_readNumber_0b18 {u w : Int64} {K7 : Int32 → Int32 → ST → (Int32 × ST)} (hK7 : ∀ (q0 : Int32) (q1 : Int32) (τ : ST), LQ u w τ → LQP u w (K7 q0 q1 τ)) {l1 : Int32} {l2 : Int32} {σ : ST} (h_σ : LQ u w σ) : LQP u w (fX8_readNumber_0b18 K7 l1 l2 σ) := by
  unfold fX8_readNumber_0b18
  refine lqbd2 fun v23 _ => ?_
  refine lqbd2 fun v26 _ => ?_
  refine lqbd2 fun v27 _ => ?_
  exact lqite2 (lqb_fX8_readNumber_0b70  h_σ) (lqb_fX8_readNumber_0b33 hK7 h_σ)
theorem lqb_fX8_readNumber_0b7 {u w : Int64} {K7 : Int32 → Int32 → ST → (Int32 × ST)} (hK7 : ∀ (q0 : Int32) (q1 : Int32) (τ : ST), LQ u w τ → LQP u w (K7 q0 q1 τ)) {l1 : Int32} {l2 : Int32} {σ : ST} (h_σ : LQ u w σ) : LQP u w (fX8_readNumber_0b7 K7 l1 l2 σ) := by
  unfold fX8_readNumber_0b7
  refine lqbd2 fun v8 _ => ?_
  refine lqbd2 fun v12 _ => ?_
  exact lqite2 (lqb_fX8_readNumber_0b70  h_σ) (lqb_fX8_readNumber_0b18 hK7 h_σ)
theorem lqb_fX8_readNumber_0l7 {u w : Int64}  : ∀ (fu : Nat) {q0 : Int32} {q1 : Int32} {τ : ST} (h : LQ u w τ), LQP u w (fX8_readNumber_0l7 fu q0 q1 τ)
  | 0, _, _, _, h => h
  | fu + 1, _, _, _, h => lqb_fX8_readNumber_0b7 (fun _ _ _ q => lqb_fX8_readNumber_0l7  fu q) h
theorem lqb_fX8_readNumber_0b0 {u w : Int64}  {σ : ST} (h_σ : LQ u w σ) : LQP u w (fX8_readNumber_0b0 σ) := by
  unfold fX8_readNumber_0b0
  refine lqbd2 fun v1 _ => ?_
  exact lqb_fX8_readNumber_0l7  _ h_σ
theorem lq_fX8_readNumber_0 {u w : Int64} {σ : ST} (h : LQ u w σ) : LQ u w (fX8_readNumber_0 σ).2 := lqb_fX8_readNumber_0b0 h
theorem lqb_fX8_readItem_0b25 {u w : Int64}  {l1 : Int32} {σ : ST} (h_σ : LQ u w σ) : LQP u w (fX8_readItem_0b25 l1 σ) := by
  unfold fX8_readItem_0b25
  exact h_σ
theorem lqb_fX8_readItem_0b63 {u w : Int64}  {l1 : Int32} {σ : ST} (h_σ : LQ u w σ) : LQP u w (fX8_readItem_0b63 l1 σ) := by
  unfold fX8_readItem_0b63
  exact h_σ
theorem lqb_fX8_readItem_0b96 {u w : Int64}  {l2 : Int32} {l3 : Int32} {σ : ST} (h_σ : LQ u w σ) : LQP u w (fX8_readItem_0b96 l2 l3 σ) := by
  unfold fX8_readItem_0b96
  refine lqbd2 fun v98 _ => ?_
  refine lqbd2 fun v102 _ => ?_
  refine lqbd2 fun s103 e_s103 => ?_
  have h_s103 : LQ u w s103 := by rw [e_s103]; exact h_σ
  refine lqbd2 fun s112 e_s112 => ?_
  have h_s112 : LQ u w s112 := by rw [e_s112]; exact h_s103
  exact h_s112
theorem lqb_fX8_readItem_0b91 {u w : Int64}  {σ : ST} (h_σ : LQ u w σ) : LQP u w (fX8_readItem_0b91 σ) := by
  unfold fX8_readItem_0b91
  refine lqbd2 fun v92 _ => ?_
  exact h_σ
theorem lqb_fX8_readItem_0b77 {u w : Int64}  {l2 : Int32} {l3 : Int32} {σ : ST} (h_σ : LQ u w σ) : LQP u w (fX8_readItem_0b77 l2 l3 σ) := by
  unfold fX8_readItem_0b77
  refine lqbd2 fun v82 _ => ?_
  refine lqbd2 fun v85 _ => ?_
  exact lqite2 (lqb_fX8_readItem_0b96  h_σ) (lqb_fX8_readItem_0b91  h_σ)
theorem lqb_fX8_readItem_0b72 {u w : Int64}  {σ : ST} (h_σ : LQ u w σ) : LQP u w (fX8_readItem_0b72 σ) := by
  unfold fX8_readItem_0b72
  refine lqbd2 fun v73 _ => ?_
  exact h_σ
theorem lqb_fX8_readItem_0b65 {u w : Int64}  {l2 : Int32} {l3 : Int32} {σ : ST} (h_σ : LQ u w σ) : LQP u w (fX8_readItem_0b65 l2 l3 σ) := by
  unfold fX8_readItem_0b65
  refine lqbp2 fun v66 s66 e_s66 => ?_
  have h_s66 : LQ u w s66 := by rw [← e_s66]; exact lq_fX8_endsBehindBlanks_0 h_σ
  exact lqite2 (lqb_fX8_readItem_0b77  h_s66) (lqb_fX8_readItem_0b72  h_s66)
theorem lqb_fX8_readItem_0b54 {u w : Int64}  {l1 : Int32} {l2 : Int32} {l3 : Int32} {σ : ST} (h_σ : LQ u w σ) : LQP u w (fX8_readItem_0b54 l1 l2 l3 σ) := by
  unfold fX8_readItem_0b54
  refine lqbd2 fun v59 _ => ?_
  exact lqite2 (lqb_fX8_readItem_0b65  h_σ) (lqb_fX8_readItem_0b63  h_σ)
theorem lqb_fX8_readItem_0b39 {u w : Int64}  {l2 : Int32} {σ : ST} (h_σ : LQ u w σ) : LQP u w (fX8_readItem_0b39 l2 σ) := by
  unfold fX8_readItem_0b39
  refine lqbd2 fun v40 _ => ?_
  refine lqbp2 fun v45 s45 e_s45 => ?_
  have h_s45 : LQ u w s45 := by rw [← e_s45]; exact lq_fX8_readNumber_0 h_σ
  exact lqite2 (lqb_fX8_readItem_0b63  h_s45) (lqb_fX8_readItem_0b54  h_s45)
theorem lqb_fX8_readItem_0b34 {u w : Int64}  {σ : ST} (h_σ : LQ u w σ) : LQP u w (fX8_readItem_0b34 σ) := by
  unfold fX8_readItem_0b34
  refine lqbd2 fun v35 _ => ?_
  exact h_σ
theorem lqb_fX8_readItem_0b27 {u w : Int64}  {l2 : Int32} {σ : ST} (h_σ : LQ u w σ) : LQP u w (fX8_readItem_0b27 l2 σ) := by
  unfold fX8_readItem_0b27
  refine lqbp2 fun v28 s28 e_s28 => ?_
  have h_s28 : LQ u w s28 := by rw [← e_s28]; exact lq_fX8_endsBehindBlanks_0 h_σ
  exact lqite2 (lqb_fX8_readItem_0b39  h_s28) (lqb_fX8_readItem_0b34  h_s28)
theorem lqb_fX8_readItem_0b15 {u w : Int64}  {l1 : Int32} {l2 : Int32} {σ : ST} (h_σ : LQ u w σ) : LQP u w (fX8_readItem_0b15 l1 l2 σ) := by
  unfold fX8_readItem_0b15
  refine lqbd2 fun v20 _ => ?_
  exact lqite2 (lqb_fX8_readItem_0b27  h_σ) (lqb_fX8_readItem_0b25  h_σ)
theorem lqb_fX8_readItem_0b0 {u w : Int64}  {σ : ST} (h_σ : LQ u w σ) : LQP u w (fX8_readItem_0b0 σ) := by
  unfold fX8_readItem_0b0
  refine lqbd2 fun v1 _ => ?_
  refine lqbp2 fun v6 s6 e_s6 => ?_
  have h_s6 : LQ u w s6 := by rw [← e_s6]; exact lq_fX8_readWord_0 h_σ
  exact lqite2 (lqb_fX8_readItem_0b25  h_s6) (lqb_fX8_readItem_0b15  h_s6)
theorem lq_fX8_readItem_0 {u w : Int64} {σ : ST} (h : LQ u w σ) : LQ u w (fX8_readItem_0 σ).2 := lqb_fX8_readItem_0b0 h
theorem lqb_fX8_adopt_0b44 {u w : Int64}  {σ : ST} (h_σ : LQ u w σ) : LQ u w (fX8_adopt_0b44 σ) := by
  unfold fX8_adopt_0b44
  refine lqbd fun s46 e_s46 => ?_
  have h_s46 : LQ u w s46 := by rw [e_s46]; exact h_σ
  exact h_s46
theorem lqb_fX8_adopt_0b37 {u w : Int64} {K2 : Int32 → ST → ST} (hK2 : ∀ (q0 : Int32) (τ : ST), LQ u w τ → LQ u w (K2 q0 τ)) {l1 : Int32} {t0 : Int32} {t1 : Int32} {σ : ST} (h_σ : LQ u w σ) : LQ u w (fX8_adopt_0b37 K2 l1 t0 t1 σ) := by
  unfold fX8_adopt_0b37
  refine lqbd fun s37 e_s37 => ?_
  have h_s37 : LQ u w s37 := by rw [e_s37]; exact h_σ
  refine lqbd fun v38 _ => ?_
  exact hK2 _ _ h_s37
theorem lqb_fX8_adopt_0b31 {u w : Int64} {K2 : Int32 → ST → ST} (hK2 : ∀ (q0 : Int32) (τ : ST), LQ u w τ → LQ u w (K2 q0 τ)) {l1 : Int32} {t0 : Int32} {σ : ST} (h_σ : LQ u w σ) : LQ u w (fX8_adopt_0b31 K2 l1 t0 σ) := by
  unfold fX8_adopt_0b31
  refine lqbd fun v36 _ => ?_
  exact lqb_fX8_adopt_0b37 hK2 h_σ
theorem lqb_fX8_adopt_0b23 {u w : Int64} {K2 : Int32 → ST → ST} (hK2 : ∀ (q0 : Int32) (τ : ST), LQ u w τ → LQ u w (K2 q0 τ)) {l1 : Int32} {t0 : Int32} {σ : ST} (h_σ : LQ u w σ) : LQ u w (fX8_adopt_0b23 K2 l1 t0 σ) := by
  unfold fX8_adopt_0b23
  refine lqbd fun v27 _ => ?_
  exact lqb_fX8_adopt_0b37 hK2 h_σ
theorem lqb_fX8_adopt_0b8 {u w : Int64} {K2 : Int32 → ST → ST} (hK2 : ∀ (q0 : Int32) (τ : ST), LQ u w τ → LQ u w (K2 q0 τ)) {l1 : Int32} {σ : ST} (h_σ : LQ u w σ) : LQ u w (fX8_adopt_0b8 K2 l1 σ) := by
  unfold fX8_adopt_0b8
  refine lqbd fun v18 _ => ?_
  exact lqite (lqb_fX8_adopt_0b23 hK2 h_σ) (lqb_fX8_adopt_0b31 hK2 h_σ)
theorem lqb_fX8_adopt_0b2 {u w : Int64} {K2 : Int32 → ST → ST} (hK2 : ∀ (q0 : Int32) (τ : ST), LQ u w τ → LQ u w (K2 q0 τ)) {l1 : Int32} {σ : ST} (h_σ : LQ u w σ) : LQ u w (fX8_adopt_0b2 K2 l1 σ) := by
  unfold fX8_adopt_0b2
  exact lqite (lqb_fX8_adopt_0b44  h_σ) (lqb_fX8_adopt_0b8 hK2 h_σ)
theorem lqb_fX8_adopt_0l2 {u w : Int64}  : ∀ (fu : Nat) {q0 : Int32} {τ : ST} (h : LQ u w τ), LQ u w (fX8_adopt_0l2 fu q0 τ)
  | 0, _, _, h => h
  | fu + 1, _, _, h => lqb_fX8_adopt_0b2 (fun _ _ q => lqb_fX8_adopt_0l2  fu q) h
theorem lqb_fX8_adopt_0b0 {u w : Int64}  {σ : ST} (h_σ : LQ u w σ) : LQ u w (fX8_adopt_0b0 σ) := by
  unfold fX8_adopt_0b0
  exact lqb_fX8_adopt_0l2  _ h_σ
theorem lq_fX8_adopt_0 {u w : Int64} {σ : ST} (h : LQ u w σ) : LQ u w (fX8_adopt_0 σ) := lqb_fX8_adopt_0b0 h
theorem lqb_fX8_read_0b54 {u w : Int64}  {σ : ST} (h_σ : LQ u w σ) : LQP u w (fX8_read_0b54 σ) := by
  unfold fX8_read_0b54
  refine lqbd2 fun v57 _ => ?_
  refine lqbd2 fun v60 _ => ?_
  exact h_σ
theorem lqb_fX8_read_0b48 {u w : Int64} {K15 : Int32 → ST → (Int32 × ST)} (hK15 : ∀ (q0 : Int32) (τ : ST), LQ u w τ → LQP u w (K15 q0 τ)) {l1 : Int32} {σ : ST} (h_σ : LQ u w σ) : LQP u w (fX8_read_0b48 K15 l1 σ) := by
  unfold fX8_read_0b48
  refine lqbd2 fun v48 _ => ?_
  exact hK15 _ _ h_σ
theorem lqb_fX8_read_0b43 {u w : Int64} {K15 : Int32 → ST → (Int32 × ST)} (hK15 : ∀ (q0 : Int32) (τ : ST), LQ u w τ → LQP u w (K15 q0 τ)) {l2 : Int32} {σ : ST} (h_σ : LQ u w σ) : LQP u w (fX8_read_0b43 K15 l2 σ) := by
  unfold fX8_read_0b43
  refine lqbd2 fun v46 _ => ?_
  exact h_σ
theorem lqb_fX8_read_0b34 {u w : Int64} {K15 : Int32 → ST → (Int32 × ST)} (hK15 : ∀ (q0 : Int32) (τ : ST), LQ u w τ → LQP u w (K15 q0 τ)) {l1 : Int32} {σ : ST} (h_σ : LQ u w σ) : LQP u w (fX8_read_0b34 K15 l1 σ) := by
  unfold fX8_read_0b34
  refine lqbp2 fun v35 s35 e_s35 => ?_
  have h_s35 : LQ u w s35 := by rw [← e_s35]; exact lq_fX8_readItem_0 h_σ
  exact lqite2 (lqb_fX8_read_0b48 hK15 h_s35) (lqb_fX8_read_0b43 hK15 h_s35)
theorem lqb_fX8_read_0b28 {u w : Int64} {K15 : Int32 → ST → (Int32 × ST)} (hK15 : ∀ (q0 : Int32) (τ : ST), LQ u w τ → LQP u w (K15 q0 τ)) {l1 : Int32} {σ : ST} (h_σ : LQ u w σ) : LQP u w (fX8_read_0b28 K15 l1 σ) := by
  unfold fX8_read_0b28
  refine lqbd2 fun s29 e_s29 => ?_
  have h_s29 : LQ u w s29 := by rw [e_s29]; exact lq_fX8_adopt_0 h_σ
  exact h_s29
theorem lqb_fX8_read_0b21 {u w : Int64} {K15 : Int32 → ST → (Int32 × ST)} (hK15 : ∀ (q0 : Int32) (τ : ST), LQ u w τ → LQP u w (K15 q0 τ)) {l1 : Int32} {σ : ST} (h_σ : LQ u w σ) : LQP u w (fX8_read_0b21 K15 l1 σ) := by
  unfold fX8_read_0b21
  refine lqbp2 fun v22 s22 e_s22 => ?_
  have h_s22 : LQ u w s22 := by rw [← e_s22]; exact lq_fX8_endsBehindBlanks_0 h_σ
  exact lqite2 (lqb_fX8_read_0b34 hK15 h_s22) (lqb_fX8_read_0b28 hK15 h_s22)
theorem lqb_fX8_read_0b15 {u w : Int64} {K15 : Int32 → ST → (Int32 × ST)} (hK15 : ∀ (q0 : Int32) (τ : ST), LQ u w τ → LQP u w (K15 q0 τ)) {l1 : Int32} {σ : ST} (h_σ : LQ u w σ) : LQP u w (fX8_read_0b15 K15 l1 σ) := by
  unfold fX8_read_0b15
  exact lqite2 (lqb_fX8_read_0b54  h_σ) (lqb_fX8_read_0b21 hK15 h_σ)
theorem lqb_fX8_read_0l15 {u w : Int64}  : ∀ (fu : Nat) {q0 : Int32} {τ : ST} (h : LQ u w τ), LQP u w (fX8_read_0l15 fu q0 τ)
  | 0, _, _, h => h
  | fu + 1, _, _, h => lqb_fX8_read_0b15 (fun _ _ q => lqb_fX8_read_0l15  fu q) h
theorem lqb_fX8_read_0b0 {u w : Int64}  {σ : ST} (h_σ : LQ u w σ) : LQP u w (fX8_read_0b0 σ) := by
  unfold fX8_read_0b0
  refine lqbd2 fun s5 e_s5 => ?_
  have h_s5 : LQ u w s5 := by rw [e_s5]; exact h_σ
  refine lqbd2 fun s10 e_s10 => ?_
  have h_s10 : LQ u w s10 := by rw [e_s10]; exact h_s5
  exact lqb_fX8_read_0l15  _ h_s10
theorem lq_fX8_read_0 {u w : Int64} {σ : ST} (h : LQ u w σ) : LQ u w (fX8_read_0 σ).2 := lqb_fX8_read_0b0 h
theorem lqb_fX11_nothingIsFound_0b0 {u w : Int64}  {σ : ST} (h_σ : LQ u w σ) : LQ u w (fX11_nothingIsFound_0b0 σ) := by
  unfold fX11_nothingIsFound_0b0
  refine lqbd fun s2 e_s2 => ?_
  have h_s2 : LQ u w s2 := by rw [e_s2]; exact h_σ
  refine lqbd fun s7 e_s7 => ?_
  have h_s7 : LQ u w s7 := by rw [e_s7]; exact h_s2
  refine lqbd fun s12 e_s12 => ?_
  have h_s12 : LQ u w s12 := by rw [e_s12]; exact h_s7
  exact h_s12
theorem lq_fX11_nothingIsFound_0 {u w : Int64} {σ : ST} (h : LQ u w σ) : LQ u w (fX11_nothingIsFound_0 σ) := lqb_fX11_nothingIsFound_0b0 h
theorem lqb_fX11_rules_0b16 {u w : Int64}  {l1 : Int32} {σ : ST} (h_σ : LQ u w σ) : LQP u w (fX11_rules_0b16 l1 σ) := by
  unfold fX11_rules_0b16
  exact h_σ
theorem lqb_fX11_rules_0b12 {u w : Int64}  {l1 : Int32} {σ : ST} (h_σ : LQ u w σ) : LQP u w (fX11_rules_0b12 l1 σ) := by
  unfold fX11_rules_0b12
  refine lqbd2 fun s13 e_s13 => ?_
  have h_s13 : LQ u w s13 := by rw [e_s13]; exact lq_fX11_nothingIsFound_0 h_σ
  exact lqb_fX11_rules_0b16  h_s13
theorem lqb_fX11_rules_0b0 {u w : Int64}  {σ : ST} (h_σ : LQ u w σ) : LQP u w (fX11_rules_0b0 σ) := by
  unfold fX11_rules_0b0
  refine lqbp2 fun v4 s4 e_s4 => ?_
  have h_s4 : LQ u w s4 := by rw [← e_s4]; exact lq_fX8_read_0 h_σ
  exact lqite2 (lqb_fX11_rules_0b16  h_s4) (lqb_fX11_rules_0b12  h_s4)
theorem lq_fX11_rules_0 {u w : Int64} {σ : ST} (h : LQ u w σ) : LQ u w (fX11_rules_0 σ).2 := lqb_fX11_rules_0b0 h
theorem lqb_fX7_addDeaf_0b12 {u w : Int64}  {σ : ST} (h_σ : LQ u w σ) : LQP u w (fX7_addDeaf_0b12 σ) := by
  unfold fX7_addDeaf_0b12
  refine lqbd2 fun v13 _ => ?_
  refine lqbd2 fun s23 e_s23 => ?_
  have h_s23 : LQ u w s23 := by rw [e_s23]; exact h_σ
  refine lqbd2 fun s30 e_s30 => ?_
  have h_s30 : LQ u w s30 := by rw [e_s30]; exact h_s23
  refine lqbd2 fun s37 e_s37 => ?_
  have h_s37 : LQ u w s37 := by rw [e_s37]; exact h_s30
  refine lqbd2 fun v40 _ => ?_
  refine lqbd2 fun v44 _ => ?_
  refine lqbd2 fun s45 e_s45 => ?_
  have h_s45 : LQ u w s45 := by rw [e_s45]; exact h_s37
  exact h_s45
theorem lqb_fX7_addDeaf_0b9 {u w : Int64}  {σ : ST} (h_σ : LQ u w σ) : LQP u w (fX7_addDeaf_0b9 σ) := by
  unfold fX7_addDeaf_0b9
  exact h_σ
theorem lqb_fX7_addDeaf_0b0 {u w : Int64}  {σ : ST} (h_σ : LQ u w σ) : LQP u w (fX7_addDeaf_0b0 σ) := by
  unfold fX7_addDeaf_0b0
  refine lqbd2 fun v1 _ => ?_
  exact lqite2 (lqb_fX7_addDeaf_0b12  h_σ) (lqb_fX7_addDeaf_0b9  h_σ)
theorem lq_fX7_addDeaf_0 {u w : Int64} {σ : ST} (h : LQ u w σ) : LQ u w (fX7_addDeaf_0 σ).2 := lqb_fX7_addDeaf_0b0 h
theorem lqb_fX7_addRow_0b66 {u w : Int64}  {l5 : Int32} {σ : ST} (h_σ : LQ u w σ) : LQP u w (fX7_addRow_0b66 l5 σ) := by
  unfold fX7_addRow_0b66
  exact h_σ
theorem lqb_fX7_addRow_0b11 {u w : Int64}  {l1 : Int32} {l2 : Int32} {l3 : Int32} {l4 : Int32} {l5 : Int32} {σ : ST} (h_σ : LQ u w σ) : LQP u w (fX7_addRow_0b11 l1 l2 l3 l4 l5 σ) := by
  unfold fX7_addRow_0b11
  refine lqbd2 fun s18 e_s18 => ?_
  have h_s18 : LQ u w s18 := by rw [e_s18]; exact h_σ
  refine lqbd2 fun v26 _ => ?_
  refine lqbd2 fun s28 e_s28 => ?_
  have h_s28 : LQ u w s28 := by rw [e_s28]; exact h_s18
  refine lqbd2 fun v36 _ => ?_
  refine lqbd2 fun v38 _ => ?_
  refine lqbd2 fun s40 e_s40 => ?_
  have h_s40 : LQ u w s40 := by rw [e_s40]; exact h_s28
  refine lqbd2 fun v48 _ => ?_
  refine lqbd2 fun v50 _ => ?_
  refine lqbd2 fun s52 e_s52 => ?_
  have h_s52 : LQ u w s52 := by rw [e_s52]; exact h_s40
  refine lqbd2 fun v60 _ => ?_
  refine lqbd2 fun v62 _ => ?_
  refine lqbd2 fun s65 e_s65 => ?_
  have h_s65 : LQ u w s65 := by rw [e_s65]; exact h_s52
  exact lqb_fX7_addRow_0b66  h_s65
theorem lqb_fX7_addRow_0b0 {u w : Int64}  {l1 : Int32} {l2 : Int32} {l3 : Int32} {l4 : Int32} {σ : ST} (h_σ : LQ u w σ) : LQP u w (fX7_addRow_0b0 l1 l2 l3 l4 σ) := by
  unfold fX7_addRow_0b0
  refine lqbp2 fun v1 s1 e_s1 => ?_
  have h_s1 : LQ u w s1 := by rw [← e_s1]; exact lq_fX7_addDeaf_0 h_σ
  exact lqite2 (lqb_fX7_addRow_0b66  h_s1) (lqb_fX7_addRow_0b11  h_s1)
theorem lq_fX7_addRow_0 {u w : Int64} {p1 : Int32} {p2 : Int32} {p3 : Int32} {p4 : Int32} {σ : ST} (h : LQ u w σ) : LQ u w (fX7_addRow_0 p1 p2 p3 p4 σ).2 := lqb_fX7_addRow_0b0 h
theorem lqb_fX11_row_0b29 {u w : Int64}  {σ : ST} (h_σ : LQ u w σ) : LQP u w (fX11_row_0b29 σ) := by
  unfold fX11_row_0b29
  exact h_σ
theorem lqb_fX11_row_0b46 {u w : Int64}  {l1 : Int32} {l2 : Int32} {l3 : Int32} {l4 : Int32} {σ : ST} (h_σ : LQ u w σ) : LQP u w (fX11_row_0b46 l1 l2 l3 l4 σ) := by
  unfold fX11_row_0b46
  refine lqbd2 fun s47 e_s47 => ?_
  have h_s47 : LQ u w s47 := by rw [e_s47]; exact lq_fX11_nothingIsFound_0 h_σ
  refine lqbp2 fun v59 s59 e_s59 => ?_
  have h_s59 : LQ u w s59 := by rw [← e_s59]; exact lq_fX7_addRow_0 h_s47
  exact h_s59
theorem lqb_fX11_row_0b43 {u w : Int64}  {σ : ST} (h_σ : LQ u w σ) : LQP u w (fX11_row_0b43 σ) := by
  unfold fX11_row_0b43
  exact h_σ
theorem lqb_fX11_row_0b31 {u w : Int64}  {l1 : Int32} {l2 : Int32} {l3 : Int32} {l4 : Int32} {σ : ST} (h_σ : LQ u w σ) : LQP u w (fX11_row_0b31 l1 l2 l3 l4 σ) := by
  unfold fX11_row_0b31
  refine lqbd2 fun v35 _ => ?_
  exact lqite2 (lqb_fX11_row_0b46  h_σ) (lqb_fX11_row_0b43  h_σ)
theorem lqb_fX11_row_0b21 {u w : Int64}  {l1 : Int32} {l2 : Int32} {l3 : Int32} {l4 : Int32} {σ : ST} (h_σ : LQ u w σ) : LQP u w (fX11_row_0b21 l1 l2 l3 l4 σ) := by
  unfold fX11_row_0b21
  refine lqbd2 fun v23 _ => ?_
  exact lqite2 (lqb_fX11_row_0b29  h_σ) (lqb_fX11_row_0b31  h_σ)
theorem lqb_fX11_row_0b14 {u w : Int64}  {l1 : Int32} {l2 : Int32} {l3 : Int32} {l4 : Int32} {σ : ST} (h_σ : LQ u w σ) : LQP u w (fX11_row_0b14 l1 l2 l3 l4 σ) := by
  unfold fX11_row_0b14
  refine lqbd2 fun v15 _ => ?_
  exact lqite2 (lqb_fX11_row_0b29  h_σ) (lqb_fX11_row_0b21  h_σ)
theorem lqb_fX11_row_0b7 {u w : Int64}  {l1 : Int32} {l2 : Int32} {l3 : Int32} {l4 : Int32} {σ : ST} (h_σ : LQ u w σ) : LQP u w (fX11_row_0b7 l1 l2 l3 l4 σ) := by
  unfold fX11_row_0b7
  refine lqbd2 fun v8 _ => ?_
  exact lqite2 (lqb_fX11_row_0b29  h_σ) (lqb_fX11_row_0b14  h_σ)
theorem lqb_fX11_row_0b0 {u w : Int64}  {l1 : Int32} {l2 : Int32} {l3 : Int32} {l4 : Int32} {σ : ST} (h_σ : LQ u w σ) : LQP u w (fX11_row_0b0 l1 l2 l3 l4 σ) := by
  unfold fX11_row_0b0
  refine lqbd2 fun v1 _ => ?_
  exact lqite2 (lqb_fX11_row_0b29  h_σ) (lqb_fX11_row_0b7  h_σ)
theorem lq_fX11_row_0 {u w : Int64} {p1 : Int32} {p2 : Int32} {p3 : Int32} {p4 : Int32} {σ : ST} (h : LQ u w σ) : LQ u w (fX11_row_0 p1 p2 p3 p4 σ).2 := lqb_fX11_row_0b0 h
theorem lqb_fX11_deaf_0b54 {u w : Int64}  {σ : ST} (h_σ : LQ u w σ) : LQP u w (fX11_deaf_0b54 σ) := by
  unfold fX11_deaf_0b54
  refine lqbd2 fun v58 _ => ?_
  exact h_σ
theorem lqb_fX11_deaf_0b40 {u w : Int64} {K35 : Int32 → Int32 → ST → (Int32 × ST)} (hK35 : ∀ (q0 : Int32) (q1 : Int32) (τ : ST), LQ u w τ → LQP u w (K35 q0 q1 τ)) {l1 : Int32} {l2 : Int32} {σ : ST} (h_σ : LQ u w σ) : LQP u w (fX11_deaf_0b40 K35 l1 l2 σ) := by
  unfold fX11_deaf_0b40
  refine lqbp2 fun v44 s44 e_s44 => ?_
  have h_s44 : LQ u w s44 := by rw [← e_s44]; exact lq_fX7_addDeaf_0 h_σ
  refine lqbd2 fun v48 _ => ?_
  exact hK35 _ _ _ h_s44
theorem lqb_fX11_deaf_0b35 {u w : Int64} {K35 : Int32 → Int32 → ST → (Int32 × ST)} (hK35 : ∀ (q0 : Int32) (q1 : Int32) (τ : ST), LQ u w τ → LQP u w (K35 q0 q1 τ)) {l1 : Int32} {l2 : Int32} {σ : ST} (h_σ : LQ u w σ) : LQP u w (fX11_deaf_0b35 K35 l1 l2 σ) := by
  unfold fX11_deaf_0b35
  exact lqite2 (lqb_fX11_deaf_0b54  h_σ) (lqb_fX11_deaf_0b40 hK35 h_σ)
theorem lqb_fX11_deaf_0l35 {u w : Int64}  : ∀ (fu : Nat) {q0 : Int32} {q1 : Int32} {τ : ST} (h : LQ u w τ), LQP u w (fX11_deaf_0l35 fu q0 q1 τ)
  | 0, _, _, _, h => h
  | fu + 1, _, _, _, h => lqb_fX11_deaf_0b35 (fun _ _ _ q => lqb_fX11_deaf_0l35  fu q) h
theorem lqb_fX11_deaf_0b29 {u w : Int64}  {l1 : Int32} {σ : ST} (h_σ : LQ u w σ) : LQP u w (fX11_deaf_0b29 l1 σ) := by
  unfold fX11_deaf_0b29
  refine lqbd2 fun s30 e_s30 => ?_
  have h_s30 : LQ u w s30 := by rw [e_s30]; exact lq_fX11_nothingIsFound_0 h_σ
  exact lqb_fX11_deaf_0l35  _ h_s30
theorem lqb_fX11_deaf_0b26 {u w : Int64}  {σ : ST} (h_σ : LQ u w σ) : LQP u w (fX11_deaf_0b26 σ) := by
  unfold fX11_deaf_0b26
  exact h_σ
theorem lqb_fX11_deaf_0b12 {u w : Int64}  {l1 : Int32} {σ : ST} (h_σ : LQ u w σ) : LQP u w (fX11_deaf_0b12 l1 σ) := by
  unfold fX11_deaf_0b12
  refine lqbd2 fun v16 _ => ?_
  refine lqbd2 fun v20 _ => ?_
  exact lqite2 (lqb_fX11_deaf_0b29  h_σ) (lqb_fX11_deaf_0b26  h_σ)
theorem lqb_fX11_deaf_0b10 {u w : Int64}  {σ : ST} (h_σ : LQ u w σ) : LQP u w (fX11_deaf_0b10 σ) := by
  unfold fX11_deaf_0b10
  exact h_σ
theorem lqb_fX11_deaf_0b0 {u w : Int64}  {l1 : Int32} {σ : ST} (h_σ : LQ u w σ) : LQP u w (fX11_deaf_0b0 l1 σ) := by
  unfold fX11_deaf_0b0
  refine lqbd2 fun v4 _ => ?_
  exact lqite2 (lqb_fX11_deaf_0b10  h_σ) (lqb_fX11_deaf_0b12  h_σ)
theorem lq_fX11_deaf_0 {u w : Int64} {p1 : Int32} {σ : ST} (h : LQ u w σ) : LQ u w (fX11_deaf_0 p1 σ).2 := lqb_fX11_deaf_0b0 h
theorem lqb_fX7_setOut_0b53 {u w : Int64}  {l4 : Int32} {σ : ST} (h_σ : LQ u w σ) : LQP u w (fX7_setOut_0b53 l4 σ) := by
  unfold fX7_setOut_0b53
  exact h_σ
theorem lqb_fX7_setOut_0b47 {u w : Int64} {K10 : Int32 → Int32 → Int32 → Int32 → ST → (Int32 × ST)} (hK10 : ∀ (q0 : Int32) (q1 : Int32) (q2 : Int32) (q3 : Int32) (τ : ST), LQ u w τ → LQP u w (K10 q0 q1 q2 q3 τ)) {l2 : Int32} {l3 : Int32} {l4 : Int32} {l5 : Int32} {σ : ST} (h_σ : LQ u w σ) : LQP u w (fX7_setOut_0b47 K10 l2 l3 l4 l5 σ) := by
  unfold fX7_setOut_0b47
  refine lqbd2 fun v47 _ => ?_
  exact hK10 _ _ _ _ _ h_σ
theorem lqb_fX7_setOut_0b36 {u w : Int64} {K10 : Int32 → Int32 → Int32 → Int32 → ST → (Int32 × ST)} (hK10 : ∀ (q0 : Int32) (q1 : Int32) (q2 : Int32) (q3 : Int32) (τ : ST), LQ u w τ → LQP u w (K10 q0 q1 q2 q3 τ)) {l2 : Int32} {l3 : Int32} {l4 : Int32} {l5 : Int32} {σ : ST} (h_σ : LQ u w σ) : LQP u w (fX7_setOut_0b36 K10 l2 l3 l4 l5 σ) := by
  unfold fX7_setOut_0b36
  refine lqbd2 fun s43 e_s43 => ?_
  have h_s43 : LQ u w s43 := by rw [e_s43]; exact h_σ
  refine lqbd2 fun v44 _ => ?_
  exact lqb_fX7_setOut_0b47 hK10 h_s43
theorem lqb_fX7_setOut_0b25 {u w : Int64} {K10 : Int32 → Int32 → Int32 → Int32 → ST → (Int32 × ST)} (hK10 : ∀ (q0 : Int32) (q1 : Int32) (q2 : Int32) (q3 : Int32) (τ : ST), LQ u w τ → LQP u w (K10 q0 q1 q2 q3 τ)) {l2 : Int32} {l3 : Int32} {l4 : Int32} {l5 : Int32} {σ : ST} (h_σ : LQ u w σ) : LQP u w (fX7_setOut_0b25 K10 l2 l3 l4 l5 σ) := by
  unfold fX7_setOut_0b25
  refine lqbd2 fun v31 _ => ?_
  exact lqite2 (lqb_fX7_setOut_0b47 hK10 h_σ) (lqb_fX7_setOut_0b36 hK10 h_σ)
theorem lqb_fX7_setOut_0b16 {u w : Int64} {K10 : Int32 → Int32 → Int32 → Int32 → ST → (Int32 × ST)} (hK10 : ∀ (q0 : Int32) (q1 : Int32) (q2 : Int32) (q3 : Int32) (τ : ST), LQ u w τ → LQP u w (K10 q0 q1 q2 q3 τ)) {l2 : Int32} {l3 : Int32} {l4 : Int32} {l5 : Int32} {σ : ST} (h_σ : LQ u w σ) : LQP u w (fX7_setOut_0b16 K10 l2 l3 l4 l5 σ) := by
  unfold fX7_setOut_0b16
  refine lqbd2 fun v19 _ => ?_
  exact lqite2 (lqb_fX7_setOut_0b53  h_σ) (lqb_fX7_setOut_0b25 hK10 h_σ)
theorem lqb_fX7_setOut_0b10 {u w : Int64} {K10 : Int32 → Int32 → Int32 → Int32 → ST → (Int32 × ST)} (hK10 : ∀ (q0 : Int32) (q1 : Int32) (q2 : Int32) (q3 : Int32) (τ : ST), LQ u w τ → LQP u w (K10 q0 q1 q2 q3 τ)) {l2 : Int32} {l3 : Int32} {l4 : Int32} {l5 : Int32} {σ : ST} (h_σ : LQ u w σ) : LQP u w (fX7_setOut_0b10 K10 l2 l3 l4 l5 σ) := by
  unfold fX7_setOut_0b10
  exact lqite2 (lqb_fX7_setOut_0b53  h_σ) (lqb_fX7_setOut_0b16 hK10 h_σ)
theorem lqb_fX7_setOut_0l10 {u w : Int64}  : ∀ (fu : Nat) {q0 : Int32} {q1 : Int32} {q2 : Int32} {q3 : Int32} {τ : ST} (h : LQ u w τ), LQP u w (fX7_setOut_0l10 fu q0 q1 q2 q3 τ)
  | 0, _, _, _, _, _, h => h
  | fu + 1, _, _, _, _, _, h => lqb_fX7_setOut_0b10 (fun _ _ _ _ _ q => lqb_fX7_setOut_0l10  fu q) h
theorem lqb_fX7_setOut_0b0 {u w : Int64}  {l1 : Int32} {l2 : Int32} {l3 : Int32} {σ : ST} (h_σ : LQ u w σ) : LQP u w (fX7_setOut_0b0 l1 l2 l3 σ) := by
  unfold fX7_setOut_0b0
  refine lqbd2 fun v5 _ => ?_
  exact lqb_fX7_setOut_0l10  _ h_σ
theorem lq_fX7_setOut_0 {u w : Int64} {p1 : Int32} {p2 : Int32} {p3 : Int32} {σ : ST} (h : LQ u w σ) : LQ u w (fX7_setOut_0 p1 p2 p3 σ).2 := lqb_fX7_setOut_0b0 h
theorem lqb_fX11_out_0b18 {u w : Int64}  {σ : ST} (h_σ : LQ u w σ) : LQP u w (fX11_out_0b18 σ) := by
  unfold fX11_out_0b18
  exact h_σ
theorem lqb_fX11_out_0b50 {u w : Int64}  {l4 : Int32} {σ : ST} (h_σ : LQ u w σ) : LQP u w (fX11_out_0b50 l4 σ) := by
  unfold fX11_out_0b50
  exact h_σ
theorem lqb_fX11_out_0b46 {u w : Int64}  {l4 : Int32} {σ : ST} (h_σ : LQ u w σ) : LQP u w (fX11_out_0b46 l4 σ) := by
  unfold fX11_out_0b46
  refine lqbd2 fun s47 e_s47 => ?_
  have h_s47 : LQ u w s47 := by rw [e_s47]; exact lq_fX11_nothingIsFound_0 h_σ
  exact lqb_fX11_out_0b50  h_s47
theorem lqb_fX11_out_0b36 {u w : Int64}  {t0 : Int32} {t1 : Int32} {t2 : Int32} {σ : ST} (h_σ : LQ u w σ) : LQP u w (fX11_out_0b36 t0 t1 t2 σ) := by
  unfold fX11_out_0b36
  refine lqbp2 fun v36 s36 e_s36 => ?_
  have h_s36 : LQ u w s36 := by rw [← e_s36]; exact lq_fX7_setOut_0 h_σ
  exact lqite2 (lqb_fX11_out_0b50  h_s36) (lqb_fX11_out_0b46  h_s36)
theorem lqb_fX11_out_0b35 {u w : Int64}  {t0 : Int32} {t1 : Int32} {σ : ST} (h_σ : LQ u w σ) : LQP u w (fX11_out_0b35 t0 t1 σ) := by
  unfold fX11_out_0b35
  exact lqb_fX11_out_0b36  h_σ
theorem lqb_fX11_out_0b31 {u w : Int64}  {t0 : Int32} {t1 : Int32} {σ : ST} (h_σ : LQ u w σ) : LQP u w (fX11_out_0b31 t0 t1 σ) := by
  unfold fX11_out_0b31
  exact lqb_fX11_out_0b36  h_σ
theorem lqb_fX11_out_0b20 {u w : Int64}  {l1 : Int32} {l2 : Int32} {l3 : Int32} {σ : ST} (h_σ : LQ u w σ) : LQP u w (fX11_out_0b20 l1 l2 l3 σ) := by
  unfold fX11_out_0b20
  exact lqite2 (lqb_fX11_out_0b31  h_σ) (lqb_fX11_out_0b35  h_σ)
theorem lqb_fX11_out_0b9 {u w : Int64}  {l1 : Int32} {l2 : Int32} {l3 : Int32} {σ : ST} (h_σ : LQ u w σ) : LQP u w (fX11_out_0b9 l1 l2 l3 σ) := by
  unfold fX11_out_0b9
  refine lqbd2 fun v12 _ => ?_
  exact lqite2 (lqb_fX11_out_0b18  h_σ) (lqb_fX11_out_0b20  h_σ)
theorem lqb_fX11_out_0b0 {u w : Int64}  {l1 : Int32} {l2 : Int32} {l3 : Int32} {σ : ST} (h_σ : LQ u w σ) : LQP u w (fX11_out_0b0 l1 l2 l3 σ) := by
  unfold fX11_out_0b0
  refine lqbd2 fun v3 _ => ?_
  exact lqite2 (lqb_fX11_out_0b18  h_σ) (lqb_fX11_out_0b9  h_σ)
theorem lq_fX11_out_0 {u w : Int64} {p1 : Int32} {p2 : Int32} {p3 : Int32} {σ : ST} (h : LQ u w σ) : LQ u w (fX11_out_0 p1 p2 p3 σ).2 := lqb_fX11_out_0b0 h
theorem lqb_fX11_hush_0b0 {u w : Int64}  {σ : ST} (h_σ : LQ u w σ) : LQP u w (fX11_hush_0b0 σ) := by
  unfold fX11_hush_0b0
  refine lqbd2 fun v4 _ => ?_
  refine lqbd2 fun s13 e_s13 => ?_
  have h_s13 : LQ u w s13 := by rw [e_s13]; exact h_σ
  refine lqbd2 fun s21 e_s21 => ?_
  have h_s21 : LQ u w s21 := by rw [e_s21]; exact h_s13
  refine lqbd2 fun s26 e_s26 => ?_
  have h_s26 : LQ u w s26 := by rw [e_s26]; exact h_s21
  refine lqbd2 fun s30 e_s30 => ?_
  have h_s30 : LQ u w s30 := by rw [e_s30]; exact lq_fX11_nothingIsFound_0 h_s26
  exact h_s30
theorem lq_fX11_hush_0 {u w : Int64} {σ : ST} (h : LQ u w σ) : LQ u w (fX11_hush_0 σ).2 := lqb_fX11_hush_0b0 h
theorem lqb_fX3_empty_0b0 {u w : Int64}  {σ : ST} (h_σ : LQ u w σ) : LQ u w (fX3_empty_0b0 σ) := by
  unfold fX3_empty_0b0
  refine lqbd fun s2 e_s2 => ?_
  have h_s2 : LQ u w s2 := by rw [e_s2]; exact h_σ
  refine lqbd fun s7 e_s7 => ?_
  have h_s7 : LQ u w s7 := by rw [e_s7]; exact h_s2
  exact h_s7
theorem lq_fX3_empty_0 {u w : Int64} {σ : ST} (h : LQ u w σ) : LQ u w (fX3_empty_0 σ) := lqb_fX3_empty_0b0 h
theorem lqb_fX3_take_0b19 {u w : Int64}  {σ : ST} (h_σ : LQ u w σ) : LQ u w (fX3_take_0b19 σ) := by
  unfold fX3_take_0b19
  exact h_σ
theorem lqb_fX3_take_0b150 {u w : Int64}  {σ : ST} (h_σ : LQ u w σ) : LQ u w (fX3_take_0b150 σ) := by
  unfold fX3_take_0b150
  refine lqbd fun v152 _ => ?_
  refine lqbd fun v156 _ => ?_
  refine lqbd fun s157 e_s157 => ?_
  have h_s157 : LQ u w s157 := by rw [e_s157]; exact h_σ
  exact h_s157
theorem lqb_fX3_take_0b137 {u w : Int64} {K22 : Int32 → Int32 → ST → ST} (hK22 : ∀ (q0 : Int32) (q1 : Int32) (τ : ST), LQ u w τ → LQ u w (K22 q0 q1 τ)) {l2 : Int32} {l3 : Int32} {l4 : Nat} {l5 : Int32} {l6 : Int32} {σ : ST} (h_σ : LQ u w σ) : LQ u w (fX3_take_0b137 K22 l2 l3 l4 l5 l6 σ) := by
  unfold fX3_take_0b137
  refine lqbd fun s143 e_s143 => ?_
  have h_s143 : LQ u w s143 := by rw [e_s143]; exact h_σ
  refine lqbd fun v144 _ => ?_
  exact hK22 _ _ _ h_s143
theorem lqb_fX3_take_0b119 {u w : Int64} {K22 : Int32 → Int32 → ST → ST} (hK22 : ∀ (q0 : Int32) (q1 : Int32) (τ : ST), LQ u w τ → LQ u w (K22 q0 q1 τ)) {K102 : Int32 → Int32 → Nat → Int32 → Int32 → ST → ST} (hK102 : ∀ (q0 : Int32) (q1 : Int32) (q2 : Nat) (q3 : Int32) (q4 : Int32) (τ : ST), LQ u w τ → LQ u w (K102 q0 q1 q2 q3 q4 τ)) {l2 : Int32} {l3 : Int32} {l4 : Nat} {l5 : Int32} {l6 : Int32} {σ : ST} (h_σ : LQ u w σ) : LQ u w (fX3_take_0b119 K22 K102 l2 l3 l4 l5 l6 σ) := by
  unfold fX3_take_0b119
  refine lqbd fun v128 _ => ?_
  refine lqbd fun v129 _ => ?_
  refine lqbd fun s130 e_s130 => ?_
  have h_s130 : LQ u w s130 := by rw [e_s130]; exact h_σ
  refine lqbd fun v131 _ => ?_
  exact hK102 _ _ _ _ _ _ h_s130
theorem lqb_fX3_take_0b107 {u w : Int64} {K22 : Int32 → Int32 → ST → ST} (hK22 : ∀ (q0 : Int32) (q1 : Int32) (τ : ST), LQ u w τ → LQ u w (K22 q0 q1 τ)) {K102 : Int32 → Int32 → Nat → Int32 → Int32 → ST → ST} (hK102 : ∀ (q0 : Int32) (q1 : Int32) (q2 : Nat) (q3 : Int32) (q4 : Int32) (τ : ST), LQ u w τ → LQ u w (K102 q0 q1 q2 q3 q4 τ)) {l2 : Int32} {l3 : Int32} {l4 : Nat} {l5 : Int32} {l6 : Int32} {σ : ST} (h_σ : LQ u w σ) : LQ u w (fX3_take_0b107 K22 K102 l2 l3 l4 l5 l6 σ) := by
  unfold fX3_take_0b107
  refine lqbd fun v112 _ => ?_
  refine lqbd fun v113 _ => ?_
  exact lqite (lqb_fX3_take_0b137 hK22 h_σ) (lqb_fX3_take_0b119 hK22 hK102 h_σ)
theorem lqb_fX3_take_0b102 {u w : Int64} {K22 : Int32 → Int32 → ST → ST} (hK22 : ∀ (q0 : Int32) (q1 : Int32) (τ : ST), LQ u w τ → LQ u w (K22 q0 q1 τ)) {K102 : Int32 → Int32 → Nat → Int32 → Int32 → ST → ST} (hK102 : ∀ (q0 : Int32) (q1 : Int32) (q2 : Nat) (q3 : Int32) (q4 : Int32) (τ : ST), LQ u w τ → LQ u w (K102 q0 q1 q2 q3 q4 τ)) {l2 : Int32} {l3 : Int32} {l4 : Nat} {l5 : Int32} {l6 : Int32} {σ : ST} (h_σ : LQ u w σ) : LQ u w (fX3_take_0b102 K22 K102 l2 l3 l4 l5 l6 σ) := by
  unfold fX3_take_0b102
  exact lqite (lqb_fX3_take_0b137 hK22 h_σ) (lqb_fX3_take_0b107 hK22 hK102 h_σ)
theorem lqb_fX3_take_0l102 {u w : Int64} {K22 : Int32 → Int32 → ST → ST} (hK22 : ∀ (q0 : Int32) (q1 : Int32) (τ : ST), LQ u w τ → LQ u w (K22 q0 q1 τ)) : ∀ (fu : Nat) {q0 : Int32} {q1 : Int32} {q2 : Nat} {q3 : Int32} {q4 : Int32} {τ : ST} (h : LQ u w τ), LQ u w (fX3_take_0l102 K22 fu q0 q1 q2 q3 q4 τ)
  | 0, _, _, _, _, _, _, h => h
  | fu + 1, _, _, _, _, _, _, h => lqb_fX3_take_0b102 hK22 (fun _ _ _ _ _ _ q => lqb_fX3_take_0l102 hK22 fu q) h
theorem lqb_fX3_take_0b96 {u w : Int64} {K22 : Int32 → Int32 → ST → ST} (hK22 : ∀ (q0 : Int32) (q1 : Int32) (τ : ST), LQ u w τ → LQ u w (K22 q0 q1 τ)) {l2 : Int32} {l3 : Int32} {l4 : Nat} {l5 : Int32} {σ : ST} (h_σ : LQ u w σ) : LQ u w (fX3_take_0b96 K22 l2 l3 l4 l5 σ) := by
  unfold fX3_take_0b96
  refine lqbd fun v97 _ => ?_
  exact lqb_fX3_take_0l102 hK22 _ h_σ
theorem lqb_fX3_take_0b54 {u w : Int64} {K22 : Int32 → Int32 → ST → ST} (hK22 : ∀ (q0 : Int32) (q1 : Int32) (τ : ST), LQ u w τ → LQ u w (K22 q0 q1 τ)) {l2 : Int32} {l3 : Int32} {l4 : Nat} {l5 : Int32} {σ : ST} (h_σ : LQ u w σ) : LQ u w (fX3_take_0b54 K22 l2 l3 l4 l5 σ) := by
  unfold fX3_take_0b54
  refine lqbd fun v56 _ => ?_
  refine lqbd fun v63 _ => ?_
  refine lqbd fun v67 _ => ?_
  refine lqbd fun v69 _ => ?_
  refine lqbd fun v70 _ => ?_
  refine lqbd fun v73 _ => ?_
  refine lqbd fun v79 _ => ?_
  refine lqbd fun v83 _ => ?_
  refine lqbd fun v84 _ => ?_
  refine lqbd fun v85 _ => ?_
  refine lqbd fun v86 _ => ?_
  refine lqbd fun v89 _ => ?_
  refine lqbd fun v92 _ => ?_
  refine lqbd fun s93 e_s93 => ?_
  have h_s93 : LQ u w s93 := by rw [e_s93]; exact h_σ
  exact lqb_fX3_take_0b96 hK22 h_s93
theorem lqb_fX3_take_0b27 {u w : Int64} {K22 : Int32 → Int32 → ST → ST} (hK22 : ∀ (q0 : Int32) (q1 : Int32) (τ : ST), LQ u w τ → LQ u w (K22 q0 q1 τ)) {l2 : Int32} {l3 : Int32} {σ : ST} (h_σ : LQ u w σ) : LQ u w (fX3_take_0b27 K22 l2 l3 σ) := by
  unfold fX3_take_0b27
  refine lqbd fun v32 _ => ?_
  refine lqbd fun v41 _ => ?_
  refine lqbd fun v43 _ => ?_
  refine lqbd fun v44 _ => ?_
  refine lqbd fun v48 _ => ?_
  exact lqite (lqb_fX3_take_0b96 hK22 h_σ) (lqb_fX3_take_0b54 hK22 h_σ)
theorem lqb_fX3_take_0b22 {u w : Int64} {K22 : Int32 → Int32 → ST → ST} (hK22 : ∀ (q0 : Int32) (q1 : Int32) (τ : ST), LQ u w τ → LQ u w (K22 q0 q1 τ)) {l2 : Int32} {l3 : Int32} {σ : ST} (h_σ : LQ u w σ) : LQ u w (fX3_take_0b22 K22 l2 l3 σ) := by
  unfold fX3_take_0b22
  exact lqite (lqb_fX3_take_0b150  h_σ) (lqb_fX3_take_0b27 hK22 h_σ)
theorem lqb_fX3_take_0l22 {u w : Int64}  : ∀ (fu : Nat) {q0 : Int32} {q1 : Int32} {τ : ST} (h : LQ u w τ), LQ u w (fX3_take_0l22 fu q0 q1 τ)
  | 0, _, _, _, h => h
  | fu + 1, _, _, _, h => lqb_fX3_take_0b22 (fun _ _ _ q => lqb_fX3_take_0l22  fu q) h
theorem lqb_fX3_take_0b20 {u w : Int64}  {l2 : Int32} {σ : ST} (h_σ : LQ u w σ) : LQ u w (fX3_take_0b20 l2 σ) := by
  unfold fX3_take_0b20
  exact lqb_fX3_take_0l22  _ h_σ
theorem lqb_fX3_take_0b13 {u w : Int64}  {l2 : Int32} {σ : ST} (h_σ : LQ u w σ) : LQ u w (fX3_take_0b13 l2 σ) := by
  unfold fX3_take_0b13
  exact lqite (lqb_fX3_take_0b20  h_σ) (lqb_fX3_take_0b19  h_σ)
theorem lqb_fX3_take_0b9 {u w : Int64}  {l2 : Int32} {σ : ST} (h_σ : LQ u w σ) : LQ u w (fX3_take_0b9 l2 σ) := by
  unfold fX3_take_0b9
  exact lqite (lqb_fX3_take_0b19  h_σ) (lqb_fX3_take_0b13  h_σ)
theorem lqb_fX3_take_0b0 {u w : Int64}  {l2 : Int32} {σ : ST} (h_σ : LQ u w σ) : LQ u w (fX3_take_0b0 l2 σ) := by
  unfold fX3_take_0b0
  refine lqbd fun v1 _ => ?_
  exact lqite (lqb_fX3_take_0b19  h_σ) (lqb_fX3_take_0b9  h_σ)
theorem lq_fX3_take_0 {u w : Int64} {p2 : Int32} {σ : ST} (h : LQ u w σ) : LQ u w (fX3_take_0 p2 σ) := lqb_fX3_take_0b0 h
theorem lqb_fX2_findCosts_0b117 {u w : Int64}  {σ : ST} (h_σ : LQ u w σ) : LQ u w (fX2_findCosts_0b117 σ) := by
  unfold fX2_findCosts_0b117
  exact h_σ
theorem lqb_fX2_findCosts_0b111 {u w : Int64} {K14 : Int32 → Int32 → Int32 → Int32 → ST → ST} (hK14 : ∀ (q0 : Int32) (q1 : Int32) (q2 : Int32) (q3 : Int32) (τ : ST), LQ u w τ → LQ u w (K14 q0 q1 q2 q3 τ)) {l3 : Int32} {l4 : Int32} {l5 : Int32} {l6 : Int32} {σ : ST} (h_σ : LQ u w σ) : LQ u w (fX2_findCosts_0b111 K14 l3 l4 l5 l6 σ) := by
  unfold fX2_findCosts_0b111
  refine lqbd fun v111 _ => ?_
  exact hK14 _ _ _ _ _ h_σ
theorem lqb_fX2_findCosts_0b105 {u w : Int64} {K14 : Int32 → Int32 → Int32 → Int32 → ST → ST} (hK14 : ∀ (q0 : Int32) (q1 : Int32) (q2 : Int32) (q3 : Int32) (τ : ST), LQ u w τ → LQ u w (K14 q0 q1 q2 q3 τ)) {K38 : Int32 → Int32 → Int32 → Int32 → Int32 → ST → ST} (hK38 : ∀ (q0 : Int32) (q1 : Int32) (q2 : Int32) (q3 : Int32) (q4 : Int32) (τ : ST), LQ u w τ → LQ u w (K38 q0 q1 q2 q3 q4 τ)) {l3 : Int32} {l4 : Int32} {l5 : Int32} {l6 : Int32} {l7 : Int32} {σ : ST} (h_σ : LQ u w σ) : LQ u w (fX2_findCosts_0b105 K14 K38 l3 l4 l5 l6 l7 σ) := by
  unfold fX2_findCosts_0b105
  refine lqbd fun v105 _ => ?_
  exact hK38 _ _ _ _ _ _ h_σ
theorem lqb_fX2_findCosts_0b82 {u w : Int64} {K14 : Int32 → Int32 → Int32 → Int32 → ST → ST} (hK14 : ∀ (q0 : Int32) (q1 : Int32) (q2 : Int32) (q3 : Int32) (τ : ST), LQ u w τ → LQ u w (K14 q0 q1 q2 q3 τ)) {K38 : Int32 → Int32 → Int32 → Int32 → Int32 → ST → ST} (hK38 : ∀ (q0 : Int32) (q1 : Int32) (q2 : Int32) (q3 : Int32) (q4 : Int32) (τ : ST), LQ u w τ → LQ u w (K38 q0 q1 q2 q3 q4 τ)) {l3 : Int32} {l4 : Int32} {l5 : Int32} {l6 : Int32} {l7 : Int32} {l8 : Int32} {σ : ST} (h_σ : LQ u w σ) : LQ u w (fX2_findCosts_0b82 K14 K38 l3 l4 l5 l6 l7 l8 σ) := by
  unfold fX2_findCosts_0b82
  refine lqbd fun s90 e_s90 => ?_
  have h_s90 : LQ u w s90 := by rw [e_s90]; exact h_σ
  refine lqbd fun v101 _ => ?_
  refine lqbd fun v103 _ => ?_
  refine lqbd fun s104 e_s104 => ?_
  have h_s104 : LQ u w s104 := by rw [e_s104]; exact h_s90
  exact lqb_fX2_findCosts_0b105 hK14 hK38 h_s104
theorem lqb_fX2_findCosts_0b45 {u w : Int64} {K14 : Int32 → Int32 → Int32 → Int32 → ST → ST} (hK14 : ∀ (q0 : Int32) (q1 : Int32) (q2 : Int32) (q3 : Int32) (τ : ST), LQ u w τ → LQ u w (K14 q0 q1 q2 q3 τ)) {K38 : Int32 → Int32 → Int32 → Int32 → Int32 → ST → ST} (hK38 : ∀ (q0 : Int32) (q1 : Int32) (q2 : Int32) (q3 : Int32) (q4 : Int32) (τ : ST), LQ u w τ → LQ u w (K38 q0 q1 q2 q3 q4 τ)) {l3 : Int32} {l4 : Int32} {l5 : Int32} {l6 : Int32} {l7 : Int32} {σ : ST} (h_σ : LQ u w σ) : LQ u w (fX2_findCosts_0b45 K14 K38 l3 l4 l5 l6 l7 σ) := by
  unfold fX2_findCosts_0b45
  refine lqbd fun s49 e_s49 => ?_
  have h_s49 : LQ u w s49 := by rw [e_s49]; exact lq_fX3_take_0 h_σ
  refine lqbd fun v53 _ => ?_
  refine lqbd fun v57 _ => ?_
  refine lqbd fun v65 _ => ?_
  refine lqbd fun v66 _ => ?_
  refine lqbd fun v67 _ => ?_
  refine lqbd fun v78 _ => ?_
  exact lqite (lqb_fX2_findCosts_0b105 hK14 hK38 h_s49) (lqb_fX2_findCosts_0b82 hK14 hK38 h_s49)
theorem lqb_fX2_findCosts_0b38 {u w : Int64} {K14 : Int32 → Int32 → Int32 → Int32 → ST → ST} (hK14 : ∀ (q0 : Int32) (q1 : Int32) (q2 : Int32) (q3 : Int32) (τ : ST), LQ u w τ → LQ u w (K14 q0 q1 q2 q3 τ)) {K38 : Int32 → Int32 → Int32 → Int32 → Int32 → ST → ST} (hK38 : ∀ (q0 : Int32) (q1 : Int32) (q2 : Int32) (q3 : Int32) (q4 : Int32) (τ : ST), LQ u w τ → LQ u w (K38 q0 q1 q2 q3 q4 τ)) {l3 : Int32} {l4 : Int32} {l5 : Int32} {l6 : Int32} {l7 : Int32} {σ : ST} (h_σ : LQ u w σ) : LQ u w (fX2_findCosts_0b38 K14 K38 l3 l4 l5 l6 l7 σ) := by
  unfold fX2_findCosts_0b38
  exact lqite (lqb_fX2_findCosts_0b111 hK14 h_σ) (lqb_fX2_findCosts_0b45 hK14 hK38 h_σ)
theorem lqb_fX2_findCosts_0l38 {u w : Int64} {K14 : Int32 → Int32 → Int32 → Int32 → ST → ST} (hK14 : ∀ (q0 : Int32) (q1 : Int32) (q2 : Int32) (q3 : Int32) (τ : ST), LQ u w τ → LQ u w (K14 q0 q1 q2 q3 τ)) : ∀ (fu : Nat) {q0 : Int32} {q1 : Int32} {q2 : Int32} {q3 : Int32} {q4 : Int32} {τ : ST} (h : LQ u w τ), LQ u w (fX2_findCosts_0l38 K14 fu q0 q1 q2 q3 q4 τ)
  | 0, _, _, _, _, _, _, h => h
  | fu + 1, _, _, _, _, _, _, h => lqb_fX2_findCosts_0b38 hK14 (fun _ _ _ _ _ _ q => lqb_fX2_findCosts_0l38 hK14 fu q) h
theorem lqb_fX2_findCosts_0b21 {u w : Int64} {K14 : Int32 → Int32 → Int32 → Int32 → ST → ST} (hK14 : ∀ (q0 : Int32) (q1 : Int32) (q2 : Int32) (q3 : Int32) (τ : ST), LQ u w τ → LQ u w (K14 q0 q1 q2 q3 τ)) {l3 : Int32} {l4 : Int32} {l5 : Int32} {l6 : Int32} {σ : ST} (h_σ : LQ u w σ) : LQ u w (fX2_findCosts_0b21 K14 l3 l4 l5 l6 σ) := by
  unfold fX2_findCosts_0b21
  refine lqbd fun s22 e_s22 => ?_
  have h_s22 : LQ u w s22 := by rw [e_s22]; exact lq_fX3_empty_0 h_σ
  refine lqbd fun s33 e_s33 => ?_
  have h_s33 : LQ u w s33 := by rw [e_s33]; exact h_s22
  exact lqb_fX2_findCosts_0l38 hK14 _ h_s33
theorem lqb_fX2_findCosts_0b14 {u w : Int64} {K14 : Int32 → Int32 → Int32 → Int32 → ST → ST} (hK14 : ∀ (q0 : Int32) (q1 : Int32) (q2 : Int32) (q3 : Int32) (τ : ST), LQ u w τ → LQ u w (K14 q0 q1 q2 q3 τ)) {l3 : Int32} {l4 : Int32} {l5 : Int32} {l6 : Int32} {σ : ST} (h_σ : LQ u w σ) : LQ u w (fX2_findCosts_0b14 K14 l3 l4 l5 l6 σ) := by
  unfold fX2_findCosts_0b14
  exact lqite (lqb_fX2_findCosts_0b117  h_σ) (lqb_fX2_findCosts_0b21 hK14 h_σ)
theorem lqb_fX2_findCosts_0l14 {u w : Int64}  : ∀ (fu : Nat) {q0 : Int32} {q1 : Int32} {q2 : Int32} {q3 : Int32} {τ : ST} (h : LQ u w τ), LQ u w (fX2_findCosts_0l14 fu q0 q1 q2 q3 τ)
  | 0, _, _, _, _, _, h => h
  | fu + 1, _, _, _, _, _, h => lqb_fX2_findCosts_0b14 (fun _ _ _ _ _ q => lqb_fX2_findCosts_0l14  fu q) h
theorem lqb_fX2_findCosts_0b0 {u w : Int64}  {l3 : Int32} {l4 : Int32} {l5 : Int32} {σ : ST} (h_σ : LQ u w σ) : LQ u w (fX2_findCosts_0b0 l3 l4 l5 σ) := by
  unfold fX2_findCosts_0b0
  refine lqbd fun s7 e_s7 => ?_
  have h_s7 : LQ u w s7 := by rw [e_s7]; exact h_σ
  refine lqbd fun v11 _ => ?_
  exact lqb_fX2_findCosts_0l14  _ h_s7
theorem lq_fX2_findCosts_0 {u w : Int64} {p3 : Int32} {p4 : Int32} {p5 : Int32} {σ : ST} (h : LQ u w σ) : LQ u w (fX2_findCosts_0 p3 p4 p5 σ) := lqb_fX2_findCosts_0b0 h
theorem lqb_fX3_writeMiddle_0b19 {u w : Int64}  {σ : ST} (h_σ : LQ u w σ) : LQ u w (fX3_writeMiddle_0b19 σ) := by
  unfold fX3_writeMiddle_0b19
  exact h_σ
theorem lqb_fX3_writeMiddle_0b53 {u w : Int64}  {σ : ST} (h_σ : LQ u w σ) : LQ u w (fX3_writeMiddle_0b53 σ) := by
  unfold fX3_writeMiddle_0b53
  exact h_σ
theorem lqb_fX3_writeMiddle_0b27 {u w : Int64} {K22 : Int32 → Int32 → ST → ST} (hK22 : ∀ (q0 : Int32) (q1 : Int32) (τ : ST), LQ u w τ → LQ u w (K22 q0 q1 τ)) {l2 : Int32} {l3 : Int32} {σ : ST} (h_σ : LQ u w σ) : LQ u w (fX3_writeMiddle_0b27 K22 l2 l3 σ) := by
  unfold fX3_writeMiddle_0b27
  refine lqbd fun v30 _ => ?_
  refine lqbd fun v36 _ => ?_
  refine lqbd fun v38 _ => ?_
  refine lqbd fun v42 _ => ?_
  refine lqbd fun v44 _ => ?_
  refine lqbd fun v45 _ => ?_
  refine lqbd fun s46 e_s46 => ?_
  have h_s46 : LQ u w s46 := by rw [e_s46]; exact h_σ
  refine lqbd fun v47 _ => ?_
  exact hK22 _ _ _ h_s46
theorem lqb_fX3_writeMiddle_0b22 {u w : Int64} {K22 : Int32 → Int32 → ST → ST} (hK22 : ∀ (q0 : Int32) (q1 : Int32) (τ : ST), LQ u w τ → LQ u w (K22 q0 q1 τ)) {l2 : Int32} {l3 : Int32} {σ : ST} (h_σ : LQ u w σ) : LQ u w (fX3_writeMiddle_0b22 K22 l2 l3 σ) := by
  unfold fX3_writeMiddle_0b22
  exact lqite (lqb_fX3_writeMiddle_0b53  h_σ) (lqb_fX3_writeMiddle_0b27 hK22 h_σ)
theorem lqb_fX3_writeMiddle_0l22 {u w : Int64}  : ∀ (fu : Nat) {q0 : Int32} {q1 : Int32} {τ : ST} (h : LQ u w τ), LQ u w (fX3_writeMiddle_0l22 fu q0 q1 τ)
  | 0, _, _, _, h => h
  | fu + 1, _, _, _, h => lqb_fX3_writeMiddle_0b22 (fun _ _ _ q => lqb_fX3_writeMiddle_0l22  fu q) h
theorem lqb_fX3_writeMiddle_0b20 {u w : Int64}  {l2 : Int32} {σ : ST} (h_σ : LQ u w σ) : LQ u w (fX3_writeMiddle_0b20 l2 σ) := by
  unfold fX3_writeMiddle_0b20
  exact lqb_fX3_writeMiddle_0l22  _ h_σ
theorem lqb_fX3_writeMiddle_0b11 {u w : Int64}  {l2 : Int32} {σ : ST} (h_σ : LQ u w σ) : LQ u w (fX3_writeMiddle_0b11 l2 σ) := by
  unfold fX3_writeMiddle_0b11
  refine lqbd fun v15 _ => ?_
  exact lqite (lqb_fX3_writeMiddle_0b20  h_σ) (lqb_fX3_writeMiddle_0b19  h_σ)
theorem lqb_fX3_writeMiddle_0b7 {u w : Int64}  {l2 : Int32} {σ : ST} (h_σ : LQ u w σ) : LQ u w (fX3_writeMiddle_0b7 l2 σ) := by
  unfold fX3_writeMiddle_0b7
  exact lqite (lqb_fX3_writeMiddle_0b19  h_σ) (lqb_fX3_writeMiddle_0b11  h_σ)
theorem lqb_fX3_writeMiddle_0b0 {u w : Int64}  {l2 : Int32} {σ : ST} (h_σ : LQ u w σ) : LQ u w (fX3_writeMiddle_0b0 l2 σ) := by
  unfold fX3_writeMiddle_0b0
  refine lqbd fun v1 _ => ?_
  exact lqite (lqb_fX3_writeMiddle_0b19  h_σ) (lqb_fX3_writeMiddle_0b7  h_σ)
theorem lq_fX3_writeMiddle_0 {u w : Int64} {p2 : Int32} {σ : ST} (h : LQ u w σ) : LQ u w (fX3_writeMiddle_0 p2 σ) := lqb_fX3_writeMiddle_0b0 h
theorem lqb_fX2_addPieces_0b161 {u w : Int64}  {σ : ST} (h_σ : LQ u w σ) : LQ u w (fX2_addPieces_0b161 σ) := by
  unfold fX2_addPieces_0b161
  exact h_σ
theorem lqb_fX2_addPieces_0b79 {u w : Int64} {K3 : Int32 → Int32 → ST → ST} (hK3 : ∀ (q0 : Int32) (q1 : Int32) (τ : ST), LQ u w τ → LQ u w (K3 q0 q1 τ)) {l4 : Int32} {l5 : Int32} {l6 : Int32} {σ : ST} (h_σ : LQ u w σ) : LQ u w (fX2_addPieces_0b79 K3 l4 l5 l6 σ) := by
  unfold fX2_addPieces_0b79
  refine lqbd fun v84 _ => ?_
  refine lqbd fun s89 e_s89 => ?_
  have h_s89 : LQ u w s89 := by rw [e_s89]; exact h_σ
  refine lqbd fun v95 _ => ?_
  refine lqbd fun v102 _ => ?_
  refine lqbd fun s103 e_s103 => ?_
  have h_s103 : LQ u w s103 := by rw [e_s103]; exact h_s89
  refine lqbd fun v109 _ => ?_
  refine lqbd fun v113 _ => ?_
  refine lqbd fun s116 e_s116 => ?_
  have h_s116 : LQ u w s116 := by rw [e_s116]; exact h_s103
  refine lqbd fun v122 _ => ?_
  refine lqbd fun v126 _ => ?_
  refine lqbd fun s129 e_s129 => ?_
  have h_s129 : LQ u w s129 := by rw [e_s129]; exact h_s116
  refine lqbd fun v136 _ => ?_
  refine lqbd fun v140 _ => ?_
  refine lqbd fun s141 e_s141 => ?_
  have h_s141 : LQ u w s141 := by rw [e_s141]; exact lq_fX3_writeMiddle_0 h_s129
  refine lqbd fun v146 _ => ?_
  refine lqbd fun v150 _ => ?_
  refine lqbd fun s151 e_s151 => ?_
  have h_s151 : LQ u w s151 := by rw [e_s151]; exact h_s141
  exact hK3 _ _ _ h_s151
theorem lqb_fX2_addPieces_0b55 {u w : Int64} {K3 : Int32 → Int32 → ST → ST} (hK3 : ∀ (q0 : Int32) (q1 : Int32) (τ : ST), LQ u w τ → LQ u w (K3 q0 q1 τ)) {K48 : Int32 → Int32 → Int32 → Int32 → ST → ST} (hK48 : ∀ (q0 : Int32) (q1 : Int32) (q2 : Int32) (q3 : Int32) (τ : ST), LQ u w τ → LQ u w (K48 q0 q1 q2 q3 τ)) {l4 : Int32} {l5 : Int32} {l6 : Int32} {l7 : Int32} {σ : ST} (h_σ : LQ u w σ) : LQ u w (fX2_addPieces_0b55 K3 K48 l4 l5 l6 l7 σ) := by
  unfold fX2_addPieces_0b55
  refine lqbd fun s59 e_s59 => ?_
  have h_s59 : LQ u w s59 := by rw [e_s59]; exact lq_fX3_take_0 h_σ
  refine lqbd fun v69 _ => ?_
  refine lqbd fun s72 e_s72 => ?_
  have h_s72 : LQ u w s72 := by rw [e_s72]; exact h_s59
  refine lqbd fun v73 _ => ?_
  exact hK48 _ _ _ _ _ h_s72
theorem lqb_fX2_addPieces_0b48 {u w : Int64} {K3 : Int32 → Int32 → ST → ST} (hK3 : ∀ (q0 : Int32) (q1 : Int32) (τ : ST), LQ u w τ → LQ u w (K3 q0 q1 τ)) {K48 : Int32 → Int32 → Int32 → Int32 → ST → ST} (hK48 : ∀ (q0 : Int32) (q1 : Int32) (q2 : Int32) (q3 : Int32) (τ : ST), LQ u w τ → LQ u w (K48 q0 q1 q2 q3 τ)) {l4 : Int32} {l5 : Int32} {l6 : Int32} {l7 : Int32} {σ : ST} (h_σ : LQ u w σ) : LQ u w (fX2_addPieces_0b48 K3 K48 l4 l5 l6 l7 σ) := by
  unfold fX2_addPieces_0b48
  exact lqite (lqb_fX2_addPieces_0b79 hK3 h_σ) (lqb_fX2_addPieces_0b55 hK3 hK48 h_σ)
theorem lqb_fX2_addPieces_0l48 {u w : Int64} {K3 : Int32 → Int32 → ST → ST} (hK3 : ∀ (q0 : Int32) (q1 : Int32) (τ : ST), LQ u w τ → LQ u w (K3 q0 q1 τ)) : ∀ (fu : Nat) {q0 : Int32} {q1 : Int32} {q2 : Int32} {q3 : Int32} {τ : ST} (h : LQ u w τ), LQ u w (fX2_addPieces_0l48 K3 fu q0 q1 q2 q3 τ)
  | 0, _, _, _, _, _, h => h
  | fu + 1, _, _, _, _, _, h => lqb_fX2_addPieces_0b48 hK3 (fun _ _ _ _ _ q => lqb_fX2_addPieces_0l48 hK3 fu q) h
theorem lqb_fX2_addPieces_0b19 {u w : Int64} {K3 : Int32 → Int32 → ST → ST} (hK3 : ∀ (q0 : Int32) (q1 : Int32) (τ : ST), LQ u w τ → LQ u w (K3 q0 q1 τ)) {l4 : Int32} {l5 : Int32} {σ : ST} (h_σ : LQ u w σ) : LQ u w (fX2_addPieces_0b19 K3 l4 l5 σ) := by
  unfold fX2_addPieces_0b19
  refine lqbd fun v30 _ => ?_
  refine lqbd fun v31 _ => ?_
  refine lqbd fun v34 _ => ?_
  refine lqbd fun v35 _ => ?_
  refine lqbd fun s41 e_s41 => ?_
  have h_s41 : LQ u w s41 := by rw [e_s41]; exact lq_fX3_empty_0 h_σ
  exact lqb_fX2_addPieces_0l48 hK3 _ h_s41
theorem lqb_fX2_addPieces_0b10 {u w : Int64} {K3 : Int32 → Int32 → ST → ST} (hK3 : ∀ (q0 : Int32) (q1 : Int32) (τ : ST), LQ u w τ → LQ u w (K3 q0 q1 τ)) {l4 : Int32} {l5 : Int32} {σ : ST} (h_σ : LQ u w σ) : LQ u w (fX2_addPieces_0b10 K3 l4 l5 σ) := by
  unfold fX2_addPieces_0b10
  refine lqbd fun v11 _ => ?_
  exact lqite (lqb_fX2_addPieces_0b161  h_σ) (lqb_fX2_addPieces_0b19 hK3 h_σ)
theorem lqb_fX2_addPieces_0b3 {u w : Int64} {K3 : Int32 → Int32 → ST → ST} (hK3 : ∀ (q0 : Int32) (q1 : Int32) (τ : ST), LQ u w τ → LQ u w (K3 q0 q1 τ)) {l4 : Int32} {l5 : Int32} {σ : ST} (h_σ : LQ u w σ) : LQ u w (fX2_addPieces_0b3 K3 l4 l5 σ) := by
  unfold fX2_addPieces_0b3
  exact lqite (lqb_fX2_addPieces_0b161  h_σ) (lqb_fX2_addPieces_0b10 hK3 h_σ)
theorem lqb_fX2_addPieces_0l3 {u w : Int64}  : ∀ (fu : Nat) {q0 : Int32} {q1 : Int32} {τ : ST} (h : LQ u w τ), LQ u w (fX2_addPieces_0l3 fu q0 q1 τ)
  | 0, _, _, _, h => h
  | fu + 1, _, _, _, h => lqb_fX2_addPieces_0b3 (fun _ _ _ q => lqb_fX2_addPieces_0l3  fu q) h
theorem lqb_fX2_addPieces_0b0 {u w : Int64}  {l3 : Int32} {l4 : Int32} {σ : ST} (h_σ : LQ u w σ) : LQ u w (fX2_addPieces_0b0 l3 l4 σ) := by
  unfold fX2_addPieces_0b0
  exact lqb_fX2_addPieces_0l3  _ h_σ
theorem lq_fX2_addPieces_0 {u w : Int64} {p3 : Int32} {p4 : Int32} {σ : ST} (h : LQ u w σ) : LQ u w (fX2_addPieces_0 p3 p4 σ) := lqb_fX2_addPieces_0b0 h
theorem lqb_fX2_cut_0b148 {u w : Int64}  {σ : ST} (h_σ : LQ u w σ) : LQ u w (fX2_cut_0b148 σ) := by
  unfold fX2_cut_0b148
  exact h_σ
theorem lqb_fX2_cut_0b139 {u w : Int64} {K32 : Int32 → Int32 → Int32 → ST → ST} (hK32 : ∀ (q0 : Int32) (q1 : Int32) (q2 : Int32) (τ : ST), LQ u w τ → LQ u w (K32 q0 q1 q2 τ)) {l3 : Int32} {l4 : Int32} {l6 : Int32} {σ : ST} (h_σ : LQ u w σ) : LQ u w (fX2_cut_0b139 K32 l3 l4 l6 σ) := by
  unfold fX2_cut_0b139
  refine lqbd fun v142 _ => ?_
  exact hK32 _ _ _ _ h_σ
theorem lqb_fX2_cut_0b78 {u w : Int64} {K32 : Int32 → Int32 → Int32 → ST → ST} (hK32 : ∀ (q0 : Int32) (q1 : Int32) (q2 : Int32) (τ : ST), LQ u w τ → LQ u w (K32 q0 q1 q2 τ)) {l3 : Int32} {l4 : Int32} {l5 : Int32} {l6 : Int32} {σ : ST} (h_σ : LQ u w σ) : LQ u w (fX2_cut_0b78 K32 l3 l4 l5 l6 σ) := by
  unfold fX2_cut_0b78
  refine lqbd fun s86 e_s86 => ?_
  have h_s86 : LQ u w s86 := by rw [e_s86]; exact lq_fX2_findCosts_0 h_σ
  refine lqbd fun s96 e_s96 => ?_
  have h_s96 : LQ u w s96 := by rw [e_s96]; exact lq_fX2_addPieces_0 h_s86
  refine lqbd fun v101 _ => ?_
  refine lqbd fun v110 _ => ?_
  refine lqbd fun v111 _ => ?_
  refine lqbd fun s112 e_s112 => ?_
  have h_s112 : LQ u w s112 := by rw [e_s112]; exact h_s96
  refine lqbd fun v117 _ => ?_
  refine lqbd fun v124 _ => ?_
  refine lqbd fun v125 _ => ?_
  refine lqbd fun s126 e_s126 => ?_
  have h_s126 : LQ u w s126 := by rw [e_s126]; exact h_s112
  refine lqbd fun v131 _ => ?_
  refine lqbd fun v135 _ => ?_
  refine lqbd fun s136 e_s136 => ?_
  have h_s136 : LQ u w s136 := by rw [e_s136]; exact h_s126
  exact lqb_fX2_cut_0b139 hK32 h_s136
theorem lqb_fX2_cut_0b71 {u w : Int64} {K32 : Int32 → Int32 → Int32 → ST → ST} (hK32 : ∀ (q0 : Int32) (q1 : Int32) (q2 : Int32) (τ : ST), LQ u w τ → LQ u w (K32 q0 q1 q2 τ)) {l3 : Int32} {l4 : Int32} {l5 : Int32} {l6 : Int32} {σ : ST} (h_σ : LQ u w σ) : LQ u w (fX2_cut_0b71 K32 l3 l4 l5 l6 σ) := by
  unfold fX2_cut_0b71
  exact lqite (lqb_fX2_cut_0b139 hK32 h_σ) (lqb_fX2_cut_0b78 hK32 h_σ)
theorem lqb_fX2_cut_0b65 {u w : Int64} {K32 : Int32 → Int32 → Int32 → ST → ST} (hK32 : ∀ (q0 : Int32) (q1 : Int32) (q2 : Int32) (τ : ST), LQ u w τ → LQ u w (K32 q0 q1 q2 τ)) {K45 : Int32 → Int32 → Int32 → Int32 → ST → ST} (hK45 : ∀ (q0 : Int32) (q1 : Int32) (q2 : Int32) (q3 : Int32) (τ : ST), LQ u w τ → LQ u w (K45 q0 q1 q2 q3 τ)) {l3 : Int32} {l4 : Int32} {l5 : Int32} {l6 : Int32} {σ : ST} (h_σ : LQ u w σ) : LQ u w (fX2_cut_0b65 K32 K45 l3 l4 l5 l6 σ) := by
  unfold fX2_cut_0b65
  refine lqbd fun v65 _ => ?_
  exact hK45 _ _ _ _ _ h_σ
theorem lqb_fX2_cut_0b54 {u w : Int64} {K32 : Int32 → Int32 → Int32 → ST → ST} (hK32 : ∀ (q0 : Int32) (q1 : Int32) (q2 : Int32) (τ : ST), LQ u w τ → LQ u w (K32 q0 q1 q2 τ)) {K45 : Int32 → Int32 → Int32 → Int32 → ST → ST} (hK45 : ∀ (q0 : Int32) (q1 : Int32) (q2 : Int32) (q3 : Int32) (τ : ST), LQ u w τ → LQ u w (K45 q0 q1 q2 q3 τ)) {l3 : Int32} {l4 : Int32} {l5 : Int32} {l6 : Int32} {σ : ST} (h_σ : LQ u w σ) : LQ u w (fX2_cut_0b54 K32 K45 l3 l4 l5 l6 σ) := by
  unfold fX2_cut_0b54
  refine lqbd fun v59 _ => ?_
  exact lqite (lqb_fX2_cut_0b71 hK32 h_σ) (lqb_fX2_cut_0b65 hK32 hK45 h_σ)
theorem lqb_fX2_cut_0b45 {u w : Int64} {K32 : Int32 → Int32 → Int32 → ST → ST} (hK32 : ∀ (q0 : Int32) (q1 : Int32) (q2 : Int32) (τ : ST), LQ u w τ → LQ u w (K32 q0 q1 q2 τ)) {K45 : Int32 → Int32 → Int32 → Int32 → ST → ST} (hK45 : ∀ (q0 : Int32) (q1 : Int32) (q2 : Int32) (q3 : Int32) (τ : ST), LQ u w τ → LQ u w (K45 q0 q1 q2 q3 τ)) {l3 : Int32} {l4 : Int32} {l5 : Int32} {l6 : Int32} {σ : ST} (h_σ : LQ u w σ) : LQ u w (fX2_cut_0b45 K32 K45 l3 l4 l5 l6 σ) := by
  unfold fX2_cut_0b45
  refine lqbd fun v48 _ => ?_
  exact lqite (lqb_fX2_cut_0b71 hK32 h_σ) (lqb_fX2_cut_0b54 hK32 hK45 h_σ)
theorem lqb_fX2_cut_0l45 {u w : Int64} {K32 : Int32 → Int32 → Int32 → ST → ST} (hK32 : ∀ (q0 : Int32) (q1 : Int32) (q2 : Int32) (τ : ST), LQ u w τ → LQ u w (K32 q0 q1 q2 τ)) : ∀ (fu : Nat) {q0 : Int32} {q1 : Int32} {q2 : Int32} {q3 : Int32} {τ : ST} (h : LQ u w τ), LQ u w (fX2_cut_0l45 K32 fu q0 q1 q2 q3 τ)
  | 0, _, _, _, _, _, h => h
  | fu + 1, _, _, _, _, _, h => lqb_fX2_cut_0b45 hK32 (fun _ _ _ _ _ q => lqb_fX2_cut_0l45 hK32 fu q) h
theorem lqb_fX2_cut_0b41 {u w : Int64} {K32 : Int32 → Int32 → Int32 → ST → ST} (hK32 : ∀ (q0 : Int32) (q1 : Int32) (q2 : Int32) (τ : ST), LQ u w τ → LQ u w (K32 q0 q1 q2 τ)) {l3 : Int32} {l4 : Int32} {l5 : Int32} {σ : ST} (h_σ : LQ u w σ) : LQ u w (fX2_cut_0b41 K32 l3 l4 l5 σ) := by
  unfold fX2_cut_0b41
  exact lqb_fX2_cut_0l45 hK32 _ h_σ
theorem lqb_fX2_cut_0b32 {u w : Int64} {K32 : Int32 → Int32 → Int32 → ST → ST} (hK32 : ∀ (q0 : Int32) (q1 : Int32) (q2 : Int32) (τ : ST), LQ u w τ → LQ u w (K32 q0 q1 q2 τ)) {l3 : Int32} {l4 : Int32} {l5 : Int32} {σ : ST} (h_σ : LQ u w σ) : LQ u w (fX2_cut_0b32 K32 l3 l4 l5 σ) := by
  unfold fX2_cut_0b32
  refine lqbd fun v35 _ => ?_
  exact lqite (lqb_fX2_cut_0b148  h_σ) (lqb_fX2_cut_0b41 hK32 h_σ)
theorem lqb_fX2_cut_0l32 {u w : Int64}  : ∀ (fu : Nat) {q0 : Int32} {q1 : Int32} {q2 : Int32} {τ : ST} (h : LQ u w τ), LQ u w (fX2_cut_0l32 fu q0 q1 q2 τ)
  | 0, _, _, _, _, h => h
  | fu + 1, _, _, _, _, h => lqb_fX2_cut_0b32 (fun _ _ _ _ q => lqb_fX2_cut_0l32  fu q) h
theorem lqb_fX2_cut_0b0 {u w : Int64}  {l3 : Int32} {l4 : Int32} {σ : ST} (h_σ : LQ u w σ) : LQ u w (fX2_cut_0b0 l3 l4 σ) := by
  unfold fX2_cut_0b0
  refine lqbd fun s2 e_s2 => ?_
  have h_s2 : LQ u w s2 := by rw [e_s2]; exact h_σ
  refine lqbd fun s7 e_s7 => ?_
  have h_s7 : LQ u w s7 := by rw [e_s7]; exact h_s2
  refine lqbd fun s12 e_s12 => ?_
  have h_s12 : LQ u w s12 := by rw [e_s12]; exact h_s7
  refine lqbd fun s17 e_s17 => ?_
  have h_s17 : LQ u w s17 := by rw [e_s17]; exact h_s12
  refine lqbd fun s26 e_s26 => ?_
  have h_s26 : LQ u w s26 := by rw [e_s26]; exact h_s17
  exact lqb_fX2_cut_0l32  _ h_s26
theorem lq_fX2_cut_0 {u w : Int64} {p3 : Int32} {p4 : Int32} {σ : ST} (h : LQ u w σ) : LQ u w (fX2_cut_0 p3 p4 σ) := lqb_fX2_cut_0b0 h
theorem lqb_fX11_cutNow_0b43 {u w : Int64}  {σ : ST} (h_σ : LQ u w σ) : LQ u w (fX11_cutNow_0b43 σ) := by
  unfold fX11_cutNow_0b43
  exact h_σ
theorem lqb_fX11_cutNow_0b7 {u w : Int64}  {σ : ST} (h_σ : LQ u w σ) : LQ u w (fX11_cutNow_0b7 σ) := by
  unfold fX11_cutNow_0b7
  refine lqbd fun v24 _ => ?_
  refine lqbd fun v32 _ => ?_
  refine lqbd fun s35 e_s35 => ?_
  have h_s35 : LQ u w s35 := by rw [e_s35]; exact lq_fX2_cut_0 h_σ
  refine lqbd fun s40 e_s40 => ?_
  have h_s40 : LQ u w s40 := by rw [e_s40]; exact h_s35
  exact lqb_fX11_cutNow_0b43  h_s40
theorem lqb_fX11_cutNow_0b0 {u w : Int64}  {σ : ST} (h_σ : LQ u w σ) : LQ u w (fX11_cutNow_0b0 σ) := by
  unfold fX11_cutNow_0b0
  refine lqbd fun v1 _ => ?_
  exact lqite (lqb_fX11_cutNow_0b43  h_σ) (lqb_fX11_cutNow_0b7  h_σ)
theorem lq_fX11_cutNow_0 {u w : Int64} {σ : ST} (h : LQ u w σ) : LQ u w (fX11_cutNow_0 σ) := lqb_fX11_cutNow_0b0 h
theorem lqb_fX11_pieces_0b36 {u w : Int64}  {σ : ST} (h_σ : LQ u w σ) : LQP u w (fX11_pieces_0b36 σ) := by
  unfold fX11_pieces_0b36
  refine lqbd2 fun v40 _ => ?_
  exact h_σ
theorem lqb_fX11_pieces_0b44 {u w : Int64}  {σ : ST} (h_σ : LQ u w σ) : LQP u w (fX11_pieces_0b44 σ) := by
  unfold fX11_pieces_0b44
  refine lqbd2 fun v48 _ => ?_
  exact h_σ
theorem lqb_fX11_pieces_0b52 {u w : Int64}  {σ : ST} (h_σ : LQ u w σ) : LQP u w (fX11_pieces_0b52 σ) := by
  unfold fX11_pieces_0b52
  refine lqbd2 fun v56 _ => ?_
  exact h_σ
theorem lqb_fX11_pieces_0b60 {u w : Int64}  {σ : ST} (h_σ : LQ u w σ) : LQP u w (fX11_pieces_0b60 σ) := by
  unfold fX11_pieces_0b60
  refine lqbd2 fun v64 _ => ?_
  exact h_σ
theorem lqb_fX11_pieces_0b68 {u w : Int64}  {σ : ST} (h_σ : LQ u w σ) : LQP u w (fX11_pieces_0b68 σ) := by
  unfold fX11_pieces_0b68
  exact h_σ
theorem lqb_fX11_pieces_0b0 {u w : Int64}  {l1 : Int32} {σ : ST} (h_σ : LQ u w σ) : LQP u w (fX11_pieces_0b0 l1 σ) := by
  unfold fX11_pieces_0b0
  refine lqbd2 fun s1 e_s1 => ?_
  have h_s1 : LQ u w s1 := by rw [e_s1]; exact lq_fX11_cutNow_0 h_σ
  refine lqite2 (lqb_fX11_pieces_0b36  h_s1) ?_
  refine lqite2 (lqb_fX11_pieces_0b44  h_s1) ?_
  refine lqite2 (lqb_fX11_pieces_0b52  h_s1) ?_
  refine lqite2 (lqb_fX11_pieces_0b60  h_s1) ?_
  exact lqb_fX11_pieces_0b68  h_s1
theorem lq_fX11_pieces_0 {u w : Int64} {p1 : Int32} {σ : ST} (h : LQ u w σ) : LQ u w (fX11_pieces_0 p1 σ).2 := lqb_fX11_pieces_0b0 h
theorem lqb_fX11_isPiece_0b0 {u w : Int64}  {l1 : Int32} {σ : ST} (h_σ : LQ u w σ) : LQP u w (fX11_isPiece_0b0 l1 σ) := by
  unfold fX11_isPiece_0b0
  refine lqbd2 fun s1 e_s1 => ?_
  have h_s1 : LQ u w s1 := by rw [e_s1]; exact lq_fX11_cutNow_0 h_σ
  refine lqbd2 fun v10 _ => ?_
  refine lqbd2 fun v14 _ => ?_
  refine lqbd2 fun v15 _ => ?_
  exact h_s1
theorem lq_fX11_isPiece_0 {u w : Int64} {p1 : Int32} {σ : ST} (h : LQ u w σ) : LQ u w (fX11_isPiece_0 p1 σ).2 := lqb_fX11_isPiece_0b0 h
theorem lqb_fX11_piece_0b52 {u w : Int64}  {l1 : Int32} {σ : ST} (h_σ : LQ u w σ) : LQP u w (fX11_piece_0b52 l1 σ) := by
  unfold fX11_piece_0b52
  refine lqbd2 fun v60 _ => ?_
  exact h_σ
theorem lqb_fX11_piece_0b62 {u w : Int64}  {l1 : Int32} {σ : ST} (h_σ : LQ u w σ) : LQP u w (fX11_piece_0b62 l1 σ) := by
  unfold fX11_piece_0b62
  refine lqbd2 fun v70 _ => ?_
  exact h_σ
theorem lqb_fX11_piece_0b72 {u w : Int64}  {l1 : Int32} {σ : ST} (h_σ : LQ u w σ) : LQP u w (fX11_piece_0b72 l1 σ) := by
  unfold fX11_piece_0b72
  refine lqbd2 fun v80 _ => ?_
  exact h_σ
theorem lqb_fX11_piece_0b82 {u w : Int64}  {l1 : Int32} {l2 : Int32} {σ : ST} (h_σ : LQ u w σ) : LQP u w (fX11_piece_0b82 l1 l2 σ) := by
  unfold fX11_piece_0b82
  refine lqbd2 fun v89 _ => ?_
  refine lqbd2 fun v90 _ => ?_
  exact h_σ
theorem lqb_fX11_piece_0b94 {u w : Int64}  {σ : ST} (h_σ : LQ u w σ) : LQP u w (fX11_piece_0b94 σ) := by
  unfold fX11_piece_0b94
  exact h_σ
theorem lqb_fX11_piece_0b10 {u w : Int64}  {l1 : Int32} {l2 : Int32} {σ : ST} (h_σ : LQ u w σ) : LQP u w (fX11_piece_0b10 l1 l2 σ) := by
  unfold fX11_piece_0b10
  refine lqite2 (lqb_fX11_piece_0b52  h_σ) ?_
  refine lqite2 (lqb_fX11_piece_0b62  h_σ) ?_
  refine lqite2 (lqb_fX11_piece_0b72  h_σ) ?_
  refine lqite2 (lqb_fX11_piece_0b82  h_σ) ?_
  refine lqite2 (lqb_fX11_piece_0b82  h_σ) ?_
  refine lqite2 (lqb_fX11_piece_0b82  h_σ) ?_
  refine lqite2 (lqb_fX11_piece_0b82  h_σ) ?_
  exact lqb_fX11_piece_0b94  h_σ
theorem lqb_fX11_piece_0b8 {u w : Int64}  {σ : ST} (h_σ : LQ u w σ) : LQP u w (fX11_piece_0b8 σ) := by
  unfold fX11_piece_0b8
  exact h_σ
theorem lqb_fX11_piece_0b0 {u w : Int64}  {l1 : Int32} {l2 : Int32} {σ : ST} (h_σ : LQ u w σ) : LQP u w (fX11_piece_0b0 l1 l2 σ) := by
  unfold fX11_piece_0b0
  refine lqbp2 fun v2 s2 e_s2 => ?_
  have h_s2 : LQ u w s2 := by rw [← e_s2]; exact lq_fX11_isPiece_0 h_σ
  exact lqite2 (lqb_fX11_piece_0b8  h_s2) (lqb_fX11_piece_0b10  h_s2)
theorem lq_fX11_piece_0 {u w : Int64} {p1 : Int32} {p2 : Int32} {σ : ST} (h : LQ u w σ) : LQ u w (fX11_piece_0 p1 p2 σ).2 := lqb_fX11_piece_0b0 h
theorem lqb_fX11_of_0b19 {u w : Int64}  {l1 : Int32} {σ : ST} (h_σ : LQ u w σ) : LQP u w (fX11_of_0b19 l1 σ) := by
  unfold fX11_of_0b19
  refine lqbd2 fun s20 e_s20 => ?_
  have h_s20 : LQ u w s20 := by rw [e_s20]; exact lq_fX11_cutNow_0 h_σ
  refine lqbd2 fun v31 _ => ?_
  exact h_s20
theorem lqb_fX11_of_0b17 {u w : Int64}  {σ : ST} (h_σ : LQ u w σ) : LQP u w (fX11_of_0b17 σ) := by
  unfold fX11_of_0b17
  exact h_σ
theorem lqb_fX11_of_0b0 {u w : Int64}  {l1 : Int32} {σ : ST} (h_σ : LQ u w σ) : LQP u w (fX11_of_0b0 l1 σ) := by
  unfold fX11_of_0b0
  refine lqbd2 fun v6 _ => ?_
  refine lqbd2 fun v10 _ => ?_
  refine lqbd2 fun v11 _ => ?_
  exact lqite2 (lqb_fX11_of_0b17  h_σ) (lqb_fX11_of_0b19  h_σ)
theorem lq_fX11_of_0 {u w : Int64} {p1 : Int32} {σ : ST} (h : LQ u w σ) : LQ u w (fX11_of_0 p1 σ).2 := lqb_fX11_of_0b0 h
theorem lqb_fX11_like_0b21 {u w : Int64}  {σ : ST} (h_σ : LQ u w σ) : LQP u w (fX11_like_0b21 σ) := by
  unfold fX11_like_0b21
  exact h_σ
theorem lqb_fX11_like_0b24 {u w : Int64}  {l1 : Int32} {l2 : Int32} {σ : ST} (h_σ : LQ u w σ) : LQP u w (fX11_like_0b24 l1 l2 σ) := by
  unfold fX11_like_0b24
  refine lqbd2 fun v35 _ => ?_
  refine lqbd2 fun v38 _ => ?_
  exact h_σ
theorem lqb_fX11_like_0b16 {u w : Int64}  {l1 : Int32} {l2 : Int32} {σ : ST} (h_σ : LQ u w σ) : LQP u w (fX11_like_0b16 l1 l2 σ) := by
  unfold fX11_like_0b16
  exact lqite2 (lqb_fX11_like_0b21  h_σ) (lqb_fX11_like_0b24  h_σ)
theorem lqb_fX11_like_0b8 {u w : Int64}  {l1 : Int32} {l2 : Int32} {σ : ST} (h_σ : LQ u w σ) : LQP u w (fX11_like_0b8 l1 l2 σ) := by
  unfold fX11_like_0b8
  refine lqbp2 fun v10 s10 e_s10 => ?_
  have h_s10 : LQ u w s10 := by rw [← e_s10]; exact lq_fX11_isPiece_0 h_σ
  exact lqite2 (lqb_fX11_like_0b21  h_s10) (lqb_fX11_like_0b16  h_s10)
theorem lqb_fX11_like_0b0 {u w : Int64}  {l1 : Int32} {l2 : Int32} {σ : ST} (h_σ : LQ u w σ) : LQP u w (fX11_like_0b0 l1 l2 σ) := by
  unfold fX11_like_0b0
  refine lqbp2 fun v2 s2 e_s2 => ?_
  have h_s2 : LQ u w s2 := by rw [← e_s2]; exact lq_fX11_isPiece_0 h_σ
  exact lqite2 (lqb_fX11_like_0b21  h_s2) (lqb_fX11_like_0b8  h_s2)
theorem lq_fX11_like_0 {u w : Int64} {p1 : Int32} {p2 : Int32} {σ : ST} (h : LQ u w σ) : LQ u w (fX11_like_0 p1 p2 σ).2 := lqb_fX11_like_0b0 h
theorem lqb_fX1_fillGains_0b75 {u w : Int64}  {σ : ST} (h_σ : LQ u w σ) : LQ u w (fX1_fillGains_0b75 σ) := by
  unfold fX1_fillGains_0b75
  exact h_σ
theorem lqb_fX1_fillGains_0b69 {u w : Int64} {K13 : Int32 → Int32 → Int32 → ST → ST} (hK13 : ∀ (q0 : Int32) (q1 : Int32) (q2 : Int32) (τ : ST), LQ u w τ → LQ u w (K13 q0 q1 q2 τ)) {l1 : Int32} {l2 : Int32} {l3 : Int32} {σ : ST} (h_σ : LQ u w σ) : LQ u w (fX1_fillGains_0b69 K13 l1 l2 l3 σ) := by
  unfold fX1_fillGains_0b69
  refine lqbd fun v69 _ => ?_
  exact hK13 _ _ _ _ h_σ
theorem lqb_fX1_fillGains_0b33 {u w : Int64} {K13 : Int32 → Int32 → Int32 → ST → ST} (hK13 : ∀ (q0 : Int32) (q1 : Int32) (q2 : Int32) (τ : ST), LQ u w τ → LQ u w (K13 q0 q1 q2 τ)) {K26 : Int32 → Int32 → Int32 → Int32 → Int32 → ST → ST} (hK26 : ∀ (q0 : Int32) (q1 : Int32) (q2 : Int32) (q3 : Int32) (q4 : Int32) (τ : ST), LQ u w τ → LQ u w (K26 q0 q1 q2 q3 q4 τ)) {l1 : Int32} {l2 : Int32} {l3 : Int32} {l4 : Int32} {l5 : Int32} {σ : ST} (h_σ : LQ u w σ) : LQ u w (fX1_fillGains_0b33 K13 K26 l1 l2 l3 l4 l5 σ) := by
  unfold fX1_fillGains_0b33
  refine lqbd fun v40 _ => ?_
  refine lqbd fun v43 _ => ?_
  refine lqbd fun v51 _ => ?_
  refine lqbd fun v52 _ => ?_
  refine lqbd fun v58 _ => ?_
  refine lqbd fun v60 _ => ?_
  refine lqbd fun v61 _ => ?_
  refine lqbd fun s62 e_s62 => ?_
  have h_s62 : LQ u w s62 := by rw [e_s62]; exact h_σ
  refine lqbd fun v63 _ => ?_
  exact hK26 _ _ _ _ _ _ h_s62
theorem lqb_fX1_fillGains_0b26 {u w : Int64} {K13 : Int32 → Int32 → Int32 → ST → ST} (hK13 : ∀ (q0 : Int32) (q1 : Int32) (q2 : Int32) (τ : ST), LQ u w τ → LQ u w (K13 q0 q1 q2 τ)) {K26 : Int32 → Int32 → Int32 → Int32 → Int32 → ST → ST} (hK26 : ∀ (q0 : Int32) (q1 : Int32) (q2 : Int32) (q3 : Int32) (q4 : Int32) (τ : ST), LQ u w τ → LQ u w (K26 q0 q1 q2 q3 q4 τ)) {l1 : Int32} {l2 : Int32} {l3 : Int32} {l4 : Int32} {l5 : Int32} {σ : ST} (h_σ : LQ u w σ) : LQ u w (fX1_fillGains_0b26 K13 K26 l1 l2 l3 l4 l5 σ) := by
  unfold fX1_fillGains_0b26
  exact lqite (lqb_fX1_fillGains_0b69 hK13 h_σ) (lqb_fX1_fillGains_0b33 hK13 hK26 h_σ)
theorem lqb_fX1_fillGains_0l26 {u w : Int64} {K13 : Int32 → Int32 → Int32 → ST → ST} (hK13 : ∀ (q0 : Int32) (q1 : Int32) (q2 : Int32) (τ : ST), LQ u w τ → LQ u w (K13 q0 q1 q2 τ)) : ∀ (fu : Nat) {q0 : Int32} {q1 : Int32} {q2 : Int32} {q3 : Int32} {q4 : Int32} {τ : ST} (h : LQ u w τ), LQ u w (fX1_fillGains_0l26 K13 fu q0 q1 q2 q3 q4 τ)
  | 0, _, _, _, _, _, _, h => h
  | fu + 1, _, _, _, _, _, _, h => lqb_fX1_fillGains_0b26 hK13 (fun _ _ _ _ _ _ q => lqb_fX1_fillGains_0l26 hK13 fu q) h
theorem lqb_fX1_fillGains_0b18 {u w : Int64} {K13 : Int32 → Int32 → Int32 → ST → ST} (hK13 : ∀ (q0 : Int32) (q1 : Int32) (q2 : Int32) (τ : ST), LQ u w τ → LQ u w (K13 q0 q1 q2 τ)) {l1 : Int32} {l2 : Int32} {l3 : Int32} {σ : ST} (h_σ : LQ u w σ) : LQ u w (fX1_fillGains_0b18 K13 l1 l2 l3 σ) := by
  unfold fX1_fillGains_0b18
  refine lqbd fun v20 _ => ?_
  exact lqb_fX1_fillGains_0l26 hK13 _ h_σ
theorem lqb_fX1_fillGains_0b13 {u w : Int64} {K13 : Int32 → Int32 → Int32 → ST → ST} (hK13 : ∀ (q0 : Int32) (q1 : Int32) (q2 : Int32) (τ : ST), LQ u w τ → LQ u w (K13 q0 q1 q2 τ)) {l1 : Int32} {l2 : Int32} {l3 : Int32} {σ : ST} (h_σ : LQ u w σ) : LQ u w (fX1_fillGains_0b13 K13 l1 l2 l3 σ) := by
  unfold fX1_fillGains_0b13
  exact lqite (lqb_fX1_fillGains_0b75  h_σ) (lqb_fX1_fillGains_0b18 hK13 h_σ)
theorem lqb_fX1_fillGains_0l13 {u w : Int64}  : ∀ (fu : Nat) {q0 : Int32} {q1 : Int32} {q2 : Int32} {τ : ST} (h : LQ u w τ), LQ u w (fX1_fillGains_0l13 fu q0 q1 q2 τ)
  | 0, _, _, _, _, h => h
  | fu + 1, _, _, _, _, h => lqb_fX1_fillGains_0b13 (fun _ _ _ _ q => lqb_fX1_fillGains_0l13  fu q) h
theorem lqb_fX1_fillGains_0b0 {u w : Int64}  {l1 : Int32} {σ : ST} (h_σ : LQ u w σ) : LQ u w (fX1_fillGains_0b0 l1 σ) := by
  unfold fX1_fillGains_0b0
  refine lqbd fun v2 _ => ?_
  refine lqbd fun s10 e_s10 => ?_
  have h_s10 : LQ u w s10 := by rw [e_s10]; exact h_σ
  exact lqb_fX1_fillGains_0l13  _ h_s10
theorem lq_fX1_fillGains_0 {u w : Int64} {p1 : Int32} {σ : ST} (h : LQ u w σ) : LQ u w (fX1_fillGains_0 p1 σ) := lqb_fX1_fillGains_0b0 h
theorem lqb_fX1_tie_0b128 {u w : Int64}  {σ : ST} (h_σ : LQ u w σ) : LQ u w (fX1_tie_0b128 σ) := by
  unfold fX1_tie_0b128
  exact h_σ
theorem lqb_fX1_tie_0b116 {u w : Int64} {K107 : Int32 → ST → ST} (hK107 : ∀ (q0 : Int32) (τ : ST), LQ u w τ → LQ u w (K107 q0 τ)) {l4 : Int32} {σ : ST} (h_σ : LQ u w σ) : LQ u w (fX1_tie_0b116 K107 l4 σ) := by
  unfold fX1_tie_0b116
  refine lqbd fun s119 e_s119 => ?_
  have h_s119 : LQ u w s119 := by rw [e_s119]; exact lq_fX1_fillGains_0 h_σ
  refine lqbd fun v122 _ => ?_
  exact hK107 _ _ h_s119
theorem lqb_fX1_tie_0b107 {u w : Int64} {K107 : Int32 → ST → ST} (hK107 : ∀ (q0 : Int32) (τ : ST), LQ u w τ → LQ u w (K107 q0 τ)) {l4 : Int32} {σ : ST} (h_σ : LQ u w σ) : LQ u w (fX1_tie_0b107 K107 l4 σ) := by
  unfold fX1_tie_0b107
  refine lqbd fun v110 _ => ?_
  exact lqite (lqb_fX1_tie_0b128  h_σ) (lqb_fX1_tie_0b116 hK107 h_σ)
theorem lqb_fX1_tie_0l107 {u w : Int64}  : ∀ (fu : Nat) {q0 : Int32} {τ : ST} (h : LQ u w τ), LQ u w (fX1_tie_0l107 fu q0 τ)
  | 0, _, _, h => h
  | fu + 1, _, _, h => lqb_fX1_tie_0b107 (fun _ _ q => lqb_fX1_tie_0l107  fu q) h
theorem lqb_fX1_tie_0b104 {u w : Int64}  {σ : ST} (h_σ : LQ u w σ) : LQ u w (fX1_tie_0b104 σ) := by
  unfold fX1_tie_0b104
  exact lqb_fX1_tie_0l107  _ h_σ
theorem lqb_fX1_tie_0b98 {u w : Int64} {K16 : Int32 → Int32 → Int32 → ST → ST} (hK16 : ∀ (q0 : Int32) (q1 : Int32) (q2 : Int32) (τ : ST), LQ u w τ → LQ u w (K16 q0 q1 q2 τ)) {l2 : Int32} {l3 : Int32} {l4 : Int32} {σ : ST} (h_σ : LQ u w σ) : LQ u w (fX1_tie_0b98 K16 l2 l3 l4 σ) := by
  unfold fX1_tie_0b98
  refine lqbd fun v98 _ => ?_
  exact hK16 _ _ _ _ h_σ
theorem lqb_fX1_tie_0b65 {u w : Int64} {K16 : Int32 → Int32 → Int32 → ST → ST} (hK16 : ∀ (q0 : Int32) (q1 : Int32) (q2 : Int32) (τ : ST), LQ u w τ → LQ u w (K16 q0 q1 q2 τ)) {K31 : Int32 → Int32 → Int32 → Int32 → ST → ST} (hK31 : ∀ (q0 : Int32) (q1 : Int32) (q2 : Int32) (q3 : Int32) (τ : ST), LQ u w τ → LQ u w (K31 q0 q1 q2 q3 τ)) {l2 : Int32} {l3 : Int32} {l4 : Int32} {l5 : Int32} {t0 : Int32} {t1 : Int32} {σ : ST} (h_σ : LQ u w σ) : LQ u w (fX1_tie_0b65 K16 K31 l2 l3 l4 l5 t0 t1 σ) := by
  unfold fX1_tie_0b65
  refine lqbd fun v65 _ => ?_
  refine lqbd fun v74 _ => ?_
  refine lqbd fun s79 e_s79 => ?_
  have h_s79 : LQ u w s79 := by rw [e_s79]; exact h_σ
  refine lqbd fun v86 _ => ?_
  refine lqbd fun s91 e_s91 => ?_
  have h_s91 : LQ u w s91 := by rw [e_s91]; exact h_s79
  refine lqbd fun v92 _ => ?_
  exact hK31 _ _ _ _ _ h_s91
theorem lqb_fX1_tie_0b64 {u w : Int64} {K16 : Int32 → Int32 → Int32 → ST → ST} (hK16 : ∀ (q0 : Int32) (q1 : Int32) (q2 : Int32) (τ : ST), LQ u w τ → LQ u w (K16 q0 q1 q2 τ)) {K31 : Int32 → Int32 → Int32 → Int32 → ST → ST} (hK31 : ∀ (q0 : Int32) (q1 : Int32) (q2 : Int32) (q3 : Int32) (τ : ST), LQ u w τ → LQ u w (K31 q0 q1 q2 q3 τ)) {l2 : Int32} {l3 : Int32} {l4 : Int32} {l5 : Int32} {t0 : Int32} {σ : ST} (h_σ : LQ u w σ) : LQ u w (fX1_tie_0b64 K16 K31 l2 l3 l4 l5 t0 σ) := by
  unfold fX1_tie_0b64
  exact lqb_fX1_tie_0b65 hK16 hK31 h_σ
theorem lqb_fX1_tie_0b60 {u w : Int64} {K16 : Int32 → Int32 → Int32 → ST → ST} (hK16 : ∀ (q0 : Int32) (q1 : Int32) (q2 : Int32) (τ : ST), LQ u w τ → LQ u w (K16 q0 q1 q2 τ)) {K31 : Int32 → Int32 → Int32 → Int32 → ST → ST} (hK31 : ∀ (q0 : Int32) (q1 : Int32) (q2 : Int32) (q3 : Int32) (τ : ST), LQ u w τ → LQ u w (K31 q0 q1 q2 q3 τ)) {l2 : Int32} {l3 : Int32} {l4 : Int32} {l5 : Int32} {t0 : Int32} {σ : ST} (h_σ : LQ u w σ) : LQ u w (fX1_tie_0b60 K16 K31 l2 l3 l4 l5 t0 σ) := by
  unfold fX1_tie_0b60
  exact lqb_fX1_tie_0b65 hK16 hK31 h_σ
theorem lqb_fX1_tie_0b40 {u w : Int64} {K16 : Int32 → Int32 → Int32 → ST → ST} (hK16 : ∀ (q0 : Int32) (q1 : Int32) (q2 : Int32) (τ : ST), LQ u w τ → LQ u w (K16 q0 q1 q2 τ)) {K31 : Int32 → Int32 → Int32 → Int32 → ST → ST} (hK31 : ∀ (q0 : Int32) (q1 : Int32) (q2 : Int32) (q3 : Int32) (τ : ST), LQ u w τ → LQ u w (K31 q0 q1 q2 q3 τ)) {l2 : Int32} {l3 : Int32} {l4 : Int32} {l5 : Int32} {σ : ST} (h_σ : LQ u w σ) : LQ u w (fX1_tie_0b40 K16 K31 l2 l3 l4 l5 σ) := by
  unfold fX1_tie_0b40
  refine lqbd fun v46 _ => ?_
  refine lqbd fun v54 _ => ?_
  exact lqite (lqb_fX1_tie_0b64 hK16 hK31 h_σ) (lqb_fX1_tie_0b60 hK16 hK31 h_σ)
theorem lqb_fX1_tie_0b31 {u w : Int64} {K16 : Int32 → Int32 → Int32 → ST → ST} (hK16 : ∀ (q0 : Int32) (q1 : Int32) (q2 : Int32) (τ : ST), LQ u w τ → LQ u w (K16 q0 q1 q2 τ)) {K31 : Int32 → Int32 → Int32 → Int32 → ST → ST} (hK31 : ∀ (q0 : Int32) (q1 : Int32) (q2 : Int32) (q3 : Int32) (τ : ST), LQ u w τ → LQ u w (K31 q0 q1 q2 q3 τ)) {l2 : Int32} {l3 : Int32} {l4 : Int32} {l5 : Int32} {σ : ST} (h_σ : LQ u w σ) : LQ u w (fX1_tie_0b31 K16 K31 l2 l3 l4 l5 σ) := by
  unfold fX1_tie_0b31
  refine lqbd fun v34 _ => ?_
  exact lqite (lqb_fX1_tie_0b98 hK16 h_σ) (lqb_fX1_tie_0b40 hK16 hK31 h_σ)
theorem lqb_fX1_tie_0l31 {u w : Int64} {K16 : Int32 → Int32 → Int32 → ST → ST} (hK16 : ∀ (q0 : Int32) (q1 : Int32) (q2 : Int32) (τ : ST), LQ u w τ → LQ u w (K16 q0 q1 q2 τ)) : ∀ (fu : Nat) {q0 : Int32} {q1 : Int32} {q2 : Int32} {q3 : Int32} {τ : ST} (h : LQ u w τ), LQ u w (fX1_tie_0l31 K16 fu q0 q1 q2 q3 τ)
  | 0, _, _, _, _, _, h => h
  | fu + 1, _, _, _, _, _, h => lqb_fX1_tie_0b31 hK16 (fun _ _ _ _ _ q => lqb_fX1_tie_0l31 hK16 fu q) h
theorem lqb_fX1_tie_0b25 {u w : Int64} {K16 : Int32 → Int32 → Int32 → ST → ST} (hK16 : ∀ (q0 : Int32) (q1 : Int32) (q2 : Int32) (τ : ST), LQ u w τ → LQ u w (K16 q0 q1 q2 τ)) {l2 : Int32} {l3 : Int32} {l4 : Int32} {σ : ST} (h_σ : LQ u w σ) : LQ u w (fX1_tie_0b25 K16 l2 l3 l4 σ) := by
  unfold fX1_tie_0b25
  refine lqbd fun v28 _ => ?_
  exact lqb_fX1_tie_0l31 hK16 _ h_σ
theorem lqb_fX1_tie_0b16 {u w : Int64} {K16 : Int32 → Int32 → Int32 → ST → ST} (hK16 : ∀ (q0 : Int32) (q1 : Int32) (q2 : Int32) (τ : ST), LQ u w τ → LQ u w (K16 q0 q1 q2 τ)) {l2 : Int32} {l3 : Int32} {l4 : Int32} {σ : ST} (h_σ : LQ u w σ) : LQ u w (fX1_tie_0b16 K16 l2 l3 l4 σ) := by
  unfold fX1_tie_0b16
  refine lqbd fun v19 _ => ?_
  exact lqite (lqb_fX1_tie_0b104  h_σ) (lqb_fX1_tie_0b25 hK16 h_σ)
theorem lqb_fX1_tie_0l16 {u w : Int64}  : ∀ (fu : Nat) {q0 : Int32} {q1 : Int32} {q2 : Int32} {τ : ST} (h : LQ u w τ), LQ u w (fX1_tie_0l16 fu q0 q1 q2 τ)
  | 0, _, _, _, _, h => h
  | fu + 1, _, _, _, _, h => lqb_fX1_tie_0b16 (fun _ _ _ _ q => lqb_fX1_tie_0l16  fu q) h
theorem lqb_fX1_tie_0b0 {u w : Int64}  {l2 : Int32} {l3 : Int32} {σ : ST} (h_σ : LQ u w σ) : LQ u w (fX1_tie_0b0 l2 l3 σ) := by
  unfold fX1_tie_0b0
  refine lqbd fun v2 _ => ?_
  refine lqbd fun v7 _ => ?_
  refine lqbd fun s10 e_s10 => ?_
  have h_s10 : LQ u w s10 := by rw [e_s10]; exact h_σ
  exact lqb_fX1_tie_0l16  _ h_s10
theorem lq_fX1_tie_0 {u w : Int64} {p2 : Int32} {p3 : Int32} {σ : ST} (h : LQ u w σ) : LQ u w (fX1_tie_0 p2 p3 σ) := lqb_fX1_tie_0b0 h
theorem lqb_fX3_writeMiddle_1b19 {u w : Int64}  {σ : ST} (h_σ : LQ u w σ) : LQ u w (fX3_writeMiddle_1b19 σ) := by
  unfold fX3_writeMiddle_1b19
  exact h_σ
theorem lqb_fX3_writeMiddle_1b53 {u w : Int64}  {σ : ST} (h_σ : LQ u w σ) : LQ u w (fX3_writeMiddle_1b53 σ) := by
  unfold fX3_writeMiddle_1b53
  exact h_σ
theorem lqb_fX3_writeMiddle_1b27 {u w : Int64} {K22 : Int32 → Int32 → ST → ST} (hK22 : ∀ (q0 : Int32) (q1 : Int32) (τ : ST), LQ u w τ → LQ u w (K22 q0 q1 τ)) {l2 : Int32} {l3 : Int32} {σ : ST} (h_σ : LQ u w σ) : LQ u w (fX3_writeMiddle_1b27 K22 l2 l3 σ) := by
  unfold fX3_writeMiddle_1b27
  refine lqbd fun v30 _ => ?_
  refine lqbd fun v36 _ => ?_
  refine lqbd fun v38 _ => ?_
  refine lqbd fun v42 _ => ?_
  refine lqbd fun v44 _ => ?_
  refine lqbd fun v45 _ => ?_
  refine lqbd fun s46 e_s46 => ?_
  have h_s46 : LQ u w s46 := by rw [e_s46]; exact h_σ
  refine lqbd fun v47 _ => ?_
  exact hK22 _ _ _ h_s46
theorem lqb_fX3_writeMiddle_1b22 {u w : Int64} {K22 : Int32 → Int32 → ST → ST} (hK22 : ∀ (q0 : Int32) (q1 : Int32) (τ : ST), LQ u w τ → LQ u w (K22 q0 q1 τ)) {l2 : Int32} {l3 : Int32} {σ : ST} (h_σ : LQ u w σ) : LQ u w (fX3_writeMiddle_1b22 K22 l2 l3 σ) := by
  unfold fX3_writeMiddle_1b22
  exact lqite (lqb_fX3_writeMiddle_1b53  h_σ) (lqb_fX3_writeMiddle_1b27 hK22 h_σ)
theorem lqb_fX3_writeMiddle_1l22 {u w : Int64}  : ∀ (fu : Nat) {q0 : Int32} {q1 : Int32} {τ : ST} (h : LQ u w τ), LQ u w (fX3_writeMiddle_1l22 fu q0 q1 τ)
  | 0, _, _, _, h => h
  | fu + 1, _, _, _, h => lqb_fX3_writeMiddle_1b22 (fun _ _ _ q => lqb_fX3_writeMiddle_1l22  fu q) h
theorem lqb_fX3_writeMiddle_1b20 {u w : Int64}  {l2 : Int32} {σ : ST} (h_σ : LQ u w σ) : LQ u w (fX3_writeMiddle_1b20 l2 σ) := by
  unfold fX3_writeMiddle_1b20
  exact lqb_fX3_writeMiddle_1l22  _ h_σ
theorem lqb_fX3_writeMiddle_1b11 {u w : Int64}  {l2 : Int32} {σ : ST} (h_σ : LQ u w σ) : LQ u w (fX3_writeMiddle_1b11 l2 σ) := by
  unfold fX3_writeMiddle_1b11
  refine lqbd fun v15 _ => ?_
  exact lqite (lqb_fX3_writeMiddle_1b20  h_σ) (lqb_fX3_writeMiddle_1b19  h_σ)
theorem lqb_fX3_writeMiddle_1b7 {u w : Int64}  {l2 : Int32} {σ : ST} (h_σ : LQ u w σ) : LQ u w (fX3_writeMiddle_1b7 l2 σ) := by
  unfold fX3_writeMiddle_1b7
  exact lqite (lqb_fX3_writeMiddle_1b19  h_σ) (lqb_fX3_writeMiddle_1b11  h_σ)
theorem lqb_fX3_writeMiddle_1b0 {u w : Int64}  {l2 : Int32} {σ : ST} (h_σ : LQ u w σ) : LQ u w (fX3_writeMiddle_1b0 l2 σ) := by
  unfold fX3_writeMiddle_1b0
  refine lqbd fun v1 _ => ?_
  exact lqite (lqb_fX3_writeMiddle_1b19  h_σ) (lqb_fX3_writeMiddle_1b7  h_σ)
theorem lq_fX3_writeMiddle_1 {u w : Int64} {p2 : Int32} {σ : ST} (h : LQ u w σ) : LQ u w (fX3_writeMiddle_1 p2 σ) := lqb_fX3_writeMiddle_1b0 h
theorem lqb_fX4_findMiddles_0b106 {u w : Int64}  {σ : ST} (h_σ : LQ u w σ) : LQ u w (fX4_findMiddles_0b106 σ) := by
  unfold fX4_findMiddles_0b106
  exact h_σ
theorem lqb_fX4_findMiddles_0b88 {u w : Int64} {K3 : Int32 → ST → ST} (hK3 : ∀ (q0 : Int32) (τ : ST), LQ u w τ → LQ u w (K3 q0 τ)) {l4 : Int32} {σ : ST} (h_σ : LQ u w σ) : LQ u w (fX4_findMiddles_0b88 K3 l4 σ) := by
  unfold fX4_findMiddles_0b88
  refine lqbd fun v96 _ => ?_
  refine lqbd fun s97 e_s97 => ?_
  have h_s97 : LQ u w s97 := by rw [e_s97]; exact lq_fX3_writeMiddle_1 h_σ
  refine lqbd fun v100 _ => ?_
  exact hK3 _ _ h_s97
theorem lqb_fX4_findMiddles_0b82 {u w : Int64} {K3 : Int32 → ST → ST} (hK3 : ∀ (q0 : Int32) (τ : ST), LQ u w τ → LQ u w (K3 q0 τ)) {K26 : Int32 → Int32 → ST → ST} (hK26 : ∀ (q0 : Int32) (q1 : Int32) (τ : ST), LQ u w τ → LQ u w (K26 q0 q1 τ)) {l4 : Int32} {l5 : Int32} {σ : ST} (h_σ : LQ u w σ) : LQ u w (fX4_findMiddles_0b82 K3 K26 l4 l5 σ) := by
  unfold fX4_findMiddles_0b82
  refine lqbd fun v82 _ => ?_
  exact hK26 _ _ _ h_σ
theorem lqb_fX4_findMiddles_0b75 {u w : Int64} {K3 : Int32 → ST → ST} (hK3 : ∀ (q0 : Int32) (τ : ST), LQ u w τ → LQ u w (K3 q0 τ)) {K26 : Int32 → Int32 → ST → ST} (hK26 : ∀ (q0 : Int32) (q1 : Int32) (τ : ST), LQ u w τ → LQ u w (K26 q0 q1 τ)) {l4 : Int32} {l5 : Int32} {σ : ST} (h_σ : LQ u w σ) : LQ u w (fX4_findMiddles_0b75 K3 K26 l4 l5 σ) := by
  unfold fX4_findMiddles_0b75
  refine lqbd fun s79 e_s79 => ?_
  have h_s79 : LQ u w s79 := by rw [e_s79]; exact lq_fX3_take_0 h_σ
  exact lqb_fX4_findMiddles_0b82 hK3 hK26 h_s79
theorem lqb_fX4_findMiddles_0b63 {u w : Int64} {K3 : Int32 → ST → ST} (hK3 : ∀ (q0 : Int32) (τ : ST), LQ u w τ → LQ u w (K3 q0 τ)) {K26 : Int32 → Int32 → ST → ST} (hK26 : ∀ (q0 : Int32) (q1 : Int32) (τ : ST), LQ u w τ → LQ u w (K26 q0 q1 τ)) {l4 : Int32} {l5 : Int32} {l6 : Int32} {σ : ST} (h_σ : LQ u w σ) : LQ u w (fX4_findMiddles_0b63 K3 K26 l4 l5 l6 σ) := by
  unfold fX4_findMiddles_0b63
  refine lqbd fun v69 _ => ?_
  exact lqite (lqb_fX4_findMiddles_0b75 hK3 hK26 h_σ) (lqb_fX4_findMiddles_0b82 hK3 hK26 h_σ)
theorem lqb_fX4_findMiddles_0b56 {u w : Int64} {K3 : Int32 → ST → ST} (hK3 : ∀ (q0 : Int32) (τ : ST), LQ u w τ → LQ u w (K3 q0 τ)) {K26 : Int32 → Int32 → ST → ST} (hK26 : ∀ (q0 : Int32) (q1 : Int32) (τ : ST), LQ u w τ → LQ u w (K26 q0 q1 τ)) {l4 : Int32} {l5 : Int32} {l6 : Int32} {σ : ST} (h_σ : LQ u w σ) : LQ u w (fX4_findMiddles_0b56 K3 K26 l4 l5 l6 σ) := by
  unfold fX4_findMiddles_0b56
  exact lqite (lqb_fX4_findMiddles_0b82 hK3 hK26 h_σ) (lqb_fX4_findMiddles_0b63 hK3 hK26 h_σ)
theorem lqb_fX4_findMiddles_0b42 {u w : Int64} {K3 : Int32 → ST → ST} (hK3 : ∀ (q0 : Int32) (τ : ST), LQ u w τ → LQ u w (K3 q0 τ)) {K26 : Int32 → Int32 → ST → ST} (hK26 : ∀ (q0 : Int32) (q1 : Int32) (τ : ST), LQ u w τ → LQ u w (K26 q0 q1 τ)) {l4 : Int32} {l5 : Int32} {σ : ST} (h_σ : LQ u w σ) : LQ u w (fX4_findMiddles_0b42 K3 K26 l4 l5 σ) := by
  unfold fX4_findMiddles_0b42
  refine lqbd fun v48 _ => ?_
  exact lqite (lqb_fX4_findMiddles_0b82 hK3 hK26 h_σ) (lqb_fX4_findMiddles_0b56 hK3 hK26 h_σ)
theorem lqb_fX4_findMiddles_0b35 {u w : Int64} {K3 : Int32 → ST → ST} (hK3 : ∀ (q0 : Int32) (τ : ST), LQ u w τ → LQ u w (K3 q0 τ)) {K26 : Int32 → Int32 → ST → ST} (hK26 : ∀ (q0 : Int32) (q1 : Int32) (τ : ST), LQ u w τ → LQ u w (K26 q0 q1 τ)) {l4 : Int32} {l5 : Int32} {σ : ST} (h_σ : LQ u w σ) : LQ u w (fX4_findMiddles_0b35 K3 K26 l4 l5 σ) := by
  unfold fX4_findMiddles_0b35
  exact lqite (lqb_fX4_findMiddles_0b88 hK3 h_σ) (lqb_fX4_findMiddles_0b42 hK3 hK26 h_σ)
theorem lqb_fX4_findMiddles_0b26 {u w : Int64} {K3 : Int32 → ST → ST} (hK3 : ∀ (q0 : Int32) (τ : ST), LQ u w τ → LQ u w (K3 q0 τ)) {K26 : Int32 → Int32 → ST → ST} (hK26 : ∀ (q0 : Int32) (q1 : Int32) (τ : ST), LQ u w τ → LQ u w (K26 q0 q1 τ)) {l4 : Int32} {l5 : Int32} {σ : ST} (h_σ : LQ u w σ) : LQ u w (fX4_findMiddles_0b26 K3 K26 l4 l5 σ) := by
  unfold fX4_findMiddles_0b26
  refine lqbd fun v29 _ => ?_
  exact lqite (lqb_fX4_findMiddles_0b88 hK3 h_σ) (lqb_fX4_findMiddles_0b35 hK3 hK26 h_σ)
theorem lqb_fX4_findMiddles_0l26 {u w : Int64} {K3 : Int32 → ST → ST} (hK3 : ∀ (q0 : Int32) (τ : ST), LQ u w τ → LQ u w (K3 q0 τ)) : ∀ (fu : Nat) {q0 : Int32} {q1 : Int32} {τ : ST} (h : LQ u w τ), LQ u w (fX4_findMiddles_0l26 K3 fu q0 q1 τ)
  | 0, _, _, _, h => h
  | fu + 1, _, _, _, h => lqb_fX4_findMiddles_0b26 hK3 (fun _ _ _ q => lqb_fX4_findMiddles_0l26 hK3 fu q) h
theorem lqb_fX4_findMiddles_0b19 {u w : Int64} {K3 : Int32 → ST → ST} (hK3 : ∀ (q0 : Int32) (τ : ST), LQ u w τ → LQ u w (K3 q0 τ)) {l4 : Int32} {σ : ST} (h_σ : LQ u w σ) : LQ u w (fX4_findMiddles_0b19 K3 l4 σ) := by
  unfold fX4_findMiddles_0b19
  refine lqbd fun s20 e_s20 => ?_
  have h_s20 : LQ u w s20 := by rw [e_s20]; exact lq_fX3_empty_0 h_σ
  exact lqb_fX4_findMiddles_0l26 hK3 _ h_s20
theorem lqb_fX4_findMiddles_0b12 {u w : Int64} {K3 : Int32 → ST → ST} (hK3 : ∀ (q0 : Int32) (τ : ST), LQ u w τ → LQ u w (K3 q0 τ)) {l4 : Int32} {σ : ST} (h_σ : LQ u w σ) : LQ u w (fX4_findMiddles_0b12 K3 l4 σ) := by
  unfold fX4_findMiddles_0b12
  exact lqite (lqb_fX4_findMiddles_0b106  h_σ) (lqb_fX4_findMiddles_0b19 hK3 h_σ)
theorem lqb_fX4_findMiddles_0b3 {u w : Int64} {K3 : Int32 → ST → ST} (hK3 : ∀ (q0 : Int32) (τ : ST), LQ u w τ → LQ u w (K3 q0 τ)) {l4 : Int32} {σ : ST} (h_σ : LQ u w σ) : LQ u w (fX4_findMiddles_0b3 K3 l4 σ) := by
  unfold fX4_findMiddles_0b3
  refine lqbd fun v6 _ => ?_
  exact lqite (lqb_fX4_findMiddles_0b106  h_σ) (lqb_fX4_findMiddles_0b12 hK3 h_σ)
theorem lqb_fX4_findMiddles_0l3 {u w : Int64}  : ∀ (fu : Nat) {q0 : Int32} {τ : ST} (h : LQ u w τ), LQ u w (fX4_findMiddles_0l3 fu q0 τ)
  | 0, _, _, h => h
  | fu + 1, _, _, h => lqb_fX4_findMiddles_0b3 (fun _ _ q => lqb_fX4_findMiddles_0l3  fu q) h
theorem lqb_fX4_findMiddles_0b0 {u w : Int64}  {σ : ST} (h_σ : LQ u w σ) : LQ u w (fX4_findMiddles_0b0 σ) := by
  unfold fX4_findMiddles_0b0
  exact lqb_fX4_findMiddles_0l3  _ h_σ
theorem lq_fX4_findMiddles_0 {u w : Int64} {σ : ST} (h : LQ u w σ) : LQ u w (fX4_findMiddles_0 σ) := lqb_fX4_findMiddles_0b0 h
theorem lqb_fX4_numberHeaps_0b107 {u w : Int64}  {σ : ST} (h_σ : LQ u w σ) : LQ u w (fX4_numberHeaps_0b107 σ) := by
  unfold fX4_numberHeaps_0b107
  exact h_σ
theorem lqb_fX4_numberHeaps_0b100 {u w : Int64} {K16 : Int32 → Int32 → ST → ST} (hK16 : ∀ (q0 : Int32) (q1 : Int32) (τ : ST), LQ u w τ → LQ u w (K16 q0 q1 τ)) {l1 : Int32} {l2 : Int32} {t0 : Int32} {t1 : Int32} {σ : ST} (h_σ : LQ u w σ) : LQ u w (fX4_numberHeaps_0b100 K16 l1 l2 t0 t1 σ) := by
  unfold fX4_numberHeaps_0b100
  refine lqbd fun s100 e_s100 => ?_
  have h_s100 : LQ u w s100 := by rw [e_s100]; exact h_σ
  refine lqbd fun v101 _ => ?_
  exact hK16 _ _ _ h_s100
theorem lqb_fX4_numberHeaps_0b99 {u w : Int64} {K16 : Int32 → Int32 → ST → ST} (hK16 : ∀ (q0 : Int32) (q1 : Int32) (τ : ST), LQ u w τ → LQ u w (K16 q0 q1 τ)) {l1 : Int32} {l2 : Int32} {t0 : Int32} {σ : ST} (h_σ : LQ u w σ) : LQ u w (fX4_numberHeaps_0b99 K16 l1 l2 t0 σ) := by
  unfold fX4_numberHeaps_0b99
  exact lqb_fX4_numberHeaps_0b100 hK16 h_σ
theorem lqb_fX4_numberHeaps_0b90 {u w : Int64} {K16 : Int32 → Int32 → ST → ST} (hK16 : ∀ (q0 : Int32) (q1 : Int32) (τ : ST), LQ u w τ → LQ u w (K16 q0 q1 τ)) {l1 : Int32} {l2 : Int32} {l3 : Int32} {t0 : Int32} {σ : ST} (h_σ : LQ u w σ) : LQ u w (fX4_numberHeaps_0b90 K16 l1 l2 l3 t0 σ) := by
  unfold fX4_numberHeaps_0b90
  refine lqbd fun v95 _ => ?_
  exact lqb_fX4_numberHeaps_0b100 hK16 h_σ
theorem lqb_fX4_numberHeaps_0b84 {u w : Int64} {K16 : Int32 → Int32 → ST → ST} (hK16 : ∀ (q0 : Int32) (q1 : Int32) (τ : ST), LQ u w τ → LQ u w (K16 q0 q1 τ)) {l1 : Int32} {l2 : Int32} {l3 : Int32} {t0 : Int32} {σ : ST} (h_σ : LQ u w σ) : LQ u w (fX4_numberHeaps_0b84 K16 l1 l2 l3 t0 σ) := by
  unfold fX4_numberHeaps_0b84
  exact lqite (lqb_fX4_numberHeaps_0b99 hK16 h_σ) (lqb_fX4_numberHeaps_0b90 hK16 h_σ)
theorem lqb_fX4_numberHeaps_0b75 {u w : Int64} {K16 : Int32 → Int32 → ST → ST} (hK16 : ∀ (q0 : Int32) (q1 : Int32) (τ : ST), LQ u w τ → LQ u w (K16 q0 q1 τ)) {l1 : Int32} {l2 : Int32} {l3 : Int32} {σ : ST} (h_σ : LQ u w σ) : LQ u w (fX4_numberHeaps_0b75 K16 l1 l2 l3 σ) := by
  unfold fX4_numberHeaps_0b75
  exact lqite (lqb_fX4_numberHeaps_0b99 hK16 h_σ) (lqb_fX4_numberHeaps_0b84 hK16 h_σ)
theorem lqb_fX4_numberHeaps_0b55 {u w : Int64} {K16 : Int32 → Int32 → ST → ST} (hK16 : ∀ (q0 : Int32) (q1 : Int32) (τ : ST), LQ u w τ → LQ u w (K16 q0 q1 τ)) {l1 : Int32} {l2 : Int32} {l3 : Int32} {σ : ST} (h_σ : LQ u w σ) : LQ u w (fX4_numberHeaps_0b55 K16 l1 l2 l3 σ) := by
  unfold fX4_numberHeaps_0b55
  refine lqbd fun v61 _ => ?_
  refine lqbd fun s64 e_s64 => ?_
  have h_s64 : LQ u w s64 := by rw [e_s64]; exact h_σ
  refine lqbd fun v67 _ => ?_
  refine lqbd fun v71 _ => ?_
  refine lqbd fun s72 e_s72 => ?_
  have h_s72 : LQ u w s72 := by rw [e_s72]; exact h_s64
  exact lqb_fX4_numberHeaps_0b75 hK16 h_s72
theorem lqb_fX4_numberHeaps_0b44 {u w : Int64} {K16 : Int32 → Int32 → ST → ST} (hK16 : ∀ (q0 : Int32) (q1 : Int32) (τ : ST), LQ u w τ → LQ u w (K16 q0 q1 τ)) {l1 : Int32} {l2 : Int32} {l3 : Int32} {σ : ST} (h_σ : LQ u w σ) : LQ u w (fX4_numberHeaps_0b44 K16 l1 l2 l3 σ) := by
  unfold fX4_numberHeaps_0b44
  refine lqbd fun v49 _ => ?_
  exact lqite (lqb_fX4_numberHeaps_0b55 hK16 h_σ) (lqb_fX4_numberHeaps_0b75 hK16 h_σ)
theorem lqb_fX4_numberHeaps_0b38 {u w : Int64} {K16 : Int32 → Int32 → ST → ST} (hK16 : ∀ (q0 : Int32) (q1 : Int32) (τ : ST), LQ u w τ → LQ u w (K16 q0 q1 τ)) {l1 : Int32} {l2 : Int32} {l3 : Int32} {σ : ST} (h_σ : LQ u w σ) : LQ u w (fX4_numberHeaps_0b38 K16 l1 l2 l3 σ) := by
  unfold fX4_numberHeaps_0b38
  exact lqite (lqb_fX4_numberHeaps_0b75 hK16 h_σ) (lqb_fX4_numberHeaps_0b44 hK16 h_σ)
theorem lqb_fX4_numberHeaps_0b27 {u w : Int64} {K16 : Int32 → Int32 → ST → ST} (hK16 : ∀ (q0 : Int32) (q1 : Int32) (τ : ST), LQ u w τ → LQ u w (K16 q0 q1 τ)) {l1 : Int32} {l2 : Int32} {σ : ST} (h_σ : LQ u w σ) : LQ u w (fX4_numberHeaps_0b27 K16 l1 l2 σ) := by
  unfold fX4_numberHeaps_0b27
  refine lqbd fun v32 _ => ?_
  exact lqite (lqb_fX4_numberHeaps_0b75 hK16 h_σ) (lqb_fX4_numberHeaps_0b38 hK16 h_σ)
theorem lqb_fX4_numberHeaps_0b21 {u w : Int64} {K16 : Int32 → Int32 → ST → ST} (hK16 : ∀ (q0 : Int32) (q1 : Int32) (τ : ST), LQ u w τ → LQ u w (K16 q0 q1 τ)) {l1 : Int32} {l2 : Int32} {σ : ST} (h_σ : LQ u w σ) : LQ u w (fX4_numberHeaps_0b21 K16 l1 l2 σ) := by
  unfold fX4_numberHeaps_0b21
  exact lqite (lqb_fX4_numberHeaps_0b107  h_σ) (lqb_fX4_numberHeaps_0b27 hK16 h_σ)
theorem lqb_fX4_numberHeaps_0b16 {u w : Int64} {K16 : Int32 → Int32 → ST → ST} (hK16 : ∀ (q0 : Int32) (q1 : Int32) (τ : ST), LQ u w τ → LQ u w (K16 q0 q1 τ)) {l1 : Int32} {l2 : Int32} {σ : ST} (h_σ : LQ u w σ) : LQ u w (fX4_numberHeaps_0b16 K16 l1 l2 σ) := by
  unfold fX4_numberHeaps_0b16
  exact lqite (lqb_fX4_numberHeaps_0b107  h_σ) (lqb_fX4_numberHeaps_0b21 hK16 h_σ)
theorem lqb_fX4_numberHeaps_0l16 {u w : Int64}  : ∀ (fu : Nat) {q0 : Int32} {q1 : Int32} {τ : ST} (h : LQ u w τ), LQ u w (fX4_numberHeaps_0l16 fu q0 q1 τ)
  | 0, _, _, _, h => h
  | fu + 1, _, _, _, h => lqb_fX4_numberHeaps_0b16 (fun _ _ _ q => lqb_fX4_numberHeaps_0l16  fu q) h
theorem lqb_fX4_numberHeaps_0b0 {u w : Int64}  {l1 : Int32} {σ : ST} (h_σ : LQ u w σ) : LQ u w (fX4_numberHeaps_0b0 l1 σ) := by
  unfold fX4_numberHeaps_0b0
  refine lqbd fun s6 e_s6 => ?_
  have h_s6 : LQ u w s6 := by rw [e_s6]; exact h_σ
  refine lqbd fun s11 e_s11 => ?_
  have h_s11 : LQ u w s11 := by rw [e_s11]; exact h_s6
  exact lqb_fX4_numberHeaps_0l16  _ h_s11
theorem lq_fX4_numberHeaps_0 {u w : Int64} {p1 : Int32} {σ : ST} (h : LQ u w σ) : LQ u w (fX4_numberHeaps_0 p1 σ) := lqb_fX4_numberHeaps_0b0 h
theorem lqb_fX1_joinTwo_0b111 {u w : Int64}  {σ : ST} (h_σ : LQ u w σ) : LQP u w (fX1_joinTwo_0b111 σ) := by
  unfold fX1_joinTwo_0b111
  exact h_σ
theorem lqb_fX1_joinTwo_0b189 {u w : Int64}  {σ : ST} (h_σ : LQ u w σ) : LQP u w (fX1_joinTwo_0b189 σ) := by
  unfold fX1_joinTwo_0b189
  exact h_σ
theorem lqb_fX1_joinTwo_0b183 {u w : Int64} {K116 : Int32 → Int32 → Int32 → ST → (Int32 × ST)} (hK116 : ∀ (q0 : Int32) (q1 : Int32) (q2 : Int32) (τ : ST), LQ u w τ → LQP u w (K116 q0 q1 q2 τ)) {l2 : Int32} {l3 : Int32} {l5 : Int32} {σ : ST} (h_σ : LQ u w σ) : LQP u w (fX1_joinTwo_0b183 K116 l2 l3 l5 σ) := by
  unfold fX1_joinTwo_0b183
  refine lqbd2 fun v183 _ => ?_
  exact hK116 _ _ _ _ h_σ
theorem lqb_fX1_joinTwo_0b175 {u w : Int64} {K116 : Int32 → Int32 → Int32 → ST → (Int32 × ST)} (hK116 : ∀ (q0 : Int32) (q1 : Int32) (q2 : Int32) (τ : ST), LQ u w τ → LQP u w (K116 q0 q1 q2 τ)) {l2 : Int32} {l3 : Int32} {l5 : Int32} {σ : ST} (h_σ : LQ u w σ) : LQP u w (fX1_joinTwo_0b175 K116 l2 l3 l5 σ) := by
  unfold fX1_joinTwo_0b175
  refine lqbd2 fun s182 e_s182 => ?_
  have h_s182 : LQ u w s182 := by rw [e_s182]; exact h_σ
  exact lqb_fX1_joinTwo_0b183 hK116 h_s182
theorem lqb_fX1_joinTwo_0b125 {u w : Int64} {K116 : Int32 → Int32 → Int32 → ST → (Int32 × ST)} (hK116 : ∀ (q0 : Int32) (q1 : Int32) (q2 : Int32) (τ : ST), LQ u w τ → LQP u w (K116 q0 q1 q2 τ)) {l2 : Int32} {l3 : Int32} {l5 : Int32} {σ : ST} (h_σ : LQ u w σ) : LQP u w (fX1_joinTwo_0b125 K116 l2 l3 l5 σ) := by
  unfold fX1_joinTwo_0b125
  refine lqbd2 fun v130 _ => ?_
  refine lqbd2 fun v134 _ => ?_
  refine lqbd2 fun v140 _ => ?_
  refine lqbd2 fun v143 _ => ?_
  refine lqbd2 fun v144 _ => ?_
  refine lqbd2 fun s145 e_s145 => ?_
  have h_s145 : LQ u w s145 := by rw [e_s145]; exact h_σ
  refine lqbd2 fun v152 _ => ?_
  refine lqbd2 fun v159 _ => ?_
  refine lqbd2 fun v162 _ => ?_
  refine lqbd2 fun s163 e_s163 => ?_
  have h_s163 : LQ u w s163 := by rw [e_s163]; exact h_s145
  refine lqbd2 fun v170 _ => ?_
  exact lqite2 (lqb_fX1_joinTwo_0b175 hK116 h_s163) (lqb_fX1_joinTwo_0b183 hK116 h_s163)
theorem lqb_fX1_joinTwo_0b116 {u w : Int64} {K116 : Int32 → Int32 → Int32 → ST → (Int32 × ST)} (hK116 : ∀ (q0 : Int32) (q1 : Int32) (q2 : Int32) (τ : ST), LQ u w τ → LQP u w (K116 q0 q1 q2 τ)) {l2 : Int32} {l3 : Int32} {l5 : Int32} {σ : ST} (h_σ : LQ u w σ) : LQP u w (fX1_joinTwo_0b116 K116 l2 l3 l5 σ) := by
  unfold fX1_joinTwo_0b116
  refine lqbd2 fun v119 _ => ?_
  exact lqite2 (lqb_fX1_joinTwo_0b189  h_σ) (lqb_fX1_joinTwo_0b125 hK116 h_σ)
theorem lqb_fX1_joinTwo_0l116 {u w : Int64}  : ∀ (fu : Nat) {q0 : Int32} {q1 : Int32} {q2 : Int32} {τ : ST} (h : LQ u w τ), LQP u w (fX1_joinTwo_0l116 fu q0 q1 q2 τ)
  | 0, _, _, _, _, h => h
  | fu + 1, _, _, _, _, h => lqb_fX1_joinTwo_0b116 (fun _ _ _ _ q => lqb_fX1_joinTwo_0l116  fu q) h
theorem lqb_fX1_joinTwo_0b113 {u w : Int64}  {l2 : Int32} {l3 : Int32} {σ : ST} (h_σ : LQ u w σ) : LQP u w (fX1_joinTwo_0b113 l2 l3 σ) := by
  unfold fX1_joinTwo_0b113
  exact lqb_fX1_joinTwo_0l116  _ h_σ
theorem lqb_fX1_joinTwo_0b107 {u w : Int64}  {l2 : Int32} {l3 : Int32} {σ : ST} (h_σ : LQ u w σ) : LQP u w (fX1_joinTwo_0b107 l2 l3 σ) := by
  unfold fX1_joinTwo_0b107
  exact lqite2 (lqb_fX1_joinTwo_0b113  h_σ) (lqb_fX1_joinTwo_0b111  h_σ)
theorem lqb_fX1_joinTwo_0b103 {u w : Int64}  {l2 : Int32} {l3 : Int32} {σ : ST} (h_σ : LQ u w σ) : LQP u w (fX1_joinTwo_0b103 l2 l3 σ) := by
  unfold fX1_joinTwo_0b103
  exact lqite2 (lqb_fX1_joinTwo_0b111  h_σ) (lqb_fX1_joinTwo_0b107  h_σ)
theorem lqb_fX1_joinTwo_0b97 {u w : Int64} {K10 : Int32 → Int32 → Int32 → Int32 → ST → (Int32 × ST)} (hK10 : ∀ (q0 : Int32) (q1 : Int32) (q2 : Int32) (q3 : Int32) (τ : ST), LQ u w τ → LQP u w (K10 q0 q1 q2 q3 τ)) {l2 : Int32} {l3 : Int32} {l4 : Int32} {l5 : Int32} {σ : ST} (h_σ : LQ u w σ) : LQP u w (fX1_joinTwo_0b97 K10 l2 l3 l4 l5 σ) := by
  unfold fX1_joinTwo_0b97
  refine lqbd2 fun v97 _ => ?_
  exact hK10 _ _ _ _ _ h_σ
theorem lqb_fX1_joinTwo_0b91 {u w : Int64} {K10 : Int32 → Int32 → Int32 → Int32 → ST → (Int32 × ST)} (hK10 : ∀ (q0 : Int32) (q1 : Int32) (q2 : Int32) (q3 : Int32) (τ : ST), LQ u w τ → LQP u w (K10 q0 q1 q2 q3 τ)) {K25 : Int32 → Int32 → Int32 → Int32 → Int32 → ST → (Int32 × ST)} (hK25 : ∀ (q0 : Int32) (q1 : Int32) (q2 : Int32) (q3 : Int32) (q4 : Int32) (τ : ST), LQ u w τ → LQP u w (K25 q0 q1 q2 q3 q4 τ)) {l2 : Int32} {l3 : Int32} {l4 : Int32} {l5 : Int32} {l6 : Int32} {σ : ST} (h_σ : LQ u w σ) : LQP u w (fX1_joinTwo_0b91 K10 K25 l2 l3 l4 l5 l6 σ) := by
  unfold fX1_joinTwo_0b91
  refine lqbd2 fun v91 _ => ?_
  exact hK25 _ _ _ _ _ _ h_σ
theorem lqb_fX1_joinTwo_0b73 {u w : Int64} {K10 : Int32 → Int32 → Int32 → Int32 → ST → (Int32 × ST)} (hK10 : ∀ (q0 : Int32) (q1 : Int32) (q2 : Int32) (q3 : Int32) (τ : ST), LQ u w τ → LQP u w (K10 q0 q1 q2 q3 τ)) {K25 : Int32 → Int32 → Int32 → Int32 → Int32 → ST → (Int32 × ST)} (hK25 : ∀ (q0 : Int32) (q1 : Int32) (q2 : Int32) (q3 : Int32) (q4 : Int32) (τ : ST), LQ u w τ → LQP u w (K25 q0 q1 q2 q3 q4 τ)) {l5 : Int32} {l6 : Int32} {σ : ST} (h_σ : LQ u w σ) : LQP u w (fX1_joinTwo_0b73 K10 K25 l5 l6 σ) := by
  unfold fX1_joinTwo_0b73
  refine lqbd2 fun v79 _ => ?_
  refine lqbd2 fun v82 _ => ?_
  exact lqb_fX1_joinTwo_0b91 hK10 hK25 h_σ
theorem lqb_fX1_joinTwo_0b58 {u w : Int64} {K10 : Int32 → Int32 → Int32 → Int32 → ST → (Int32 × ST)} (hK10 : ∀ (q0 : Int32) (q1 : Int32) (q2 : Int32) (q3 : Int32) (τ : ST), LQ u w τ → LQP u w (K10 q0 q1 q2 q3 τ)) {K25 : Int32 → Int32 → Int32 → Int32 → Int32 → ST → (Int32 × ST)} (hK25 : ∀ (q0 : Int32) (q1 : Int32) (q2 : Int32) (q3 : Int32) (q4 : Int32) (τ : ST), LQ u w τ → LQP u w (K25 q0 q1 q2 q3 q4 τ)) {l2 : Int32} {l3 : Int32} {l4 : Int32} {l5 : Int32} {l6 : Int32} {σ : ST} (h_σ : LQ u w σ) : LQP u w (fX1_joinTwo_0b58 K10 K25 l2 l3 l4 l5 l6 σ) := by
  unfold fX1_joinTwo_0b58
  refine lqbd2 fun v64 _ => ?_
  refine lqbd2 fun v67 _ => ?_
  exact lqite2 (lqb_fX1_joinTwo_0b91 hK10 hK25 h_σ) (lqb_fX1_joinTwo_0b73 hK10 hK25 h_σ)
theorem lqb_fX1_joinTwo_0b46 {u w : Int64} {K10 : Int32 → Int32 → Int32 → Int32 → ST → (Int32 × ST)} (hK10 : ∀ (q0 : Int32) (q1 : Int32) (q2 : Int32) (q3 : Int32) (τ : ST), LQ u w τ → LQP u w (K10 q0 q1 q2 q3 τ)) {K25 : Int32 → Int32 → Int32 → Int32 → Int32 → ST → (Int32 × ST)} (hK25 : ∀ (q0 : Int32) (q1 : Int32) (q2 : Int32) (q3 : Int32) (q4 : Int32) (τ : ST), LQ u w τ → LQP u w (K25 q0 q1 q2 q3 q4 τ)) {l2 : Int32} {l3 : Int32} {l4 : Int32} {l5 : Int32} {l6 : Int32} {σ : ST} (h_σ : LQ u w σ) : LQP u w (fX1_joinTwo_0b46 K10 K25 l2 l3 l4 l5 l6 σ) := by
  unfold fX1_joinTwo_0b46
  refine lqbd2 fun v52 _ => ?_
  exact lqite2 (lqb_fX1_joinTwo_0b58 hK10 hK25 h_σ) (lqb_fX1_joinTwo_0b91 hK10 hK25 h_σ)
theorem lqb_fX1_joinTwo_0b34 {u w : Int64} {K10 : Int32 → Int32 → Int32 → Int32 → ST → (Int32 × ST)} (hK10 : ∀ (q0 : Int32) (q1 : Int32) (q2 : Int32) (q3 : Int32) (τ : ST), LQ u w τ → LQP u w (K10 q0 q1 q2 q3 τ)) {K25 : Int32 → Int32 → Int32 → Int32 → Int32 → ST → (Int32 × ST)} (hK25 : ∀ (q0 : Int32) (q1 : Int32) (q2 : Int32) (q3 : Int32) (q4 : Int32) (τ : ST), LQ u w τ → LQP u w (K25 q0 q1 q2 q3 q4 τ)) {l2 : Int32} {l3 : Int32} {l4 : Int32} {l5 : Int32} {l6 : Int32} {σ : ST} (h_σ : LQ u w σ) : LQP u w (fX1_joinTwo_0b34 K10 K25 l2 l3 l4 l5 l6 σ) := by
  unfold fX1_joinTwo_0b34
  refine lqbd2 fun v40 _ => ?_
  exact lqite2 (lqb_fX1_joinTwo_0b46 hK10 hK25 h_σ) (lqb_fX1_joinTwo_0b91 hK10 hK25 h_σ)
theorem lqb_fX1_joinTwo_0b25 {u w : Int64} {K10 : Int32 → Int32 → Int32 → Int32 → ST → (Int32 × ST)} (hK10 : ∀ (q0 : Int32) (q1 : Int32) (q2 : Int32) (q3 : Int32) (τ : ST), LQ u w τ → LQP u w (K10 q0 q1 q2 q3 τ)) {K25 : Int32 → Int32 → Int32 → Int32 → Int32 → ST → (Int32 × ST)} (hK25 : ∀ (q0 : Int32) (q1 : Int32) (q2 : Int32) (q3 : Int32) (q4 : Int32) (τ : ST), LQ u w τ → LQP u w (K25 q0 q1 q2 q3 q4 τ)) {l2 : Int32} {l3 : Int32} {l4 : Int32} {l5 : Int32} {l6 : Int32} {σ : ST} (h_σ : LQ u w σ) : LQP u w (fX1_joinTwo_0b25 K10 K25 l2 l3 l4 l5 l6 σ) := by
  unfold fX1_joinTwo_0b25
  refine lqbd2 fun v28 _ => ?_
  exact lqite2 (lqb_fX1_joinTwo_0b97 hK10 h_σ) (lqb_fX1_joinTwo_0b34 hK10 hK25 h_σ)
theorem lqb_fX1_joinTwo_0l25 {u w : Int64} {K10 : Int32 → Int32 → Int32 → Int32 → ST → (Int32 × ST)} (hK10 : ∀ (q0 : Int32) (q1 : Int32) (q2 : Int32) (q3 : Int32) (τ : ST), LQ u w τ → LQP u w (K10 q0 q1 q2 q3 τ)) : ∀ (fu : Nat) {q0 : Int32} {q1 : Int32} {q2 : Int32} {q3 : Int32} {q4 : Int32} {τ : ST} (h : LQ u w τ), LQP u w (fX1_joinTwo_0l25 K10 fu q0 q1 q2 q3 q4 τ)
  | 0, _, _, _, _, _, _, h => h
  | fu + 1, _, _, _, _, _, _, h => lqb_fX1_joinTwo_0b25 hK10 (fun _ _ _ _ _ _ q => lqb_fX1_joinTwo_0l25 hK10 fu q) h
theorem lqb_fX1_joinTwo_0b19 {u w : Int64} {K10 : Int32 → Int32 → Int32 → Int32 → ST → (Int32 × ST)} (hK10 : ∀ (q0 : Int32) (q1 : Int32) (q2 : Int32) (q3 : Int32) (τ : ST), LQ u w τ → LQP u w (K10 q0 q1 q2 q3 τ)) {l2 : Int32} {l3 : Int32} {l4 : Int32} {l5 : Int32} {σ : ST} (h_σ : LQ u w σ) : LQP u w (fX1_joinTwo_0b19 K10 l2 l3 l4 l5 σ) := by
  unfold fX1_joinTwo_0b19
  refine lqbd2 fun v22 _ => ?_
  exact lqb_fX1_joinTwo_0l25 hK10 _ h_σ
theorem lqb_fX1_joinTwo_0b10 {u w : Int64} {K10 : Int32 → Int32 → Int32 → Int32 → ST → (Int32 × ST)} (hK10 : ∀ (q0 : Int32) (q1 : Int32) (q2 : Int32) (q3 : Int32) (τ : ST), LQ u w τ → LQP u w (K10 q0 q1 q2 q3 τ)) {l2 : Int32} {l3 : Int32} {l4 : Int32} {l5 : Int32} {σ : ST} (h_σ : LQ u w σ) : LQP u w (fX1_joinTwo_0b10 K10 l2 l3 l4 l5 σ) := by
  unfold fX1_joinTwo_0b10
  refine lqbd2 fun v13 _ => ?_
  exact lqite2 (lqb_fX1_joinTwo_0b103  h_σ) (lqb_fX1_joinTwo_0b19 hK10 h_σ)
theorem lqb_fX1_joinTwo_0l10 {u w : Int64}  : ∀ (fu : Nat) {q0 : Int32} {q1 : Int32} {q2 : Int32} {q3 : Int32} {τ : ST} (h : LQ u w τ), LQP u w (fX1_joinTwo_0l10 fu q0 q1 q2 q3 τ)
  | 0, _, _, _, _, _, h => h
  | fu + 1, _, _, _, _, _, h => lqb_fX1_joinTwo_0b10 (fun _ _ _ _ _ q => lqb_fX1_joinTwo_0l10  fu q) h
theorem lqb_fX1_joinTwo_0b0 {u w : Int64}  {σ : ST} (h_σ : LQ u w σ) : LQP u w (fX1_joinTwo_0b0 σ) := by
  unfold fX1_joinTwo_0b0
  exact lqb_fX1_joinTwo_0l10  _ h_σ
theorem lq_fX1_joinTwo_0 {u w : Int64} {σ : ST} (h : LQ u w σ) : LQ u w (fX1_joinTwo_0 σ).2 := lqb_fX1_joinTwo_0b0 h
theorem lqb_fX1_join_0b83 {u w : Int64}  {σ : ST} (h_σ : LQ u w σ) : LQ u w (fX1_join_0b83 σ) := by
  unfold fX1_join_0b83
  refine lqbd fun v85 _ => ?_
  refine lqbd fun s88 e_s88 => ?_
  have h_s88 : LQ u w s88 := by rw [e_s88]; exact lq_fX4_numberHeaps_0 h_σ
  refine lqbd fun v94 _ => ?_
  refine lqbd fun s97 e_s97 => ?_
  have h_s97 : LQ u w s97 := by rw [e_s97]; exact h_s88
  exact h_s97
theorem lqb_fX1_join_0b71 {u w : Int64} {K59 : Int32 → Int32 → ST → ST} (hK59 : ∀ (q0 : Int32) (q1 : Int32) (τ : ST), LQ u w τ → LQ u w (K59 q0 q1 τ)) {l3 : Int32} {σ : ST} (h_σ : LQ u w σ) : LQ u w (fX1_join_0b71 K59 l3 σ) := by
  unfold fX1_join_0b71
  refine lqbp fun v73 s73 e_s73 => ?_
  have h_s73 : LQ u w s73 := by rw [← e_s73]; exact lq_fX1_joinTwo_0 h_σ
  refine lqbd fun v77 _ => ?_
  exact hK59 _ _ _ h_s73
theorem lqb_fX1_join_0b67 {u w : Int64} {K59 : Int32 → Int32 → ST → ST} (hK59 : ∀ (q0 : Int32) (q1 : Int32) (τ : ST), LQ u w τ → LQ u w (K59 q0 q1 τ)) {l2 : Int32} {l3 : Int32} {σ : ST} (h_σ : LQ u w σ) : LQ u w (fX1_join_0b67 K59 l2 l3 σ) := by
  unfold fX1_join_0b67
  exact lqite (lqb_fX1_join_0b83  h_σ) (lqb_fX1_join_0b71 hK59 h_σ)
theorem lqb_fX1_join_0b59 {u w : Int64} {K59 : Int32 → Int32 → ST → ST} (hK59 : ∀ (q0 : Int32) (q1 : Int32) (τ : ST), LQ u w τ → LQ u w (K59 q0 q1 τ)) {l2 : Int32} {l3 : Int32} {σ : ST} (h_σ : LQ u w σ) : LQ u w (fX1_join_0b59 K59 l2 l3 σ) := by
  unfold fX1_join_0b59
  refine lqbd fun v61 _ => ?_
  exact lqite (lqb_fX1_join_0b83  h_σ) (lqb_fX1_join_0b67 hK59 h_σ)
theorem lqb_fX1_join_0l59 {u w : Int64}  : ∀ (fu : Nat) {q0 : Int32} {q1 : Int32} {τ : ST} (h : LQ u w τ), LQ u w (fX1_join_0l59 fu q0 q1 τ)
  | 0, _, _, _, h => h
  | fu + 1, _, _, _, h => lqb_fX1_join_0b59 (fun _ _ _ q => lqb_fX1_join_0l59  fu q) h
theorem lqb_fX1_join_0b55 {u w : Int64}  {σ : ST} (h_σ : LQ u w σ) : LQ u w (fX1_join_0b55 σ) := by
  unfold fX1_join_0b55
  exact lqb_fX1_join_0l59  _ h_σ
theorem lqb_fX1_join_0b49 {u w : Int64} {K2 : Int32 → ST → ST} (hK2 : ∀ (q0 : Int32) (τ : ST), LQ u w τ → LQ u w (K2 q0 τ)) {l2 : Int32} {σ : ST} (h_σ : LQ u w σ) : LQ u w (fX1_join_0b49 K2 l2 σ) := by
  unfold fX1_join_0b49
  refine lqbd fun v49 _ => ?_
  exact hK2 _ _ h_σ
theorem lqb_fX1_join_0b27 {u w : Int64} {K2 : Int32 → ST → ST} (hK2 : ∀ (q0 : Int32) (τ : ST), LQ u w τ → LQ u w (K2 q0 τ)) {K19 : Int32 → Int32 → ST → ST} (hK19 : ∀ (q0 : Int32) (q1 : Int32) (τ : ST), LQ u w τ → LQ u w (K19 q0 q1 τ)) {l2 : Int32} {l3 : Int32} {σ : ST} (h_σ : LQ u w σ) : LQ u w (fX1_join_0b27 K2 K19 l2 l3 σ) := by
  unfold fX1_join_0b27
  refine lqbd fun v32 _ => ?_
  refine lqbd fun v39 _ => ?_
  refine lqbd fun v41 _ => ?_
  refine lqbd fun s42 e_s42 => ?_
  have h_s42 : LQ u w s42 := by rw [e_s42]; exact h_σ
  refine lqbd fun v43 _ => ?_
  exact hK19 _ _ _ h_s42
theorem lqb_fX1_join_0b19 {u w : Int64} {K2 : Int32 → ST → ST} (hK2 : ∀ (q0 : Int32) (τ : ST), LQ u w τ → LQ u w (K2 q0 τ)) {K19 : Int32 → Int32 → ST → ST} (hK19 : ∀ (q0 : Int32) (q1 : Int32) (τ : ST), LQ u w τ → LQ u w (K19 q0 q1 τ)) {l2 : Int32} {l3 : Int32} {σ : ST} (h_σ : LQ u w σ) : LQ u w (fX1_join_0b19 K2 K19 l2 l3 σ) := by
  unfold fX1_join_0b19
  refine lqbd fun v21 _ => ?_
  exact lqite (lqb_fX1_join_0b49 hK2 h_σ) (lqb_fX1_join_0b27 hK2 hK19 h_σ)
theorem lqb_fX1_join_0l19 {u w : Int64} {K2 : Int32 → ST → ST} (hK2 : ∀ (q0 : Int32) (τ : ST), LQ u w τ → LQ u w (K2 q0 τ)) : ∀ (fu : Nat) {q0 : Int32} {q1 : Int32} {τ : ST} (h : LQ u w τ), LQ u w (fX1_join_0l19 K2 fu q0 q1 τ)
  | 0, _, _, _, h => h
  | fu + 1, _, _, _, h => lqb_fX1_join_0b19 hK2 (fun _ _ _ q => lqb_fX1_join_0l19 hK2 fu q) h
theorem lqb_fX1_join_0b10 {u w : Int64} {K2 : Int32 → ST → ST} (hK2 : ∀ (q0 : Int32) (τ : ST), LQ u w τ → LQ u w (K2 q0 τ)) {l2 : Int32} {σ : ST} (h_σ : LQ u w σ) : LQ u w (fX1_join_0b10 K2 l2 σ) := by
  unfold fX1_join_0b10
  refine lqbd fun s16 e_s16 => ?_
  have h_s16 : LQ u w s16 := by rw [e_s16]; exact h_σ
  exact lqb_fX1_join_0l19 hK2 _ h_s16
theorem lqb_fX1_join_0b2 {u w : Int64} {K2 : Int32 → ST → ST} (hK2 : ∀ (q0 : Int32) (τ : ST), LQ u w τ → LQ u w (K2 q0 τ)) {l2 : Int32} {σ : ST} (h_σ : LQ u w σ) : LQ u w (fX1_join_0b2 K2 l2 σ) := by
  unfold fX1_join_0b2
  refine lqbd fun v4 _ => ?_
  exact lqite (lqb_fX1_join_0b55  h_σ) (lqb_fX1_join_0b10 hK2 h_σ)
theorem lqb_fX1_join_0l2 {u w : Int64}  : ∀ (fu : Nat) {q0 : Int32} {τ : ST} (h : LQ u w τ), LQ u w (fX1_join_0l2 fu q0 τ)
  | 0, _, _, h => h
  | fu + 1, _, _, h => lqb_fX1_join_0b2 (fun _ _ q => lqb_fX1_join_0l2  fu q) h
theorem lqb_fX1_join_0b0 {u w : Int64}  {σ : ST} (h_σ : LQ u w σ) : LQ u w (fX1_join_0b0 σ) := by
  unfold fX1_join_0b0
  exact lqb_fX1_join_0l2  _ h_σ
theorem lq_fX1_join_0 {u w : Int64} {σ : ST} (h : LQ u w σ) : LQ u w (fX1_join_0 σ) := lqb_fX1_join_0b0 h
theorem lqb_fX5_add_0b60 {u w : Int64}  {l4 : Int32} {σ : ST} (h_σ : LQ u w σ) : LQP u w (fX5_add_0b60 l4 σ) := by
  unfold fX5_add_0b60
  refine lqbd2 fun v62 _ => ?_
  refine lqbd2 fun v66 _ => ?_
  refine lqbd2 fun s67 e_s67 => ?_
  have h_s67 : LQ u w s67 := by rw [e_s67]; exact h_σ
  exact h_s67
theorem lqb_fX5_add_0b35 {u w : Int64} {K29 : Int32 → Int32 → Int32 → ST → (Int32 × ST)} (hK29 : ∀ (q0 : Int32) (q1 : Int32) (q2 : Int32) (τ : ST), LQ u w τ → LQP u w (K29 q0 q1 q2 τ)) {l2 : Int32} {l4 : Int32} {l5 : Int32} {σ : ST} (h_σ : LQ u w σ) : LQP u w (fX5_add_0b35 K29 l2 l4 l5 σ) := by
  unfold fX5_add_0b35
  refine lqbd2 fun v42 _ => ?_
  refine lqbd2 fun v45 _ => ?_
  refine lqbd2 fun v50 _ => ?_
  refine lqbd2 fun s53 e_s53 => ?_
  have h_s53 : LQ u w s53 := by rw [e_s53]; exact h_σ
  refine lqbd2 fun v54 _ => ?_
  exact hK29 _ _ _ _ h_s53
theorem lqb_fX5_add_0b29 {u w : Int64} {K29 : Int32 → Int32 → Int32 → ST → (Int32 × ST)} (hK29 : ∀ (q0 : Int32) (q1 : Int32) (q2 : Int32) (τ : ST), LQ u w τ → LQP u w (K29 q0 q1 q2 τ)) {l2 : Int32} {l4 : Int32} {l5 : Int32} {σ : ST} (h_σ : LQ u w σ) : LQP u w (fX5_add_0b29 K29 l2 l4 l5 σ) := by
  unfold fX5_add_0b29
  exact lqite2 (lqb_fX5_add_0b60  h_σ) (lqb_fX5_add_0b35 hK29 h_σ)
theorem lqb_fX5_add_0l29 {u w : Int64}  : ∀ (fu : Nat) {q0 : Int32} {q1 : Int32} {q2 : Int32} {τ : ST} (h : LQ u w τ), LQP u w (fX5_add_0l29 fu q0 q1 q2 τ)
  | 0, _, _, _, _, h => h
  | fu + 1, _, _, _, _, h => lqb_fX5_add_0b29 (fun _ _ _ _ q => lqb_fX5_add_0l29  fu q) h
theorem lqb_fX5_add_0b12 {u w : Int64}  {l2 : Int32} {l3 : Int32} {σ : ST} (h_σ : LQ u w σ) : LQP u w (fX5_add_0b12 l2 l3 σ) := by
  unfold fX5_add_0b12
  refine lqbd2 fun v13 _ => ?_
  refine lqbd2 fun s25 e_s25 => ?_
  have h_s25 : LQ u w s25 := by rw [e_s25]; exact h_σ
  exact lqb_fX5_add_0l29  _ h_s25
theorem lqb_fX5_add_0b9 {u w : Int64}  {σ : ST} (h_σ : LQ u w σ) : LQP u w (fX5_add_0b9 σ) := by
  unfold fX5_add_0b9
  exact h_σ
theorem lqb_fX5_add_0b0 {u w : Int64}  {l2 : Int32} {l3 : Int32} {σ : ST} (h_σ : LQ u w σ) : LQP u w (fX5_add_0b0 l2 l3 σ) := by
  unfold fX5_add_0b0
  refine lqbd2 fun v1 _ => ?_
  exact lqite2 (lqb_fX5_add_0b12  h_σ) (lqb_fX5_add_0b9  h_σ)
theorem lq_fX5_add_0 {u w : Int64} {p2 : Int32} {p3 : Int32} {σ : ST} (h : LQ u w σ) : LQ u w (fX5_add_0 p2 p3 σ).2 := lqb_fX5_add_0b0 h
theorem lqb_fX5_remove_0b88 {u w : Int64}  {l2 : Int32} {σ : ST} (h_σ : LQ u w σ) : LQP u w (fX5_remove_0b88 l2 σ) := by
  unfold fX5_remove_0b88
  refine lqbd2 fun v90 _ => ?_
  refine lqbd2 fun v94 _ => ?_
  refine lqbd2 fun s95 e_s95 => ?_
  have h_s95 : LQ u w s95 := by rw [e_s95]; exact h_σ
  exact h_s95
theorem lqb_fX5_remove_0b82 {u w : Int64} {K19 : Int32 → Int32 → ST → (Int32 × ST)} (hK19 : ∀ (q0 : Int32) (q1 : Int32) (τ : ST), LQ u w τ → LQP u w (K19 q0 q1 τ)) {l2 : Int32} {l3 : Int32} {σ : ST} (h_σ : LQ u w σ) : LQP u w (fX5_remove_0b82 K19 l2 l3 σ) := by
  unfold fX5_remove_0b82
  refine lqbd2 fun v82 _ => ?_
  exact hK19 _ _ _ h_σ
theorem lqb_fX5_remove_0b52 {u w : Int64} {K19 : Int32 → Int32 → ST → (Int32 × ST)} (hK19 : ∀ (q0 : Int32) (q1 : Int32) (τ : ST), LQ u w τ → LQP u w (K19 q0 q1 τ)) {K46 : Int32 → Int32 → Int32 → ST → (Int32 × ST)} (hK46 : ∀ (q0 : Int32) (q1 : Int32) (q2 : Int32) (τ : ST), LQ u w τ → LQP u w (K46 q0 q1 q2 τ)) {l2 : Int32} {l3 : Int32} {l4 : Int32} {σ : ST} (h_σ : LQ u w σ) : LQP u w (fX5_remove_0b52 K19 K46 l2 l3 l4 σ) := by
  unfold fX5_remove_0b52
  refine lqbd2 fun v58 _ => ?_
  refine lqbd2 fun v61 _ => ?_
  refine lqbd2 fun v68 _ => ?_
  refine lqbd2 fun v70 _ => ?_
  refine lqbd2 fun v73 _ => ?_
  refine lqbd2 fun v74 _ => ?_
  refine lqbd2 fun s75 e_s75 => ?_
  have h_s75 : LQ u w s75 := by rw [e_s75]; exact h_σ
  refine lqbd2 fun v76 _ => ?_
  exact hK46 _ _ _ _ h_s75
theorem lqb_fX5_remove_0b46 {u w : Int64} {K19 : Int32 → Int32 → ST → (Int32 × ST)} (hK19 : ∀ (q0 : Int32) (q1 : Int32) (τ : ST), LQ u w τ → LQP u w (K19 q0 q1 τ)) {K46 : Int32 → Int32 → Int32 → ST → (Int32 × ST)} (hK46 : ∀ (q0 : Int32) (q1 : Int32) (q2 : Int32) (τ : ST), LQ u w τ → LQP u w (K46 q0 q1 q2 τ)) {l2 : Int32} {l3 : Int32} {l4 : Int32} {σ : ST} (h_σ : LQ u w σ) : LQP u w (fX5_remove_0b46 K19 K46 l2 l3 l4 σ) := by
  unfold fX5_remove_0b46
  exact lqite2 (lqb_fX5_remove_0b82 hK19 h_σ) (lqb_fX5_remove_0b52 hK19 hK46 h_σ)
theorem lqb_fX5_remove_0l46 {u w : Int64} {K19 : Int32 → Int32 → ST → (Int32 × ST)} (hK19 : ∀ (q0 : Int32) (q1 : Int32) (τ : ST), LQ u w τ → LQP u w (K19 q0 q1 τ)) : ∀ (fu : Nat) {q0 : Int32} {q1 : Int32} {q2 : Int32} {τ : ST} (h : LQ u w τ), LQP u w (fX5_remove_0l46 K19 fu q0 q1 q2 τ)
  | 0, _, _, _, _, h => h
  | fu + 1, _, _, _, _, h => lqb_fX5_remove_0b46 hK19 (fun _ _ _ _ q => lqb_fX5_remove_0l46 hK19 fu q) h
theorem lqb_fX5_remove_0b29 {u w : Int64} {K19 : Int32 → Int32 → ST → (Int32 × ST)} (hK19 : ∀ (q0 : Int32) (q1 : Int32) (τ : ST), LQ u w τ → LQP u w (K19 q0 q1 τ)) {l2 : Int32} {l3 : Int32} {σ : ST} (h_σ : LQ u w σ) : LQP u w (fX5_remove_0b29 K19 l2 l3 σ) := by
  unfold fX5_remove_0b29
  refine lqbd2 fun v40 _ => ?_
  refine lqbd2 fun v41 _ => ?_
  refine lqbd2 fun s42 e_s42 => ?_
  have h_s42 : LQ u w s42 := by rw [e_s42]; exact h_σ
  exact lqb_fX5_remove_0l46 hK19 _ h_s42
theorem lqb_fX5_remove_0b19 {u w : Int64} {K19 : Int32 → Int32 → ST → (Int32 × ST)} (hK19 : ∀ (q0 : Int32) (q1 : Int32) (τ : ST), LQ u w τ → LQP u w (K19 q0 q1 τ)) {l2 : Int32} {l3 : Int32} {σ : ST} (h_σ : LQ u w σ) : LQP u w (fX5_remove_0b19 K19 l2 l3 σ) := by
  unfold fX5_remove_0b19
  refine lqbd2 fun v21 _ => ?_
  refine lqbd2 fun v25 _ => ?_
  exact lqite2 (lqb_fX5_remove_0b88  h_σ) (lqb_fX5_remove_0b29 hK19 h_σ)
theorem lqb_fX5_remove_0l19 {u w : Int64}  : ∀ (fu : Nat) {q0 : Int32} {q1 : Int32} {τ : ST} (h : LQ u w τ), LQP u w (fX5_remove_0l19 fu q0 q1 τ)
  | 0, _, _, _, h => h
  | fu + 1, _, _, _, h => lqb_fX5_remove_0b19 (fun _ _ _ q => lqb_fX5_remove_0l19  fu q) h
theorem lqb_fX5_remove_0b10 {u w : Int64}  {l1 : Int32} {σ : ST} (h_σ : LQ u w σ) : LQP u w (fX5_remove_0b10 l1 σ) := by
  unfold fX5_remove_0b10
  refine lqbd2 fun v15 _ => ?_
  exact lqb_fX5_remove_0l19  _ h_σ
theorem lqb_fX5_remove_0b8 {u w : Int64}  {σ : ST} (h_σ : LQ u w σ) : LQP u w (fX5_remove_0b8 σ) := by
  unfold fX5_remove_0b8
  exact h_σ
theorem lqb_fX5_remove_0b0 {u w : Int64}  {l1 : Int32} {σ : ST} (h_σ : LQ u w σ) : LQP u w (fX5_remove_0b0 l1 σ) := by
  unfold fX5_remove_0b0
  refine lqbd2 fun v2 _ => ?_
  exact lqite2 (lqb_fX5_remove_0b8  h_σ) (lqb_fX5_remove_0b10  h_σ)
theorem lq_fX5_remove_0 {u w : Int64} {p1 : Int32} {σ : ST} (h : LQ u w σ) : LQ u w (fX5_remove_0 p1 σ).2 := lqb_fX5_remove_0b0 h
theorem lqb_fX11_forget_0b23 {u w : Int64}  {t0 : Int32} {σ : ST} (h_σ : LQ u w σ) : LQP u w (fX11_forget_0b23 t0 σ) := by
  unfold fX11_forget_0b23
  exact h_σ
theorem lqb_fX11_forget_0b22 {u w : Int64}  {σ : ST} (h_σ : LQ u w σ) : LQP u w (fX11_forget_0b22 σ) := by
  unfold fX11_forget_0b22
  exact lqb_fX11_forget_0b23  h_σ
theorem lqb_fX11_forget_0b11 {u w : Int64}  {l1 : Int32} {σ : ST} (h_σ : LQ u w σ) : LQP u w (fX11_forget_0b11 l1 σ) := by
  unfold fX11_forget_0b11
  refine lqbp2 fun v16 s16 e_s16 => ?_
  have h_s16 : LQ u w s16 := by rw [← e_s16]; exact lq_fX5_remove_0 h_σ
  exact lqb_fX11_forget_0b23  h_s16
theorem lqb_fX11_forget_0b0 {u w : Int64}  {l1 : Int32} {σ : ST} (h_σ : LQ u w σ) : LQP u w (fX11_forget_0b0 l1 σ) := by
  unfold fX11_forget_0b0
  refine lqbd2 fun v5 _ => ?_
  exact lqite2 (lqb_fX11_forget_0b22  h_σ) (lqb_fX11_forget_0b11  h_σ)
theorem lq_fX11_forget_0 {u w : Int64} {p1 : Int32} {σ : ST} (h : LQ u w σ) : LQ u w (fX11_forget_0 p1 σ).2 := lqb_fX11_forget_0b0 h
theorem lqb_fX5_fillOffs_0b84 {u w : Int64}  {σ : ST} (h_σ : LQ u w σ) : LQ u w (fX5_fillOffs_0b84 σ) := by
  unfold fX5_fillOffs_0b84
  exact h_σ
theorem lqb_fX5_fillOffs_0b78 {u w : Int64} {K10 : Int32 → Int32 → Int32 → ST → ST} (hK10 : ∀ (q0 : Int32) (q1 : Int32) (q2 : Int32) (τ : ST), LQ u w τ → LQ u w (K10 q0 q1 q2 τ)) {l2 : Int32} {l3 : Int32} {l4 : Int32} {σ : ST} (h_σ : LQ u w σ) : LQ u w (fX5_fillOffs_0b78 K10 l2 l3 l4 σ) := by
  unfold fX5_fillOffs_0b78
  refine lqbd fun v78 _ => ?_
  exact hK10 _ _ _ _ h_σ
theorem lqb_fX5_fillOffs_0b52 {u w : Int64} {K10 : Int32 → Int32 → Int32 → ST → ST} (hK10 : ∀ (q0 : Int32) (q1 : Int32) (q2 : Int32) (τ : ST), LQ u w τ → LQ u w (K10 q0 q1 q2 τ)) {K45 : Int32 → Int32 → Int32 → Int32 → Int32 → Int32 → ST → ST} (hK45 : ∀ (q0 : Int32) (q1 : Int32) (q2 : Int32) (q3 : Int32) (q4 : Int32) (q5 : Int32) (τ : ST), LQ u w τ → LQ u w (K45 q0 q1 q2 q3 q4 q5 τ)) {l2 : Int32} {l3 : Int32} {l4 : Int32} {l5 : Int32} {l6 : Int32} {l7 : Int32} {σ : ST} (h_σ : LQ u w σ) : LQ u w (fX5_fillOffs_0b52 K10 K45 l2 l3 l4 l5 l6 l7 σ) := by
  unfold fX5_fillOffs_0b52
  refine lqbd fun v60 _ => ?_
  refine lqbd fun v67 _ => ?_
  refine lqbd fun v70 _ => ?_
  refine lqbd fun s71 e_s71 => ?_
  have h_s71 : LQ u w s71 := by rw [e_s71]; exact h_σ
  refine lqbd fun v72 _ => ?_
  exact hK45 _ _ _ _ _ _ _ h_s71
theorem lqb_fX5_fillOffs_0b45 {u w : Int64} {K10 : Int32 → Int32 → Int32 → ST → ST} (hK10 : ∀ (q0 : Int32) (q1 : Int32) (q2 : Int32) (τ : ST), LQ u w τ → LQ u w (K10 q0 q1 q2 τ)) {K45 : Int32 → Int32 → Int32 → Int32 → Int32 → Int32 → ST → ST} (hK45 : ∀ (q0 : Int32) (q1 : Int32) (q2 : Int32) (q3 : Int32) (q4 : Int32) (q5 : Int32) (τ : ST), LQ u w τ → LQ u w (K45 q0 q1 q2 q3 q4 q5 τ)) {l2 : Int32} {l3 : Int32} {l4 : Int32} {l5 : Int32} {l6 : Int32} {l7 : Int32} {σ : ST} (h_σ : LQ u w σ) : LQ u w (fX5_fillOffs_0b45 K10 K45 l2 l3 l4 l5 l6 l7 σ) := by
  unfold fX5_fillOffs_0b45
  exact lqite (lqb_fX5_fillOffs_0b78 hK10 h_σ) (lqb_fX5_fillOffs_0b52 hK10 hK45 h_σ)
theorem lqb_fX5_fillOffs_0l45 {u w : Int64} {K10 : Int32 → Int32 → Int32 → ST → ST} (hK10 : ∀ (q0 : Int32) (q1 : Int32) (q2 : Int32) (τ : ST), LQ u w τ → LQ u w (K10 q0 q1 q2 τ)) : ∀ (fu : Nat) {q0 : Int32} {q1 : Int32} {q2 : Int32} {q3 : Int32} {q4 : Int32} {q5 : Int32} {τ : ST} (h : LQ u w τ), LQ u w (fX5_fillOffs_0l45 K10 fu q0 q1 q2 q3 q4 q5 τ)
  | 0, _, _, _, _, _, _, _, h => h
  | fu + 1, _, _, _, _, _, _, _, h => lqb_fX5_fillOffs_0b45 hK10 (fun _ _ _ _ _ _ _ q => lqb_fX5_fillOffs_0l45 hK10 fu q) h
theorem lqb_fX5_fillOffs_0b16 {u w : Int64} {K10 : Int32 → Int32 → Int32 → ST → ST} (hK10 : ∀ (q0 : Int32) (q1 : Int32) (q2 : Int32) (τ : ST), LQ u w τ → LQ u w (K10 q0 q1 q2 τ)) {l2 : Int32} {l3 : Int32} {l4 : Int32} {σ : ST} (h_σ : LQ u w σ) : LQ u w (fX5_fillOffs_0b16 K10 l2 l3 l4 σ) := by
  unfold fX5_fillOffs_0b16
  refine lqbd fun v23 _ => ?_
  refine lqbd fun v30 _ => ?_
  refine lqbd fun v31 _ => ?_
  refine lqbd fun v39 _ => ?_
  exact lqb_fX5_fillOffs_0l45 hK10 _ h_σ
theorem lqb_fX5_fillOffs_0b10 {u w : Int64} {K10 : Int32 → Int32 → Int32 → ST → ST} (hK10 : ∀ (q0 : Int32) (q1 : Int32) (q2 : Int32) (τ : ST), LQ u w τ → LQ u w (K10 q0 q1 q2 τ)) {l2 : Int32} {l3 : Int32} {l4 : Int32} {σ : ST} (h_σ : LQ u w σ) : LQ u w (fX5_fillOffs_0b10 K10 l2 l3 l4 σ) := by
  unfold fX5_fillOffs_0b10
  exact lqite (lqb_fX5_fillOffs_0b84  h_σ) (lqb_fX5_fillOffs_0b16 hK10 h_σ)
theorem lqb_fX5_fillOffs_0l10 {u w : Int64}  : ∀ (fu : Nat) {q0 : Int32} {q1 : Int32} {q2 : Int32} {τ : ST} (h : LQ u w τ), LQ u w (fX5_fillOffs_0l10 fu q0 q1 q2 τ)
  | 0, _, _, _, _, h => h
  | fu + 1, _, _, _, _, h => lqb_fX5_fillOffs_0b10 (fun _ _ _ _ q => lqb_fX5_fillOffs_0l10  fu q) h
theorem lqb_fX5_fillOffs_0b0 {u w : Int64}  {l2 : Int32} {l3 : Int32} {σ : ST} (h_σ : LQ u w σ) : LQ u w (fX5_fillOffs_0b0 l2 l3 σ) := by
  unfold fX5_fillOffs_0b0
  refine lqbd fun s6 e_s6 => ?_
  have h_s6 : LQ u w s6 := by rw [e_s6]; exact h_σ
  exact lqb_fX5_fillOffs_0l10  _ h_s6
theorem lq_fX5_fillOffs_0 {u w : Int64} {p2 : Int32} {p3 : Int32} {σ : ST} (h : LQ u w σ) : LQ u w (fX5_fillOffs_0 p2 p3 σ) := lqb_fX5_fillOffs_0b0 h
theorem lqb_fX5_dealsOf_0b31 {u w : Int64}  {σ : ST} (h_σ : LQ u w σ) : LQP u w (fX5_dealsOf_0b31 σ) := by
  unfold fX5_dealsOf_0b31
  exact h_σ
theorem lqb_fX5_dealsOf_0b94 {u w : Int64}  {l7 : Int32} {σ : ST} (h_σ : LQ u w σ) : LQP u w (fX5_dealsOf_0b94 l7 σ) := by
  unfold fX5_dealsOf_0b94
  exact h_σ
theorem lqb_fX5_dealsOf_0b88 {u w : Int64} {K45 : Int32 → Int32 → Int32 → Int32 → Int32 → Int32 → ST → (Int32 × ST)} (hK45 : ∀ (q0 : Int32) (q1 : Int32) (q2 : Int32) (q3 : Int32) (q4 : Int32) (q5 : Int32) (τ : ST), LQ u w τ → LQP u w (K45 q0 q1 q2 q3 q4 q5 τ)) {l2 : Int32} {l4 : Int32} {l5 : Int32} {l6 : Int32} {l7 : Int32} {l8 : Int32} {σ : ST} (h_σ : LQ u w σ) : LQP u w (fX5_dealsOf_0b88 K45 l2 l4 l5 l6 l7 l8 σ) := by
  unfold fX5_dealsOf_0b88
  refine lqbd2 fun v88 _ => ?_
  exact hK45 _ _ _ _ _ _ _ h_σ
theorem lqb_fX5_dealsOf_0b85 {u w : Int64} {K45 : Int32 → Int32 → Int32 → Int32 → Int32 → Int32 → ST → (Int32 × ST)} (hK45 : ∀ (q0 : Int32) (q1 : Int32) (q2 : Int32) (q3 : Int32) (q4 : Int32) (q5 : Int32) (τ : ST), LQ u w τ → LQP u w (K45 q0 q1 q2 q3 q4 q5 τ)) {l2 : Int32} {l4 : Int32} {l5 : Int32} {l6 : Int32} {l7 : Int32} {l8 : Int32} {σ : ST} (h_σ : LQ u w σ) : LQP u w (fX5_dealsOf_0b85 K45 l2 l4 l5 l6 l7 l8 σ) := by
  unfold fX5_dealsOf_0b85
  refine lqbd2 fun v85 _ => ?_
  exact lqb_fX5_dealsOf_0b88 hK45 h_σ
theorem lqb_fX5_dealsOf_0b69 {u w : Int64} {K45 : Int32 → Int32 → Int32 → Int32 → Int32 → Int32 → ST → (Int32 × ST)} (hK45 : ∀ (q0 : Int32) (q1 : Int32) (q2 : Int32) (q3 : Int32) (q4 : Int32) (q5 : Int32) (τ : ST), LQ u w τ → LQP u w (K45 q0 q1 q2 q3 q4 q5 τ)) {l2 : Int32} {l4 : Int32} {l5 : Int32} {l6 : Int32} {l7 : Int32} {l8 : Int32} {σ : ST} (h_σ : LQ u w σ) : LQP u w (fX5_dealsOf_0b69 K45 l2 l4 l5 l6 l7 l8 σ) := by
  unfold fX5_dealsOf_0b69
  refine lqbd2 fun v75 _ => ?_
  refine lqbd2 fun v81 _ => ?_
  exact lqite2 (lqb_fX5_dealsOf_0b88 hK45 h_σ) (lqb_fX5_dealsOf_0b85 hK45 h_σ)
theorem lqb_fX5_dealsOf_0b64 {u w : Int64} {K45 : Int32 → Int32 → Int32 → Int32 → Int32 → Int32 → ST → (Int32 × ST)} (hK45 : ∀ (q0 : Int32) (q1 : Int32) (q2 : Int32) (q3 : Int32) (q4 : Int32) (q5 : Int32) (τ : ST), LQ u w τ → LQP u w (K45 q0 q1 q2 q3 q4 q5 τ)) {l2 : Int32} {l4 : Int32} {l5 : Int32} {l6 : Int32} {l7 : Int32} {l8 : Int32} {σ : ST} (h_σ : LQ u w σ) : LQP u w (fX5_dealsOf_0b64 K45 l2 l4 l5 l6 l7 l8 σ) := by
  unfold fX5_dealsOf_0b64
  exact lqite2 (lqb_fX5_dealsOf_0b69 hK45 h_σ) (lqb_fX5_dealsOf_0b85 hK45 h_σ)
theorem lqb_fX5_dealsOf_0b54 {u w : Int64} {K45 : Int32 → Int32 → Int32 → Int32 → Int32 → Int32 → ST → (Int32 × ST)} (hK45 : ∀ (q0 : Int32) (q1 : Int32) (q2 : Int32) (q3 : Int32) (q4 : Int32) (q5 : Int32) (τ : ST), LQ u w τ → LQP u w (K45 q0 q1 q2 q3 q4 q5 τ)) {l2 : Int32} {l4 : Int32} {l5 : Int32} {l6 : Int32} {l7 : Int32} {l8 : Int32} {σ : ST} (h_σ : LQ u w σ) : LQP u w (fX5_dealsOf_0b54 K45 l2 l4 l5 l6 l7 l8 σ) := by
  unfold fX5_dealsOf_0b54
  refine lqbd2 fun v56 _ => ?_
  exact lqite2 (lqb_fX5_dealsOf_0b64 hK45 h_σ) (lqb_fX5_dealsOf_0b88 hK45 h_σ)
theorem lqb_fX5_dealsOf_0b45 {u w : Int64} {K45 : Int32 → Int32 → Int32 → Int32 → Int32 → Int32 → ST → (Int32 × ST)} (hK45 : ∀ (q0 : Int32) (q1 : Int32) (q2 : Int32) (q3 : Int32) (q4 : Int32) (q5 : Int32) (τ : ST), LQ u w τ → LQP u w (K45 q0 q1 q2 q3 q4 q5 τ)) {l2 : Int32} {l4 : Int32} {l5 : Int32} {l6 : Int32} {l7 : Int32} {l8 : Int32} {σ : ST} (h_σ : LQ u w σ) : LQP u w (fX5_dealsOf_0b45 K45 l2 l4 l5 l6 l7 l8 σ) := by
  unfold fX5_dealsOf_0b45
  refine lqbd2 fun v50 _ => ?_
  exact lqite2 (lqb_fX5_dealsOf_0b94  h_σ) (lqb_fX5_dealsOf_0b54 hK45 h_σ)
theorem lqb_fX5_dealsOf_0l45 {u w : Int64}  : ∀ (fu : Nat) {q0 : Int32} {q1 : Int32} {q2 : Int32} {q3 : Int32} {q4 : Int32} {q5 : Int32} {τ : ST} (h : LQ u w τ), LQP u w (fX5_dealsOf_0l45 fu q0 q1 q2 q3 q4 q5 τ)
  | 0, _, _, _, _, _, _, _, h => h
  | fu + 1, _, _, _, _, _, _, _, h => lqb_fX5_dealsOf_0b45 (fun _ _ _ _ _ _ _ q => lqb_fX5_dealsOf_0l45  fu q) h
theorem lqb_fX5_dealsOf_0b33 {u w : Int64}  {l2 : Int32} {l4 : Int32} {l5 : Int32} {σ : ST} (h_σ : LQ u w σ) : LQP u w (fX5_dealsOf_0b33 l2 l4 l5 σ) := by
  unfold fX5_dealsOf_0b33
  refine lqbd2 fun v34 _ => ?_
  exact lqb_fX5_dealsOf_0l45  _ h_σ
theorem lqb_fX5_dealsOf_0b23 {u w : Int64}  {l2 : Int32} {l4 : Int32} {l5 : Int32} {σ : ST} (h_σ : LQ u w σ) : LQP u w (fX5_dealsOf_0b23 l2 l4 l5 σ) := by
  unfold fX5_dealsOf_0b23
  refine lqbd2 fun v27 _ => ?_
  exact lqite2 (lqb_fX5_dealsOf_0b33  h_σ) (lqb_fX5_dealsOf_0b31  h_σ)
theorem lqb_fX5_dealsOf_0b0 {u w : Int64}  {l2 : Int32} {l3 : Int32} {l4 : Int32} {σ : ST} (h_σ : LQ u w σ) : LQP u w (fX5_dealsOf_0b0 l2 l3 l4 σ) := by
  unfold fX5_dealsOf_0b0
  refine lqbd2 fun v1 _ => ?_
  refine lqbd2 fun v6 _ => ?_
  refine lqbd2 fun s16 e_s16 => ?_
  have h_s16 : LQ u w s16 := by rw [e_s16]; exact lq_fX5_fillOffs_0 h_σ
  exact lqite2 (lqb_fX5_dealsOf_0b31  h_s16) (lqb_fX5_dealsOf_0b23  h_s16)
theorem lq_fX5_dealsOf_0 {u w : Int64} {p2 : Int32} {p3 : Int32} {p4 : Int32} {σ : ST} (h : LQ u w σ) : LQ u w (fX5_dealsOf_0 p2 p3 p4 σ).2 := lqb_fX5_dealsOf_0b0 h
theorem lqb_fX10_add_0b12 {u w : Int64}  {l1 : Int32} {l2 : Int32} {σ : ST} (h_σ : LQ u w σ) : LQP u w (fX10_add_0b12 l1 l2 σ) := by
  unfold fX10_add_0b12
  refine lqbd2 fun v17 _ => ?_
  refine lqbd2 fun s21 e_s21 => ?_
  have h_s21 : LQ u w s21 := by rw [e_s21]; exact h_σ
  refine lqbd2 fun v27 _ => ?_
  refine lqbd2 fun s31 e_s31 => ?_
  have h_s31 : LQ u w s31 := by rw [e_s31]; exact h_s21
  refine lqbd2 fun v34 _ => ?_
  refine lqbd2 fun v38 _ => ?_
  refine lqbd2 fun s39 e_s39 => ?_
  have h_s39 : LQ u w s39 := by rw [e_s39]; exact h_s31
  refine lqbd2 fun v43 _ => ?_
  refine lqbd2 fun v47 _ => ?_
  exact h_s39
theorem lqb_fX10_add_0b9 {u w : Int64}  {σ : ST} (h_σ : LQ u w σ) : LQP u w (fX10_add_0b9 σ) := by
  unfold fX10_add_0b9
  exact h_σ
theorem lqb_fX10_add_0b0 {u w : Int64}  {l1 : Int32} {l2 : Int32} {σ : ST} (h_σ : LQ u w σ) : LQP u w (fX10_add_0b0 l1 l2 σ) := by
  unfold fX10_add_0b0
  refine lqbd2 fun v1 _ => ?_
  exact lqite2 (lqb_fX10_add_0b12  h_σ) (lqb_fX10_add_0b9  h_σ)
theorem lq_fX10_add_0 {u w : Int64} {p1 : Int32} {p2 : Int32} {σ : ST} (h : LQ u w σ) : LQ u w (fX10_add_0 p1 p2 σ).2 := lqb_fX10_add_0b0 h
theorem lqb_fX11_word_0b22 {u w : Int64}  {t0 : Int32} {σ : ST} (h_σ : LQ u w σ) : LQP u w (fX11_word_0b22 t0 σ) := by
  unfold fX11_word_0b22
  exact h_σ
theorem lqb_fX11_word_0b21 {u w : Int64}  {σ : ST} (h_σ : LQ u w σ) : LQP u w (fX11_word_0b21 σ) := by
  unfold fX11_word_0b21
  exact lqb_fX11_word_0b22  h_σ
theorem lqb_fX11_word_0b9 {u w : Int64}  {l1 : Int32} {l2 : Int32} {σ : ST} (h_σ : LQ u w σ) : LQP u w (fX11_word_0b9 l1 l2 σ) := by
  unfold fX11_word_0b9
  refine lqbp2 fun v15 s15 e_s15 => ?_
  have h_s15 : LQ u w s15 := by rw [← e_s15]; exact lq_fX10_add_0 h_σ
  exact lqb_fX11_word_0b22  h_s15
theorem lqb_fX11_word_0b0 {u w : Int64}  {l1 : Int32} {l2 : Int32} {σ : ST} (h_σ : LQ u w σ) : LQP u w (fX11_word_0b0 l1 l2 σ) := by
  unfold fX11_word_0b0
  refine lqbd2 fun v3 _ => ?_
  exact lqite2 (lqb_fX11_word_0b21  h_σ) (lqb_fX11_word_0b9  h_σ)
theorem lq_fX11_word_0 {u w : Int64} {p1 : Int32} {p2 : Int32} {σ : ST} (h : LQ u w σ) : LQ u w (fX11_word_0 p1 p2 σ).2 := lqb_fX11_word_0b0 h
theorem lqb_fX11_hung_0b26 {u w : Int64}  {σ : ST} (h_σ : LQ u w σ) : LQP u w (fX11_hung_0b26 σ) := by
  unfold fX11_hung_0b26
  exact h_σ
theorem lqb_fX11_hung_0b63 {u w : Int64}  {t0 : Int32} {σ : ST} (h_σ : LQ u w σ) : LQP u w (fX11_hung_0b63 t0 σ) := by
  unfold fX11_hung_0b63
  exact h_σ
theorem lqb_fX11_hung_0b51 {u w : Int64}  {l1 : Int32} {σ : ST} (h_σ : LQ u w σ) : LQP u w (fX11_hung_0b51 l1 σ) := by
  unfold fX11_hung_0b51
  refine lqbd2 fun v60 _ => ?_
  exact lqb_fX11_hung_0b63  h_σ
theorem lqb_fX11_hung_0b36 {u w : Int64}  {l1 : Int32} {σ : ST} (h_σ : LQ u w σ) : LQP u w (fX11_hung_0b36 l1 σ) := by
  unfold fX11_hung_0b36
  refine lqbd2 fun v45 _ => ?_
  exact lqb_fX11_hung_0b63  h_σ
theorem lqb_fX11_hung_0b28 {u w : Int64}  {l1 : Int32} {l2 : Int32} {σ : ST} (h_σ : LQ u w σ) : LQP u w (fX11_hung_0b28 l1 l2 σ) := by
  unfold fX11_hung_0b28
  refine lqbd2 fun s29 e_s29 => ?_
  have h_s29 : LQ u w s29 := by rw [e_s29]; exact lq_fX11_cutNow_0 h_σ
  exact lqite2 (lqb_fX11_hung_0b36  h_s29) (lqb_fX11_hung_0b51  h_s29)
theorem lqb_fX11_hung_0b17 {u w : Int64}  {l1 : Int32} {l2 : Int32} {σ : ST} (h_σ : LQ u w σ) : LQP u w (fX11_hung_0b17 l1 l2 σ) := by
  unfold fX11_hung_0b17
  refine lqbd2 fun v20 _ => ?_
  exact lqite2 (lqb_fX11_hung_0b26  h_σ) (lqb_fX11_hung_0b28  h_σ)
theorem lqb_fX11_hung_0b0 {u w : Int64}  {l1 : Int32} {l2 : Int32} {σ : ST} (h_σ : LQ u w σ) : LQP u w (fX11_hung_0b0 l1 l2 σ) := by
  unfold fX11_hung_0b0
  refine lqbd2 fun v6 _ => ?_
  refine lqbd2 fun v10 _ => ?_
  refine lqbd2 fun v11 _ => ?_
  exact lqite2 (lqb_fX11_hung_0b26  h_σ) (lqb_fX11_hung_0b17  h_σ)
theorem lq_fX11_hung_0 {u w : Int64} {p1 : Int32} {p2 : Int32} {σ : ST} (h : LQ u w σ) : LQ u w (fX11_hung_0 p1 p2 σ).2 := lqb_fX11_hung_0b0 h
theorem lqb_fX7_setTruth_0b53 {u w : Int64}  {l4 : Int32} {σ : ST} (h_σ : LQ u w σ) : LQP u w (fX7_setTruth_0b53 l4 σ) := by
  unfold fX7_setTruth_0b53
  exact h_σ
theorem lqb_fX7_setTruth_0b47 {u w : Int64} {K10 : Int32 → Int32 → Int32 → Int32 → ST → (Int32 × ST)} (hK10 : ∀ (q0 : Int32) (q1 : Int32) (q2 : Int32) (q3 : Int32) (τ : ST), LQ u w τ → LQP u w (K10 q0 q1 q2 q3 τ)) {l2 : Int32} {l3 : Int32} {l4 : Int32} {l5 : Int32} {σ : ST} (h_σ : LQ u w σ) : LQP u w (fX7_setTruth_0b47 K10 l2 l3 l4 l5 σ) := by
  unfold fX7_setTruth_0b47
  refine lqbd2 fun v47 _ => ?_
  exact hK10 _ _ _ _ _ h_σ
theorem lqb_fX7_setTruth_0b36 {u w : Int64} {K10 : Int32 → Int32 → Int32 → Int32 → ST → (Int32 × ST)} (hK10 : ∀ (q0 : Int32) (q1 : Int32) (q2 : Int32) (q3 : Int32) (τ : ST), LQ u w τ → LQP u w (K10 q0 q1 q2 q3 τ)) {l2 : Int32} {l3 : Int32} {l4 : Int32} {l5 : Int32} {σ : ST} (h_σ : LQ u w σ) : LQP u w (fX7_setTruth_0b36 K10 l2 l3 l4 l5 σ) := by
  unfold fX7_setTruth_0b36
  refine lqbd2 fun s43 e_s43 => ?_
  have h_s43 : LQ u w s43 := by rw [e_s43]; exact h_σ
  refine lqbd2 fun v44 _ => ?_
  exact lqb_fX7_setTruth_0b47 hK10 h_s43
theorem lqb_fX7_setTruth_0b25 {u w : Int64} {K10 : Int32 → Int32 → Int32 → Int32 → ST → (Int32 × ST)} (hK10 : ∀ (q0 : Int32) (q1 : Int32) (q2 : Int32) (q3 : Int32) (τ : ST), LQ u w τ → LQP u w (K10 q0 q1 q2 q3 τ)) {l2 : Int32} {l3 : Int32} {l4 : Int32} {l5 : Int32} {σ : ST} (h_σ : LQ u w σ) : LQP u w (fX7_setTruth_0b25 K10 l2 l3 l4 l5 σ) := by
  unfold fX7_setTruth_0b25
  refine lqbd2 fun v31 _ => ?_
  exact lqite2 (lqb_fX7_setTruth_0b47 hK10 h_σ) (lqb_fX7_setTruth_0b36 hK10 h_σ)
theorem lqb_fX7_setTruth_0b16 {u w : Int64} {K10 : Int32 → Int32 → Int32 → Int32 → ST → (Int32 × ST)} (hK10 : ∀ (q0 : Int32) (q1 : Int32) (q2 : Int32) (q3 : Int32) (τ : ST), LQ u w τ → LQP u w (K10 q0 q1 q2 q3 τ)) {l2 : Int32} {l3 : Int32} {l4 : Int32} {l5 : Int32} {σ : ST} (h_σ : LQ u w σ) : LQP u w (fX7_setTruth_0b16 K10 l2 l3 l4 l5 σ) := by
  unfold fX7_setTruth_0b16
  refine lqbd2 fun v19 _ => ?_
  exact lqite2 (lqb_fX7_setTruth_0b53  h_σ) (lqb_fX7_setTruth_0b25 hK10 h_σ)
theorem lqb_fX7_setTruth_0b10 {u w : Int64} {K10 : Int32 → Int32 → Int32 → Int32 → ST → (Int32 × ST)} (hK10 : ∀ (q0 : Int32) (q1 : Int32) (q2 : Int32) (q3 : Int32) (τ : ST), LQ u w τ → LQP u w (K10 q0 q1 q2 q3 τ)) {l2 : Int32} {l3 : Int32} {l4 : Int32} {l5 : Int32} {σ : ST} (h_σ : LQ u w σ) : LQP u w (fX7_setTruth_0b10 K10 l2 l3 l4 l5 σ) := by
  unfold fX7_setTruth_0b10
  exact lqite2 (lqb_fX7_setTruth_0b53  h_σ) (lqb_fX7_setTruth_0b16 hK10 h_σ)
theorem lqb_fX7_setTruth_0l10 {u w : Int64}  : ∀ (fu : Nat) {q0 : Int32} {q1 : Int32} {q2 : Int32} {q3 : Int32} {τ : ST} (h : LQ u w τ), LQP u w (fX7_setTruth_0l10 fu q0 q1 q2 q3 τ)
  | 0, _, _, _, _, _, h => h
  | fu + 1, _, _, _, _, _, h => lqb_fX7_setTruth_0b10 (fun _ _ _ _ _ q => lqb_fX7_setTruth_0l10  fu q) h
theorem lqb_fX7_setTruth_0b0 {u w : Int64}  {l1 : Int32} {l2 : Int32} {l3 : Int32} {σ : ST} (h_σ : LQ u w σ) : LQP u w (fX7_setTruth_0b0 l1 l2 l3 σ) := by
  unfold fX7_setTruth_0b0
  refine lqbd2 fun v5 _ => ?_
  exact lqb_fX7_setTruth_0l10  _ h_σ
theorem lq_fX7_setTruth_0 {u w : Int64} {p1 : Int32} {p2 : Int32} {p3 : Int32} {σ : ST} (h : LQ u w σ) : LQ u w (fX7_setTruth_0 p1 p2 p3 σ).2 := lqb_fX7_setTruth_0b0 h
theorem lqb_fX11_truth_0b32 {u w : Int64}  {t0 : Int32} {σ : ST} (h_σ : LQ u w σ) : LQP u w (fX11_truth_0b32 t0 σ) := by
  unfold fX11_truth_0b32
  exact h_σ
theorem lqb_fX11_truth_0b31 {u w : Int64}  {σ : ST} (h_σ : LQ u w σ) : LQP u w (fX11_truth_0b31 σ) := by
  unfold fX11_truth_0b31
  exact lqb_fX11_truth_0b32  h_σ
theorem lqb_fX11_truth_0b18 {u w : Int64}  {l1 : Int32} {l2 : Int32} {l3 : Int32} {σ : ST} (h_σ : LQ u w σ) : LQP u w (fX11_truth_0b18 l1 l2 l3 σ) := by
  unfold fX11_truth_0b18
  refine lqbp2 fun v25 s25 e_s25 => ?_
  have h_s25 : LQ u w s25 := by rw [← e_s25]; exact lq_fX7_setTruth_0 h_σ
  exact lqb_fX11_truth_0b32  h_s25
theorem lqb_fX11_truth_0b9 {u w : Int64}  {l1 : Int32} {l2 : Int32} {l3 : Int32} {σ : ST} (h_σ : LQ u w σ) : LQP u w (fX11_truth_0b9 l1 l2 l3 σ) := by
  unfold fX11_truth_0b9
  refine lqbd2 fun v12 _ => ?_
  exact lqite2 (lqb_fX11_truth_0b31  h_σ) (lqb_fX11_truth_0b18  h_σ)
theorem lqb_fX11_truth_0b0 {u w : Int64}  {l1 : Int32} {l2 : Int32} {l3 : Int32} {σ : ST} (h_σ : LQ u w σ) : LQP u w (fX11_truth_0b0 l1 l2 l3 σ) := by
  unfold fX11_truth_0b0
  refine lqbd2 fun v3 _ => ?_
  exact lqite2 (lqb_fX11_truth_0b31  h_σ) (lqb_fX11_truth_0b9  h_σ)
theorem lq_fX11_truth_0 {u w : Int64} {p1 : Int32} {p2 : Int32} {p3 : Int32} {σ : ST} (h : LQ u w σ) : LQ u w (fX11_truth_0 p1 p2 p3 σ).2 := lqb_fX11_truth_0b0 h
theorem lqb_fX9_countTogether_0b113 {u w : Int64}  {l4 : Int32} {σ : ST} (h_σ : LQ u w σ) : LQP u w (fX9_countTogether_0b113 l4 σ) := by
  unfold fX9_countTogether_0b113
  exact h_σ
theorem lqb_fX9_countTogether_0b107 {u w : Int64} {K33 : Int32 → Int32 → ST → (Int32 × ST)} (hK33 : ∀ (q0 : Int32) (q1 : Int32) (τ : ST), LQ u w τ → LQP u w (K33 q0 q1 τ)) {l4 : Int32} {l5 : Int32} {σ : ST} (h_σ : LQ u w σ) : LQP u w (fX9_countTogether_0b107 K33 l4 l5 σ) := by
  unfold fX9_countTogether_0b107
  refine lqbd2 fun v107 _ => ?_
  exact hK33 _ _ _ h_σ
theorem lqb_fX9_countTogether_0b85 {u w : Int64} {K33 : Int32 → Int32 → ST → (Int32 × ST)} (hK33 : ∀ (q0 : Int32) (q1 : Int32) (τ : ST), LQ u w τ → LQP u w (K33 q0 q1 τ)) {l4 : Int32} {l5 : Int32} {l6 : Int32} {l7 : Int32} {σ : ST} (h_σ : LQ u w σ) : LQP u w (fX9_countTogether_0b85 K33 l4 l5 l6 l7 σ) := by
  unfold fX9_countTogether_0b85
  refine lqbd2 fun v95 _ => ?_
  refine lqbd2 fun v96 _ => ?_
  refine lqbd2 fun v100 _ => ?_
  refine lqbd2 fun v102 _ => ?_
  refine lqbd2 fun s103 e_s103 => ?_
  have h_s103 : LQ u w s103 := by rw [e_s103]; exact h_σ
  refine lqbd2 fun v104 _ => ?_
  exact lqb_fX9_countTogether_0b107 hK33 h_s103
theorem lqb_fX9_countTogether_0b79 {u w : Int64} {K33 : Int32 → Int32 → ST → (Int32 × ST)} (hK33 : ∀ (q0 : Int32) (q1 : Int32) (τ : ST), LQ u w τ → LQP u w (K33 q0 q1 τ)) {l4 : Int32} {l5 : Int32} {l6 : Int32} {l7 : Int32} {σ : ST} (h_σ : LQ u w σ) : LQP u w (fX9_countTogether_0b79 K33 l4 l5 l6 l7 σ) := by
  unfold fX9_countTogether_0b79
  exact lqite2 (lqb_fX9_countTogether_0b107 hK33 h_σ) (lqb_fX9_countTogether_0b85 hK33 h_σ)
theorem lqb_fX9_countTogether_0b74 {u w : Int64} {K33 : Int32 → Int32 → ST → (Int32 × ST)} (hK33 : ∀ (q0 : Int32) (q1 : Int32) (τ : ST), LQ u w τ → LQP u w (K33 q0 q1 τ)) {l4 : Int32} {l5 : Int32} {l6 : Int32} {l7 : Int32} {σ : ST} (h_σ : LQ u w σ) : LQP u w (fX9_countTogether_0b74 K33 l4 l5 l6 l7 σ) := by
  unfold fX9_countTogether_0b74
  exact lqite2 (lqb_fX9_countTogether_0b107 hK33 h_σ) (lqb_fX9_countTogether_0b79 hK33 h_σ)
theorem lqb_fX9_countTogether_0b67 {u w : Int64} {K33 : Int32 → Int32 → ST → (Int32 × ST)} (hK33 : ∀ (q0 : Int32) (q1 : Int32) (τ : ST), LQ u w τ → LQP u w (K33 q0 q1 τ)) {l4 : Int32} {l5 : Int32} {l6 : Int32} {l7 : Int32} {σ : ST} (h_σ : LQ u w σ) : LQP u w (fX9_countTogether_0b67 K33 l4 l5 l6 l7 σ) := by
  unfold fX9_countTogether_0b67
  exact lqite2 (lqb_fX9_countTogether_0b107 hK33 h_σ) (lqb_fX9_countTogether_0b74 hK33 h_σ)
theorem lqb_fX9_countTogether_0b42 {u w : Int64} {K33 : Int32 → Int32 → ST → (Int32 × ST)} (hK33 : ∀ (q0 : Int32) (q1 : Int32) (τ : ST), LQ u w τ → LQP u w (K33 q0 q1 τ)) {l4 : Int32} {l5 : Int32} {σ : ST} (h_σ : LQ u w σ) : LQP u w (fX9_countTogether_0b42 K33 l4 l5 σ) := by
  unfold fX9_countTogether_0b42
  refine lqbd2 fun v48 _ => ?_
  refine lqbd2 fun v57 _ => ?_
  refine lqbd2 fun v59 _ => ?_
  exact lqite2 (lqb_fX9_countTogether_0b107 hK33 h_σ) (lqb_fX9_countTogether_0b67 hK33 h_σ)
theorem lqb_fX9_countTogether_0b33 {u w : Int64} {K33 : Int32 → Int32 → ST → (Int32 × ST)} (hK33 : ∀ (q0 : Int32) (q1 : Int32) (τ : ST), LQ u w τ → LQP u w (K33 q0 q1 τ)) {l4 : Int32} {l5 : Int32} {σ : ST} (h_σ : LQ u w σ) : LQP u w (fX9_countTogether_0b33 K33 l4 l5 σ) := by
  unfold fX9_countTogether_0b33
  refine lqbd2 fun v36 _ => ?_
  exact lqite2 (lqb_fX9_countTogether_0b113  h_σ) (lqb_fX9_countTogether_0b42 hK33 h_σ)
theorem lqb_fX9_countTogether_0l33 {u w : Int64}  : ∀ (fu : Nat) {q0 : Int32} {q1 : Int32} {τ : ST} (h : LQ u w τ), LQP u w (fX9_countTogether_0l33 fu q0 q1 τ)
  | 0, _, _, _, h => h
  | fu + 1, _, _, _, h => lqb_fX9_countTogether_0b33 (fun _ _ _ q => lqb_fX9_countTogether_0l33  fu q) h
theorem lqb_fX9_countTogether_0b27 {u w : Int64}  {σ : ST} (h_σ : LQ u w σ) : LQP u w (fX9_countTogether_0b27 σ) := by
  unfold fX9_countTogether_0b27
  exact lqb_fX9_countTogether_0l33  _ h_σ
theorem lqb_fX9_countTogether_0b10 {u w : Int64} {K3 : Int32 → ST → (Int32 × ST)} (hK3 : ∀ (q0 : Int32) (τ : ST), LQ u w τ → LQP u w (K3 q0 τ)) {l4 : Int32} {σ : ST} (h_σ : LQ u w σ) : LQP u w (fX9_countTogether_0b10 K3 l4 σ) := by
  unfold fX9_countTogether_0b10
  refine lqbd2 fun v16 _ => ?_
  refine lqbd2 fun s18 e_s18 => ?_
  have h_s18 : LQ u w s18 := by rw [e_s18]; exact h_σ
  refine lqbd2 fun v21 _ => ?_
  exact hK3 _ _ h_s18
theorem lqb_fX9_countTogether_0b3 {u w : Int64} {K3 : Int32 → ST → (Int32 × ST)} (hK3 : ∀ (q0 : Int32) (τ : ST), LQ u w τ → LQP u w (K3 q0 τ)) {l4 : Int32} {σ : ST} (h_σ : LQ u w σ) : LQP u w (fX9_countTogether_0b3 K3 l4 σ) := by
  unfold fX9_countTogether_0b3
  exact lqite2 (lqb_fX9_countTogether_0b27  h_σ) (lqb_fX9_countTogether_0b10 hK3 h_σ)
theorem lqb_fX9_countTogether_0l3 {u w : Int64}  : ∀ (fu : Nat) {q0 : Int32} {τ : ST} (h : LQ u w τ), LQP u w (fX9_countTogether_0l3 fu q0 τ)
  | 0, _, _, h => h
  | fu + 1, _, _, h => lqb_fX9_countTogether_0b3 (fun _ _ q => lqb_fX9_countTogether_0l3  fu q) h
theorem lqb_fX9_countTogether_0b0 {u w : Int64}  {σ : ST} (h_σ : LQ u w σ) : LQP u w (fX9_countTogether_0b0 σ) := by
  unfold fX9_countTogether_0b0
  exact lqb_fX9_countTogether_0l3  _ h_σ
theorem lq_fX9_countTogether_0 {u w : Int64} {σ : ST} (h : LQ u w σ) : LQ u w (fX9_countTogether_0 σ).2 := lqb_fX9_countTogether_0b0 h
theorem lqb_fX9_giveOne_0b54 {u w : Int64}  {σ : ST} (h_σ : LQ u w σ) : LQ u w (fX9_giveOne_0b54 σ) := by
  unfold fX9_giveOne_0b54
  exact h_σ
theorem lqb_fX9_giveOne_0b48 {u w : Int64} {K2 : Int32 → Nat → Int32 → ST → ST} (hK2 : ∀ (q0 : Int32) (q1 : Nat) (q2 : Int32) (τ : ST), LQ u w τ → LQ u w (K2 q0 q1 q2 τ)) {l1 : Int32} {l2 : Nat} {l3 : Int32} {σ : ST} (h_σ : LQ u w σ) : LQ u w (fX9_giveOne_0b48 K2 l1 l2 l3 σ) := by
  unfold fX9_giveOne_0b48
  refine lqbd fun v48 _ => ?_
  exact hK2 _ _ _ _ h_σ
theorem lqb_fX9_giveOne_0b22 {u w : Int64} {K2 : Int32 → Nat → Int32 → ST → ST} (hK2 : ∀ (q0 : Int32) (q1 : Nat) (q2 : Int32) (τ : ST), LQ u w τ → LQ u w (K2 q0 q1 q2 τ)) {l1 : Int32} {l2 : Nat} {l3 : Int32} {l4 : Int32} {σ : ST} (h_σ : LQ u w σ) : LQ u w (fX9_giveOne_0b22 K2 l1 l2 l3 l4 σ) := by
  unfold fX9_giveOne_0b22
  refine lqbd fun v32 _ => ?_
  refine lqbd fun v39 _ => ?_
  refine lqbd fun v42 _ => ?_
  refine lqbd fun v43 _ => ?_
  refine lqbd fun v44 _ => ?_
  refine lqbd fun s47 e_s47 => ?_
  have h_s47 : LQ u w s47 := by rw [e_s47]; exact h_σ
  exact lqb_fX9_giveOne_0b48 hK2 h_s47
theorem lqb_fX9_giveOne_0b7 {u w : Int64} {K2 : Int32 → Nat → Int32 → ST → ST} (hK2 : ∀ (q0 : Int32) (q1 : Nat) (q2 : Int32) (τ : ST), LQ u w τ → LQ u w (K2 q0 q1 q2 τ)) {l1 : Int32} {l2 : Nat} {l3 : Int32} {σ : ST} (h_σ : LQ u w σ) : LQ u w (fX9_giveOne_0b7 K2 l1 l2 l3 σ) := by
  unfold fX9_giveOne_0b7
  refine lqbd fun v10 _ => ?_
  refine lqbd fun v12 _ => ?_
  refine lqbd fun v13 _ => ?_
  exact lqite (lqb_fX9_giveOne_0b48 hK2 h_σ) (lqb_fX9_giveOne_0b22 hK2 h_σ)
theorem lqb_fX9_giveOne_0b2 {u w : Int64} {K2 : Int32 → Nat → Int32 → ST → ST} (hK2 : ∀ (q0 : Int32) (q1 : Nat) (q2 : Int32) (τ : ST), LQ u w τ → LQ u w (K2 q0 q1 q2 τ)) {l1 : Int32} {l2 : Nat} {l3 : Int32} {σ : ST} (h_σ : LQ u w σ) : LQ u w (fX9_giveOne_0b2 K2 l1 l2 l3 σ) := by
  unfold fX9_giveOne_0b2
  exact lqite (lqb_fX9_giveOne_0b54  h_σ) (lqb_fX9_giveOne_0b7 hK2 h_σ)
theorem lqb_fX9_giveOne_0l2 {u w : Int64}  : ∀ (fu : Nat) {q0 : Int32} {q1 : Nat} {q2 : Int32} {τ : ST} (h : LQ u w τ), LQ u w (fX9_giveOne_0l2 fu q0 q1 q2 τ)
  | 0, _, _, _, _, h => h
  | fu + 1, _, _, _, _, h => lqb_fX9_giveOne_0b2 (fun _ _ _ _ q => lqb_fX9_giveOne_0l2  fu q) h
theorem lqb_fX9_giveOne_0b0 {u w : Int64}  {l1 : Int32} {l2 : Nat} {σ : ST} (h_σ : LQ u w σ) : LQ u w (fX9_giveOne_0b0 l1 l2 σ) := by
  unfold fX9_giveOne_0b0
  exact lqb_fX9_giveOne_0l2  _ h_σ
theorem lq_fX9_giveOne_0 {u w : Int64} {p1 : Int32} {p2 : Nat} {σ : ST} (h : LQ u w σ) : LQ u w (fX9_giveOne_0 p1 p2 σ) := lqb_fX9_giveOne_0b0 h
theorem lqb_fX9_wrong_0b75 {u w : Int64}  {l4 : Int32} {σ : ST} (h_σ : LQ u w σ) : LQP u w (fX9_wrong_0b75 l4 σ) := by
  unfold fX9_wrong_0b75
  refine lqbd2 fun v87 _ => ?_
  refine lqbd2 fun v88 _ => ?_
  refine lqbd2 fun v89 _ => ?_
  exact h_σ
theorem lqb_fX9_wrong_0b69 {u w : Int64} {K20 : Int32 → Int32 → ST → (Int32 × ST)} (hK20 : ∀ (q0 : Int32) (q1 : Int32) (τ : ST), LQ u w τ → LQP u w (K20 q0 q1 τ)) {l4 : Int32} {l5 : Int32} {σ : ST} (h_σ : LQ u w σ) : LQP u w (fX9_wrong_0b69 K20 l4 l5 σ) := by
  unfold fX9_wrong_0b69
  refine lqbd2 fun v69 _ => ?_
  exact hK20 _ _ _ h_σ
theorem lqb_fX9_wrong_0b50 {u w : Int64} {K20 : Int32 → Int32 → ST → (Int32 × ST)} (hK20 : ∀ (q0 : Int32) (q1 : Int32) (τ : ST), LQ u w τ → LQP u w (K20 q0 q1 τ)) {K45 : Int32 → Int32 → Int32 → ST → (Int32 × ST)} (hK45 : ∀ (q0 : Int32) (q1 : Int32) (q2 : Int32) (τ : ST), LQ u w τ → LQP u w (K45 q0 q1 q2 τ)) {l4 : Int32} {l5 : Int32} {l6 : Int32} {σ : ST} (h_σ : LQ u w σ) : LQP u w (fX9_wrong_0b50 K20 K45 l4 l5 l6 σ) := by
  unfold fX9_wrong_0b50
  refine lqbd2 fun v59 _ => ?_
  refine lqbd2 fun s60 e_s60 => ?_
  have h_s60 : LQ u w s60 := by rw [e_s60]; exact lq_fX9_giveOne_0 h_σ
  refine lqbd2 fun v63 _ => ?_
  exact hK45 _ _ _ _ h_s60
theorem lqb_fX9_wrong_0b45 {u w : Int64} {K20 : Int32 → Int32 → ST → (Int32 × ST)} (hK20 : ∀ (q0 : Int32) (q1 : Int32) (τ : ST), LQ u w τ → LQP u w (K20 q0 q1 τ)) {K45 : Int32 → Int32 → Int32 → ST → (Int32 × ST)} (hK45 : ∀ (q0 : Int32) (q1 : Int32) (q2 : Int32) (τ : ST), LQ u w τ → LQP u w (K45 q0 q1 q2 τ)) {l4 : Int32} {l5 : Int32} {l6 : Int32} {σ : ST} (h_σ : LQ u w σ) : LQP u w (fX9_wrong_0b45 K20 K45 l4 l5 l6 σ) := by
  unfold fX9_wrong_0b45
  exact lqite2 (lqb_fX9_wrong_0b69 hK20 h_σ) (lqb_fX9_wrong_0b50 hK20 hK45 h_σ)
theorem lqb_fX9_wrong_0l45 {u w : Int64} {K20 : Int32 → Int32 → ST → (Int32 × ST)} (hK20 : ∀ (q0 : Int32) (q1 : Int32) (τ : ST), LQ u w τ → LQP u w (K20 q0 q1 τ)) : ∀ (fu : Nat) {q0 : Int32} {q1 : Int32} {q2 : Int32} {τ : ST} (h : LQ u w τ), LQP u w (fX9_wrong_0l45 K20 fu q0 q1 q2 τ)
  | 0, _, _, _, _, h => h
  | fu + 1, _, _, _, _, h => lqb_fX9_wrong_0b45 hK20 (fun _ _ _ _ q => lqb_fX9_wrong_0l45 hK20 fu q) h
theorem lqb_fX9_wrong_0b36 {u w : Int64} {K20 : Int32 → Int32 → ST → (Int32 × ST)} (hK20 : ∀ (q0 : Int32) (q1 : Int32) (τ : ST), LQ u w τ → LQP u w (K20 q0 q1 τ)) {l4 : Int32} {l5 : Int32} {σ : ST} (h_σ : LQ u w σ) : LQP u w (fX9_wrong_0b36 K20 l4 l5 σ) := by
  unfold fX9_wrong_0b36
  refine lqbd2 fun v42 _ => ?_
  exact lqb_fX9_wrong_0l45 hK20 _ h_σ
theorem lqb_fX9_wrong_0b29 {u w : Int64} {K20 : Int32 → Int32 → ST → (Int32 × ST)} (hK20 : ∀ (q0 : Int32) (q1 : Int32) (τ : ST), LQ u w τ → LQP u w (K20 q0 q1 τ)) {l4 : Int32} {l5 : Int32} {σ : ST} (h_σ : LQ u w σ) : LQP u w (fX9_wrong_0b29 K20 l4 l5 σ) := by
  unfold fX9_wrong_0b29
  exact lqite2 (lqb_fX9_wrong_0b75  h_σ) (lqb_fX9_wrong_0b36 hK20 h_σ)
theorem lqb_fX9_wrong_0b20 {u w : Int64} {K20 : Int32 → Int32 → ST → (Int32 × ST)} (hK20 : ∀ (q0 : Int32) (q1 : Int32) (τ : ST), LQ u w τ → LQP u w (K20 q0 q1 τ)) {l4 : Int32} {l5 : Int32} {σ : ST} (h_σ : LQ u w σ) : LQP u w (fX9_wrong_0b20 K20 l4 l5 σ) := by
  unfold fX9_wrong_0b20
  refine lqbd2 fun v23 _ => ?_
  exact lqite2 (lqb_fX9_wrong_0b75  h_σ) (lqb_fX9_wrong_0b29 hK20 h_σ)
theorem lqb_fX9_wrong_0l20 {u w : Int64}  : ∀ (fu : Nat) {q0 : Int32} {q1 : Int32} {τ : ST} (h : LQ u w τ), LQP u w (fX9_wrong_0l20 fu q0 q1 τ)
  | 0, _, _, _, h => h
  | fu + 1, _, _, _, h => lqb_fX9_wrong_0b20 (fun _ _ _ q => lqb_fX9_wrong_0l20  fu q) h
theorem lqb_fX9_wrong_0b0 {u w : Int64}  {σ : ST} (h_σ : LQ u w σ) : LQP u w (fX9_wrong_0b0 σ) := by
  unfold fX9_wrong_0b0
  refine lqbp2 fun v4 s4 e_s4 => ?_
  have h_s4 : LQ u w s4 := by rw [← e_s4]; exact lq_fX9_countTogether_0 h_σ
  refine lqbd2 fun s14 e_s14 => ?_
  have h_s14 : LQ u w s14 := by rw [e_s14]; exact h_s4
  exact lqb_fX9_wrong_0l20  _ h_s14
theorem lq_fX9_wrong_0 {u w : Int64} {σ : ST} (h : LQ u w σ) : LQ u w (fX9_wrong_0 σ).2 := lqb_fX9_wrong_0b0 h
theorem lqb_fX6_span_0b0 {u w : Int64}  {l2 : Int32} {σ : ST} (h_σ : LQ u w σ) : LQP u w (fX6_span_0b0 l2 σ) := by
  unfold fX6_span_0b0
  refine lqbd2 fun v2 _ => ?_
  refine lqbd2 fun v6 _ => ?_
  refine lqbd2 fun s7 e_s7 => ?_
  have h_s7 : LQ u w s7 := by rw [e_s7]; exact h_σ
  refine lqbd2 fun v15 _ => ?_
  exact h_s7
theorem lq_fX6_span_0 {u w : Int64} {p2 : Int32} {σ : ST} (h : LQ u w σ) : LQ u w (fX6_span_0 p2 σ).2 := lqb_fX6_span_0b0 h
theorem lqb_fX6_voice_0b0 {u w : Int64}  {l2 : Int32} {σ : ST} (h_σ : LQ u w σ) : LQP u w (fX6_voice_0b0 l2 σ) := by
  unfold fX6_voice_0b0
  refine lqbd2 fun v2 _ => ?_
  refine lqbd2 fun v8 _ => ?_
  refine lqbd2 fun s9 e_s9 => ?_
  have h_s9 : LQ u w s9 := by rw [e_s9]; exact h_σ
  refine lqbp2 fun v15 s15 e_s15 => ?_
  have h_s15 : LQ u w s15 := by rw [← e_s15]; exact lq_fX6_span_0 h_s9
  refine lqbd2 fun v21 _ => ?_
  refine lqbd2 fun v24 _ => ?_
  exact h_s15
theorem lq_fX6_voice_0 {u w : Int64} {p2 : Int32} {σ : ST} (h : LQ u w σ) : LQ u w (fX6_voice_0 p2 σ).2 := lqb_fX6_voice_0b0 h
theorem lqb_fX6_talk_0b0 {u w : Int64}  {l2 : Int32} {σ : ST} (h_σ : LQ u w σ) : LQP u w (fX6_talk_0b0 l2 σ) := by
  unfold fX6_talk_0b0
  refine lqbd2 fun v2 _ => ?_
  refine lqbd2 fun v8 _ => ?_
  refine lqbd2 fun s9 e_s9 => ?_
  have h_s9 : LQ u w s9 := by rw [e_s9]; exact h_σ
  refine lqbp2 fun v15 s15 e_s15 => ?_
  have h_s15 : LQ u w s15 := by rw [← e_s15]; exact lq_fX6_voice_0 h_s9
  refine lqbd2 fun v23 _ => ?_
  refine lqbd2 fun v24 _ => ?_
  exact h_s15
theorem lq_fX6_talk_0 {u w : Int64} {p2 : Int32} {σ : ST} (h : LQ u w σ) : LQ u w (fX6_talk_0 p2 σ).2 := lqb_fX6_talk_0b0 h
theorem lqb_fX6_two_0b0 {u w : Int64}  {l2 : Int32} {σ : ST} (h_σ : LQ u w σ) : LQP u w (fX6_two_0b0 l2 σ) := by
  unfold fX6_two_0b0
  refine lqbd2 fun v2 _ => ?_
  refine lqbd2 fun v8 _ => ?_
  refine lqbd2 fun s9 e_s9 => ?_
  have h_s9 : LQ u w s9 := by rw [e_s9]; exact h_σ
  refine lqbp2 fun v15 s15 e_s15 => ?_
  have h_s15 : LQ u w s15 := by rw [← e_s15]; exact lq_fX6_talk_0 h_s9
  refine lqbd2 fun v19 _ => ?_
  refine lqbd2 fun v21 _ => ?_
  exact h_s15
theorem lq_fX6_two_0 {u w : Int64} {p2 : Int32} {σ : ST} (h : LQ u w σ) : LQ u w (fX6_two_0 p2 σ).2 := lqb_fX6_two_0b0 h
theorem lqb_fX6_brief_0b0 {u w : Int64}  {l2 : Int32} {σ : ST} (h_σ : LQ u w σ) : LQP u w (fX6_brief_0b0 l2 σ) := by
  unfold fX6_brief_0b0
  refine lqbd2 fun v2 _ => ?_
  refine lqbd2 fun v8 _ => ?_
  refine lqbd2 fun s9 e_s9 => ?_
  have h_s9 : LQ u w s9 := by rw [e_s9]; exact h_σ
  refine lqbp2 fun v16 s16 e_s16 => ?_
  have h_s16 : LQ u w s16 := by rw [← e_s16]; exact lq_fX6_talk_0 h_s9
  refine lqbd2 fun v20 _ => ?_
  refine lqbd2 fun v21 _ => ?_
  exact h_s16
theorem lq_fX6_brief_0 {u w : Int64} {p2 : Int32} {σ : ST} (h : LQ u w σ) : LQ u w (fX6_brief_0 p2 σ).2 := lqb_fX6_brief_0b0 h
theorem lqb_fX6_far_0b0 {u w : Int64}  {l2 : Int32} {σ : ST} (h_σ : LQ u w σ) : LQP u w (fX6_far_0b0 l2 σ) := by
  unfold fX6_far_0b0
  refine lqbd2 fun v2 _ => ?_
  refine lqbd2 fun v8 _ => ?_
  refine lqbd2 fun s9 e_s9 => ?_
  have h_s9 : LQ u w s9 := by rw [e_s9]; exact h_σ
  refine lqbp2 fun v15 s15 e_s15 => ?_
  have h_s15 : LQ u w s15 := by rw [← e_s15]; exact lq_fX6_voice_0 h_s9
  refine lqbd2 fun v19 _ => ?_
  exact h_s15
theorem lq_fX6_far_0 {u w : Int64} {p2 : Int32} {σ : ST} (h : LQ u w σ) : LQ u w (fX6_far_0 p2 σ).2 := lqb_fX6_far_0b0 h
theorem lqb_fX6_known_0b0 {u w : Int64}  {l2 : Int32} {l3 : Int32} {σ : ST} (h_σ : LQ u w σ) : LQP u w (fX6_known_0b0 l2 l3 σ) := by
  unfold fX6_known_0b0
  refine lqbd2 fun v2 _ => ?_
  refine lqbd2 fun v8 _ => ?_
  refine lqbd2 fun s9 e_s9 => ?_
  have h_s9 : LQ u w s9 := by rw [e_s9]; exact h_σ
  refine lqbp2 fun v15 s15 e_s15 => ?_
  have h_s15 : LQ u w s15 := by rw [← e_s15]; exact lq_fX6_voice_0 h_s9
  refine lqbd2 fun v21 _ => ?_
  refine lqbd2 fun v22 _ => ?_
  exact h_s15
theorem lq_fX6_known_0 {u w : Int64} {p2 : Int32} {p3 : Int32} {σ : ST} (h : LQ u w σ) : LQ u w (fX6_known_0 p2 p3 σ).2 := lqb_fX6_known_0b0 h
theorem lqb_fX6_noise_0b0 {u w : Int64}  {l2 : Int32} {σ : ST} (h_σ : LQ u w σ) : LQP u w (fX6_noise_0b0 l2 σ) := by
  unfold fX6_noise_0b0
  refine lqbd2 fun v2 _ => ?_
  refine lqbd2 fun v8 _ => ?_
  refine lqbd2 fun s9 e_s9 => ?_
  have h_s9 : LQ u w s9 := by rw [e_s9]; exact h_σ
  refine lqbp2 fun v15 s15 e_s15 => ?_
  have h_s15 : LQ u w s15 := by rw [← e_s15]; exact lq_fX6_span_0 h_s9
  refine lqbd2 fun v21 _ => ?_
  refine lqbd2 fun v24 _ => ?_
  exact h_s15
theorem lq_fX6_noise_0 {u w : Int64} {p2 : Int32} {σ : ST} (h : LQ u w σ) : LQ u w (fX6_noise_0 p2 σ).2 := lqb_fX6_noise_0b0 h
theorem lqb_fX6_weigh_0b44 {u w : Int64}  {l3 : Int32} {σ : ST} (h_σ : LQ u w σ) : LQP u w (fX6_weigh_0b44 l3 σ) := by
  unfold fX6_weigh_0b44
  refine lqbp2 fun v47 s47 e_s47 => ?_
  have h_s47 : LQ u w s47 := by rw [← e_s47]; exact lq_fX6_span_0 h_σ
  exact h_s47
theorem lqb_fX6_weigh_0b51 {u w : Int64}  {l3 : Int32} {σ : ST} (h_σ : LQ u w σ) : LQP u w (fX6_weigh_0b51 l3 σ) := by
  unfold fX6_weigh_0b51
  refine lqbp2 fun v54 s54 e_s54 => ?_
  have h_s54 : LQ u w s54 := by rw [← e_s54]; exact lq_fX6_voice_0 h_σ
  exact h_s54
theorem lqb_fX6_weigh_0b58 {u w : Int64}  {l3 : Int32} {σ : ST} (h_σ : LQ u w σ) : LQP u w (fX6_weigh_0b58 l3 σ) := by
  unfold fX6_weigh_0b58
  refine lqbp2 fun v61 s61 e_s61 => ?_
  have h_s61 : LQ u w s61 := by rw [← e_s61]; exact lq_fX6_talk_0 h_σ
  exact h_s61
theorem lqb_fX6_weigh_0b65 {u w : Int64}  {l3 : Int32} {σ : ST} (h_σ : LQ u w σ) : LQP u w (fX6_weigh_0b65 l3 σ) := by
  unfold fX6_weigh_0b65
  refine lqbp2 fun v68 s68 e_s68 => ?_
  have h_s68 : LQ u w s68 := by rw [← e_s68]; exact lq_fX6_two_0 h_σ
  exact h_s68
theorem lqb_fX6_weigh_0b72 {u w : Int64}  {l3 : Int32} {σ : ST} (h_σ : LQ u w σ) : LQP u w (fX6_weigh_0b72 l3 σ) := by
  unfold fX6_weigh_0b72
  refine lqbp2 fun v75 s75 e_s75 => ?_
  have h_s75 : LQ u w s75 := by rw [← e_s75]; exact lq_fX6_brief_0 h_σ
  exact h_s75
theorem lqb_fX6_weigh_0b79 {u w : Int64}  {l3 : Int32} {σ : ST} (h_σ : LQ u w σ) : LQP u w (fX6_weigh_0b79 l3 σ) := by
  unfold fX6_weigh_0b79
  refine lqbp2 fun v82 s82 e_s82 => ?_
  have h_s82 : LQ u w s82 := by rw [← e_s82]; exact lq_fX6_far_0 h_σ
  exact h_s82
theorem lqb_fX6_weigh_0b86 {u w : Int64}  {l3 : Int32} {l4 : Int32} {σ : ST} (h_σ : LQ u w σ) : LQP u w (fX6_weigh_0b86 l3 l4 σ) := by
  unfold fX6_weigh_0b86
  refine lqbp2 fun v91 s91 e_s91 => ?_
  have h_s91 : LQ u w s91 := by rw [← e_s91]; exact lq_fX6_known_0 h_σ
  exact h_s91
theorem lqb_fX6_weigh_0b95 {u w : Int64}  {l3 : Int32} {σ : ST} (h_σ : LQ u w σ) : LQP u w (fX6_weigh_0b95 l3 σ) := by
  unfold fX6_weigh_0b95
  refine lqbp2 fun v98 s98 e_s98 => ?_
  have h_s98 : LQ u w s98 := by rw [← e_s98]; exact lq_fX6_noise_0 h_σ
  exact h_s98
theorem lqb_fX6_weigh_0b0 {u w : Int64}  {l1 : Int32} {l3 : Int32} {l4 : Int32} {σ : ST} (h_σ : LQ u w σ) : LQP u w (fX6_weigh_0b0 l1 l3 l4 σ) := by
  unfold fX6_weigh_0b0
  refine lqite2 (lqb_fX6_weigh_0b44  h_σ) ?_
  refine lqite2 (lqb_fX6_weigh_0b51  h_σ) ?_
  refine lqite2 (lqb_fX6_weigh_0b58  h_σ) ?_
  refine lqite2 (lqb_fX6_weigh_0b65  h_σ) ?_
  refine lqite2 (lqb_fX6_weigh_0b72  h_σ) ?_
  refine lqite2 (lqb_fX6_weigh_0b79  h_σ) ?_
  refine lqite2 (lqb_fX6_weigh_0b86  h_σ) ?_
  exact lqb_fX6_weigh_0b95  h_σ
theorem lq_fX6_weigh_0 {u w : Int64} {p1 : Int32} {p3 : Int32} {p4 : Int32} {σ : ST} (h : LQ u w σ) : LQ u w (fX6_weigh_0 p1 p3 p4 σ).2 := lqb_fX6_weigh_0b0 h
theorem lqb_fX11_weight_0b18 {u w : Int64}  {σ : ST} (h_σ : LQ u w σ) : LQP u w (fX11_weight_0b18 σ) := by
  unfold fX11_weight_0b18
  exact h_σ
theorem lqb_fX11_weight_0b20 {u w : Int64}  {l1 : Int32} {l2 : Int32} {σ : ST} (h_σ : LQ u w σ) : LQP u w (fX11_weight_0b20 l1 l2 σ) := by
  unfold fX11_weight_0b20
  refine lqbd2 fun v34 _ => ?_
  refine lqbp2 fun v37 s37 e_s37 => ?_
  have h_s37 : LQ u w s37 := by rw [← e_s37]; exact lq_fX6_weigh_0 h_σ
  exact h_s37
theorem lqb_fX11_weight_0b10 {u w : Int64}  {l1 : Int32} {l2 : Int32} {σ : ST} (h_σ : LQ u w σ) : LQP u w (fX11_weight_0b10 l1 l2 σ) := by
  unfold fX11_weight_0b10
  refine lqbp2 fun v12 s12 e_s12 => ?_
  have h_s12 : LQ u w s12 := by rw [← e_s12]; exact lq_fX11_isPiece_0 h_σ
  exact lqite2 (lqb_fX11_weight_0b18  h_s12) (lqb_fX11_weight_0b20  h_s12)
theorem lqb_fX11_weight_0b0 {u w : Int64}  {l1 : Int32} {l2 : Int32} {σ : ST} (h_σ : LQ u w σ) : LQP u w (fX11_weight_0b0 l1 l2 σ) := by
  unfold fX11_weight_0b0
  refine lqbd2 fun v4 _ => ?_
  exact lqite2 (lqb_fX11_weight_0b18  h_σ) (lqb_fX11_weight_0b10  h_σ)
theorem lq_fX11_weight_0 {u w : Int64} {p1 : Int32} {p2 : Int32} {σ : ST} (h : LQ u w σ) : LQ u w (fX11_weight_0 p1 p2 σ).2 := lqb_fX11_weight_0b0 h
theorem lqb_fX12_type_0b75 {u w : Int64}  {σ : ST} (h_σ : LQ u w σ) : LQP u w (fX12_type_0b75 σ) := by
  unfold fX12_type_0b75
  refine lqbd2 fun v76 _ => ?_
  exact h_σ
theorem lqb_fX12_type_0b37 {u w : Int64} {K32 : Int64 → Int32 → ST → (Int32 × ST)} (hK32 : ∀ (q0 : Int64) (q1 : Int32) (τ : ST), LQ u w τ → LQP u w (K32 q0 q1 τ)) {l1 : Int64} {l4 : Int32} {σ : ST} (h_σ : LQ u w σ) : LQP u w (fX12_type_0b37 K32 l1 l4 σ) := by
  unfold fX12_type_0b37
  refine lqbd2 fun v42 _ => ?_
  refine lqbd2 fun v50 _ => ?_
  refine lqbd2 fun v51 _ => ?_
  refine lqbd2 fun v55 _ => ?_
  refine lqbd2 fun v56 _ => ?_
  refine lqbd2 fun v57 _ => ?_
  refine lqbd2 fun s58 e_s58 => ?_
  have h_s58 : LQ u w s58 := by rw [e_s58]; exact h_σ
  refine lqbd2 fun v61 _ => ?_
  refine lqbd2 fun v65 _ => ?_
  refine lqbd2 fun s66 e_s66 => ?_
  have h_s66 : LQ u w s66 := by rw [e_s66]; exact h_s58
  refine lqbd2 fun v69 _ => ?_
  exact hK32 _ _ _ h_s66
theorem lqb_fX12_type_0b32 {u w : Int64} {K32 : Int64 → Int32 → ST → (Int32 × ST)} (hK32 : ∀ (q0 : Int64) (q1 : Int32) (τ : ST), LQ u w τ → LQP u w (K32 q0 q1 τ)) {l1 : Int64} {l4 : Int32} {σ : ST} (h_σ : LQ u w σ) : LQP u w (fX12_type_0b32 K32 l1 l4 σ) := by
  unfold fX12_type_0b32
  exact lqite2 (lqb_fX12_type_0b75  h_σ) (lqb_fX12_type_0b37 hK32 h_σ)
theorem lqb_fX12_type_0l32 {u w : Int64}  : ∀ (fu : Nat) {q0 : Int64} {q1 : Int32} {τ : ST} (h : LQ u w τ), LQP u w (fX12_type_0l32 fu q0 q1 τ)
  | 0, _, _, _, h => h
  | fu + 1, _, _, _, h => lqb_fX12_type_0b32 (fun _ _ _ q => lqb_fX12_type_0l32  fu q) h
theorem lqb_fX12_type_0b27 {u w : Int64}  {l1 : Int64} {l3 : Int32} {σ : ST} (h_σ : LQ u w σ) : LQP u w (fX12_type_0b27 l1 l3 σ) := by
  unfold fX12_type_0b27
  refine lqbd2 fun v29 _ => ?_
  exact lqb_fX12_type_0l32  _ h_σ
theorem lqb_fX12_type_0b24 {u w : Int64}  {σ : ST} (h_σ : LQ u w σ) : LQP u w (fX12_type_0b24 σ) := by
  unfold fX12_type_0b24
  exact h_σ
theorem lqb_fX12_type_0b12 {u w : Int64}  {l1 : Int64} {l3 : Int32} {σ : ST} (h_σ : LQ u w σ) : LQP u w (fX12_type_0b12 l1 l3 σ) := by
  unfold fX12_type_0b12
  refine lqbd2 fun v13 _ => ?_
  refine lqbd2 fun v17 _ => ?_
  exact lqite2 (lqb_fX12_type_0b27  h_σ) (lqb_fX12_type_0b24  h_σ)
theorem lqb_fX12_type_0b10 {u w : Int64}  {σ : ST} (h_σ : LQ u w σ) : LQP u w (fX12_type_0b10 σ) := by
  unfold fX12_type_0b10
  exact h_σ
theorem lqb_fX12_type_0b0 {u w : Int64}  {l1 : Int64} {l3 : Int32} {σ : ST} (h_σ : LQ u w σ) : LQP u w (fX12_type_0b0 l1 l3 σ) := by
  unfold fX12_type_0b0
  refine lqbd2 fun v4 _ => ?_
  exact lqite2 (lqb_fX12_type_0b10  h_σ) (lqb_fX12_type_0b12  h_σ)
theorem lq_fX12_type_0 {u w : Int64} {p1 : Int64} {p2 : Int32} {σ : ST} (h : LQ u w σ) : LQ u w (fX12_type_0 p1 p2 σ).2 := lqb_fX12_type_0b0 h
theorem lqb_fX12_clear_0b0 {u w : Int64}  {σ : ST} (h_σ : LQ u w σ) : LQP u w (fX12_clear_0b0 σ) := by
  unfold fX12_clear_0b0
  refine lqbd2 fun v1 _ => ?_
  refine lqbd2 fun s7 e_s7 => ?_
  have h_s7 : LQ u w s7 := by rw [e_s7]; exact h_σ
  exact h_s7
theorem lq_fX12_clear_0 {u w : Int64} {σ : ST} (h : LQ u w σ) : LQ u w (fX12_clear_0 σ).2 := lqb_fX12_clear_0b0 h
theorem lqb_fX12_atFirst_0b0 {u w : Int64}  {l1 : Int32} {σ : ST} (h_σ : LQ u w σ) : LQ u w (fX12_atFirst_0b0 l1 σ) := by
  unfold fX12_atFirst_0b0
  refine lqbd fun v6 _ => ?_
  refine lqbd fun s9 e_s9 => ?_
  have h_s9 : LQ u w s9 := by rw [e_s9]; exact h_σ
  refine lqbd fun v16 _ => ?_
  refine lqbd fun s19 e_s19 => ?_
  have h_s19 : LQ u w s19 := by rw [e_s19]; exact h_s9
  refine lqbd fun v26 _ => ?_
  refine lqbd fun s29 e_s29 => ?_
  have h_s29 : LQ u w s29 := by rw [e_s29]; exact h_s19
  refine lqbd fun v36 _ => ?_
  refine lqbd fun s38 e_s38 => ?_
  have h_s38 : LQ u w s38 := by rw [e_s38]; exact h_s29
  refine lqbd fun v45 _ => ?_
  refine lqbd fun s47 e_s47 => ?_
  have h_s47 : LQ u w s47 := by rw [e_s47]; exact h_s38
  refine lqbd fun v54 _ => ?_
  refine lqbd fun s57 e_s57 => ?_
  have h_s57 : LQ u w s57 := by rw [e_s57]; exact h_s47
  exact h_s57
theorem lq_fX12_atFirst_0 {u w : Int64} {p1 : Int32} {σ : ST} (h : LQ u w σ) : LQ u w (fX12_atFirst_0 p1 σ) := lqb_fX12_atFirst_0b0 h
theorem lqb_fX12_next_0b267 {u w : Int64}  {σ : ST} (h_σ : LQ u w σ) : LQ u w (fX12_next_0b267 σ) := by
  unfold fX12_next_0b267
  exact h_σ
theorem lqb_fX12_next_0b264 {u w : Int64}  {t0 : Int32} {σ : ST} (h_σ : LQ u w σ) : LQ u w (fX12_next_0b264 t0 σ) := by
  unfold fX12_next_0b264
  refine lqbd fun s264 e_s264 => ?_
  have h_s264 : LQ u w s264 := by rw [e_s264]; exact h_σ
  exact lqb_fX12_next_0b267  h_s264
theorem lqb_fX12_next_0b263 {u w : Int64}  {σ : ST} (h_σ : LQ u w σ) : LQ u w (fX12_next_0b263 σ) := by
  unfold fX12_next_0b263
  exact lqb_fX12_next_0b264  h_σ
theorem lqb_fX12_next_0b259 {u w : Int64}  {σ : ST} (h_σ : LQ u w σ) : LQ u w (fX12_next_0b259 σ) := by
  unfold fX12_next_0b259
  exact lqb_fX12_next_0b264  h_σ
theorem lqb_fX12_next_0b242 {u w : Int64}  {l1 : Int32} {σ : ST} (h_σ : LQ u w σ) : LQ u w (fX12_next_0b242 l1 σ) := by
  unfold fX12_next_0b242
  refine lqbd fun v244 _ => ?_
  refine lqbd fun v248 _ => ?_
  refine lqbd fun s249 e_s249 => ?_
  have h_s249 : LQ u w s249 := by rw [e_s249]; exact h_σ
  exact lqite (lqb_fX12_next_0b259  h_s249) (lqb_fX12_next_0b263  h_s249)
theorem lqb_fX12_next_0b236 {u w : Int64}  {t0 : Int32} {σ : ST} (h_σ : LQ u w σ) : LQ u w (fX12_next_0b236 t0 σ) := by
  unfold fX12_next_0b236
  refine lqbd fun s236 e_s236 => ?_
  have h_s236 : LQ u w s236 := by rw [e_s236]; exact h_σ
  exact lqb_fX12_next_0b267  h_s236
theorem lqb_fX12_next_0b231 {u w : Int64}  {σ : ST} (h_σ : LQ u w σ) : LQ u w (fX12_next_0b231 σ) := by
  unfold fX12_next_0b231
  exact lqb_fX12_next_0b236  h_σ
theorem lqb_fX12_next_0b235 {u w : Int64}  {σ : ST} (h_σ : LQ u w σ) : LQ u w (fX12_next_0b235 σ) := by
  unfold fX12_next_0b235
  exact lqb_fX12_next_0b236  h_σ
theorem lqb_fX12_next_0b218 {u w : Int64}  {σ : ST} (h_σ : LQ u w σ) : LQ u w (fX12_next_0b218 σ) := by
  unfold fX12_next_0b218
  refine lqbd fun v219 _ => ?_
  refine lqbd fun v223 _ => ?_
  refine lqbd fun v226 _ => ?_
  exact lqite (lqb_fX12_next_0b235  h_σ) (lqb_fX12_next_0b231  h_σ)
theorem lqb_fX12_next_0b212 {u w : Int64}  {l1 : Int32} {σ : ST} (h_σ : LQ u w σ) : LQ u w (fX12_next_0b212 l1 σ) := by
  unfold fX12_next_0b212
  exact lqite (lqb_fX12_next_0b218  h_σ) (lqb_fX12_next_0b235  h_σ)
theorem lqb_fX12_next_0b201 {u w : Int64}  {l1 : Int32} {σ : ST} (h_σ : LQ u w σ) : LQ u w (fX12_next_0b201 l1 σ) := by
  unfold fX12_next_0b201
  refine lqbd fun v203 _ => ?_
  exact lqite (lqb_fX12_next_0b231  h_σ) (lqb_fX12_next_0b212  h_σ)
theorem lqb_fX12_next_0b185 {u w : Int64} {K138 : Int32 → ST → ST} (hK138 : ∀ (q0 : Int32) (τ : ST), LQ u w τ → LQ u w (K138 q0 τ)) {l1 : Int32} {t0 : Int32} {σ : ST} (h_σ : LQ u w σ) : LQ u w (fX12_next_0b185 K138 l1 t0 σ) := by
  unfold fX12_next_0b185
  refine lqbd fun s185 e_s185 => ?_
  have h_s185 : LQ u w s185 := by rw [e_s185]; exact h_σ
  refine lqbd fun v190 _ => ?_
  refine lqbd fun v194 _ => ?_
  refine lqbd fun s195 e_s195 => ?_
  have h_s195 : LQ u w s195 := by rw [e_s195]; exact h_s185
  exact hK138 _ _ h_s195
theorem lqb_fX12_next_0b170 {u w : Int64} {K138 : Int32 → ST → ST} (hK138 : ∀ (q0 : Int32) (τ : ST), LQ u w τ → LQ u w (K138 q0 τ)) {l1 : Int32} {σ : ST} (h_σ : LQ u w σ) : LQ u w (fX12_next_0b170 K138 l1 σ) := by
  unfold fX12_next_0b170
  refine lqbd fun v173 _ => ?_
  refine lqbd fun v176 _ => ?_
  refine lqbd fun v178 _ => ?_
  refine lqbd fun v181 _ => ?_
  refine lqbd fun v184 _ => ?_
  exact lqb_fX12_next_0b185 hK138 h_σ
theorem lqb_fX12_next_0b163 {u w : Int64} {K138 : Int32 → ST → ST} (hK138 : ∀ (q0 : Int32) (τ : ST), LQ u w τ → LQ u w (K138 q0 τ)) {l1 : Int32} {σ : ST} (h_σ : LQ u w σ) : LQ u w (fX12_next_0b163 K138 l1 σ) := by
  unfold fX12_next_0b163
  refine lqbd fun v164 _ => ?_
  exact lqb_fX12_next_0b185 hK138 h_σ
theorem lqb_fX12_next_0b152 {u w : Int64} {K138 : Int32 → ST → ST} (hK138 : ∀ (q0 : Int32) (τ : ST), LQ u w τ → LQ u w (K138 q0 τ)) {l1 : Int32} {σ : ST} (h_σ : LQ u w σ) : LQ u w (fX12_next_0b152 K138 l1 σ) := by
  unfold fX12_next_0b152
  refine lqbd fun v154 _ => ?_
  exact lqite (lqb_fX12_next_0b170 hK138 h_σ) (lqb_fX12_next_0b163 hK138 h_σ)
theorem lqb_fX12_next_0b138 {u w : Int64} {K138 : Int32 → ST → ST} (hK138 : ∀ (q0 : Int32) (τ : ST), LQ u w τ → LQ u w (K138 q0 τ)) {l1 : Int32} {σ : ST} (h_σ : LQ u w σ) : LQ u w (fX12_next_0b138 K138 l1 σ) := by
  unfold fX12_next_0b138
  refine lqbd fun v139 _ => ?_
  refine lqbd fun v146 _ => ?_
  exact lqite (lqb_fX12_next_0b201  h_σ) (lqb_fX12_next_0b152 hK138 h_σ)
theorem lqb_fX12_next_0l138 {u w : Int64}  : ∀ (fu : Nat) {q0 : Int32} {τ : ST} (h : LQ u w τ), LQ u w (fX12_next_0l138 fu q0 τ)
  | 0, _, _, h => h
  | fu + 1, _, _, h => lqb_fX12_next_0b138 (fun _ _ q => lqb_fX12_next_0l138  fu q) h
theorem lqb_fX12_next_0b127 {u w : Int64}  {l1 : Int32} {σ : ST} (h_σ : LQ u w σ) : LQ u w (fX12_next_0b127 l1 σ) := by
  unfold fX12_next_0b127
  refine lqbd fun v132 _ => ?_
  exact lqite (lqb_fX12_next_0b242  h_σ) (lqb_fX12_next_0l138  _ h_σ)
theorem lqb_fX12_next_0b121 {u w : Int64}  {t0 : Int32} {σ : ST} (h_σ : LQ u w σ) : LQ u w (fX12_next_0b121 t0 σ) := by
  unfold fX12_next_0b121
  refine lqbd fun s121 e_s121 => ?_
  have h_s121 : LQ u w s121 := by rw [e_s121]; exact h_σ
  exact lqb_fX12_next_0b267  h_s121
theorem lqb_fX12_next_0b120 {u w : Int64}  {σ : ST} (h_σ : LQ u w σ) : LQ u w (fX12_next_0b120 σ) := by
  unfold fX12_next_0b120
  exact lqb_fX12_next_0b121  h_σ
theorem lqb_fX12_next_0b116 {u w : Int64}  {σ : ST} (h_σ : LQ u w σ) : LQ u w (fX12_next_0b116 σ) := by
  unfold fX12_next_0b116
  exact lqb_fX12_next_0b121  h_σ
theorem lqb_fX12_next_0b90 {u w : Int64}  {σ : ST} (h_σ : LQ u w σ) : LQ u w (fX12_next_0b90 σ) := by
  unfold fX12_next_0b90
  refine lqbd fun v93 _ => ?_
  refine lqbd fun v97 _ => ?_
  refine lqbd fun v100 _ => ?_
  refine lqbd fun s103 e_s103 => ?_
  have h_s103 : LQ u w s103 := by rw [e_s103]; exact h_σ
  refine lqbd fun v108 _ => ?_
  exact lqite (lqb_fX12_next_0b116  h_s103) (lqb_fX12_next_0b120  h_s103)
theorem lqb_fX12_next_0b77 {u w : Int64} {K63 : ST → ST} (hK63 : ∀ (τ : ST), LQ u w τ → LQ u w (K63 τ)) {σ : ST} (h_σ : LQ u w σ) : LQ u w (fX12_next_0b77 K63 σ) := by
  unfold fX12_next_0b77
  refine lqbd fun v79 _ => ?_
  refine lqbd fun v83 _ => ?_
  refine lqbd fun s84 e_s84 => ?_
  have h_s84 : LQ u w s84 := by rw [e_s84]; exact h_σ
  exact hK63 _ h_s84
theorem lqb_fX12_next_0b63 {u w : Int64} {K63 : ST → ST} (hK63 : ∀ (τ : ST), LQ u w τ → LQ u w (K63 τ)) {σ : ST} (h_σ : LQ u w σ) : LQ u w (fX12_next_0b63 K63 σ) := by
  unfold fX12_next_0b63
  refine lqbd fun v64 _ => ?_
  refine lqbd fun v71 _ => ?_
  exact lqite (lqb_fX12_next_0b90  h_σ) (lqb_fX12_next_0b77 hK63 h_σ)
theorem lqb_fX12_next_0l63 {u w : Int64}  : ∀ (fu : Nat) {τ : ST} (h : LQ u w τ), LQ u w (fX12_next_0l63 fu  τ)
  | 0, _, h => h
  | fu + 1, _, h => lqb_fX12_next_0b63 (fun _ q => lqb_fX12_next_0l63  fu q) h
theorem lqb_fX12_next_0b52 {u w : Int64}  {l1 : Int32} {σ : ST} (h_σ : LQ u w σ) : LQ u w (fX12_next_0b52 l1 σ) := by
  unfold fX12_next_0b52
  refine lqbd fun v57 _ => ?_
  exact lqite (lqb_fX12_next_0b127  h_σ) (lqb_fX12_next_0l63  _ h_σ)
theorem lqb_fX12_next_0b44 {u w : Int64}  {σ : ST} (h_σ : LQ u w σ) : LQ u w (fX12_next_0b44 σ) := by
  unfold fX12_next_0b44
  refine lqbd fun s46 e_s46 => ?_
  have h_s46 : LQ u w s46 := by rw [e_s46]; exact h_σ
  exact lqb_fX12_next_0b267  h_s46
theorem lqb_fX12_next_0b22 {u w : Int64}  {σ : ST} (h_σ : LQ u w σ) : LQ u w (fX12_next_0b22 σ) := by
  unfold fX12_next_0b22
  refine lqbd fun v24 _ => ?_
  refine lqbd fun s27 e_s27 => ?_
  have h_s27 : LQ u w s27 := by rw [e_s27]; exact h_σ
  refine lqbd fun s32 e_s32 => ?_
  have h_s32 : LQ u w s32 := by rw [e_s32]; exact h_s27
  refine lqbd fun v36 _ => ?_
  exact lqite (lqb_fX12_next_0b52  h_s32) (lqb_fX12_next_0b44  h_s32)
theorem lqb_fX12_next_0b9 {u w : Int64} {K0 : ST → ST} (hK0 : ∀ (τ : ST), LQ u w τ → LQ u w (K0 τ)) {σ : ST} (h_σ : LQ u w σ) : LQ u w (fX12_next_0b9 K0 σ) := by
  unfold fX12_next_0b9
  refine lqbd fun v11 _ => ?_
  refine lqbd fun v15 _ => ?_
  refine lqbd fun s16 e_s16 => ?_
  have h_s16 : LQ u w s16 := by rw [e_s16]; exact h_σ
  exact hK0 _ h_s16
theorem lqb_fX12_next_0b0 {u w : Int64} {K0 : ST → ST} (hK0 : ∀ (τ : ST), LQ u w τ → LQ u w (K0 τ)) {σ : ST} (h_σ : LQ u w σ) : LQ u w (fX12_next_0b0 K0 σ) := by
  unfold fX12_next_0b0
  refine lqbd fun v1 _ => ?_
  exact lqite (lqb_fX12_next_0b9 hK0 h_σ) (lqb_fX12_next_0b22  h_σ)
theorem lqb_fX12_next_0l0 {u w : Int64}  : ∀ (fu : Nat) {τ : ST} (h : LQ u w τ), LQ u w (fX12_next_0l0 fu  τ)
  | 0, _, h => h
  | fu + 1, _, h => lqb_fX12_next_0b0 (fun _ q => lqb_fX12_next_0l0  fu q) h
theorem lq_fX12_next_0 {u w : Int64} {σ : ST} (h : LQ u w σ) : LQ u w (fX12_next_0 σ) := lqb_fX12_next_0l0 4096 h
theorem lqb_fX12_due_0b33 {u w : Int64}  {l2 : Int32} {σ : ST} (h_σ : LQ u w σ) : LQP u w (fX12_due_0b33 l2 σ) := by
  unfold fX12_due_0b33
  exact h_σ
theorem lqb_fX12_due_0b25 {u w : Int64}  {l2 : Int32} {σ : ST} (h_σ : LQ u w σ) : LQP u w (fX12_due_0b25 l2 σ) := by
  unfold fX12_due_0b25
  refine lqbd2 fun v27 _ => ?_
  refine lqbd2 fun s30 e_s30 => ?_
  have h_s30 : LQ u w s30 := by rw [e_s30]; exact h_σ
  exact lqb_fX12_due_0b33  h_s30
theorem lqb_fX12_due_0b18 {u w : Int64}  {l2 : Int32} {σ : ST} (h_σ : LQ u w σ) : LQP u w (fX12_due_0b18 l2 σ) := by
  unfold fX12_due_0b18
  refine lqbd2 fun s19 e_s19 => ?_
  have h_s19 : LQ u w s19 := by rw [e_s19]; exact lq_fX12_next_0 h_σ
  exact lqb_fX12_due_0b33  h_s19
theorem lqb_fX12_due_0b14 {u w : Int64}  {l1 : Int32} {l2 : Int32} {σ : ST} (h_σ : LQ u w σ) : LQP u w (fX12_due_0b14 l1 l2 σ) := by
  unfold fX12_due_0b14
  exact lqite2 (lqb_fX12_due_0b25  h_σ) (lqb_fX12_due_0b18  h_σ)
theorem lqb_fX12_due_0b0 {u w : Int64}  {l1 : Int32} {σ : ST} (h_σ : LQ u w σ) : LQP u w (fX12_due_0b0 l1 σ) := by
  unfold fX12_due_0b0
  refine lqbd2 fun v1 _ => ?_
  refine lqbd2 fun v6 _ => ?_
  exact lqite2 (lqb_fX12_due_0b14  h_σ) (lqb_fX12_due_0b33  h_σ)
theorem lq_fX12_due_0 {u w : Int64} {p1 : Int32} {σ : ST} (h : LQ u w σ) : LQ u w (fX12_due_0 p1 σ).2 := lqb_fX12_due_0b0 h
theorem lqb_fX12_rules_0b196 {u w : Int64}  {l2 : Int32} {σ : ST} (h_σ : LQ u w σ) : LQP u w (fX12_rules_0b196 l2 σ) := by
  unfold fX12_rules_0b196
  refine lqbd2 fun s198 e_s198 => ?_
  have h_s198 : LQ u w s198 := by rw [e_s198]; exact h_σ
  exact h_s198
theorem lqb_fX12_rules_0b175 {u w : Int64} {K169 : Int32 → Int32 → ST → (Int32 × ST)} (hK169 : ∀ (q0 : Int32) (q1 : Int32) (τ : ST), LQ u w τ → LQP u w (K169 q0 q1 τ)) {l2 : Int32} {l3 : Int32} {σ : ST} (h_σ : LQ u w σ) : LQP u w (fX12_rules_0b175 K169 l2 l3 σ) := by
  unfold fX12_rules_0b175
  refine lqbd2 fun v187 _ => ?_
  refine lqbd2 fun v188 _ => ?_
  refine lqbd2 fun s189 e_s189 => ?_
  have h_s189 : LQ u w s189 := by rw [e_s189]; exact h_σ
  refine lqbd2 fun v190 _ => ?_
  exact hK169 _ _ _ h_s189
theorem lqb_fX12_rules_0b169 {u w : Int64} {K169 : Int32 → Int32 → ST → (Int32 × ST)} (hK169 : ∀ (q0 : Int32) (q1 : Int32) (τ : ST), LQ u w τ → LQP u w (K169 q0 q1 τ)) {l2 : Int32} {l3 : Int32} {σ : ST} (h_σ : LQ u w σ) : LQP u w (fX12_rules_0b169 K169 l2 l3 σ) := by
  unfold fX12_rules_0b169
  exact lqite2 (lqb_fX12_rules_0b196  h_σ) (lqb_fX12_rules_0b175 hK169 h_σ)
theorem lqb_fX12_rules_0l169 {u w : Int64}  : ∀ (fu : Nat) {q0 : Int32} {q1 : Int32} {τ : ST} (h : LQ u w τ), LQP u w (fX12_rules_0l169 fu q0 q1 τ)
  | 0, _, _, _, h => h
  | fu + 1, _, _, _, h => lqb_fX12_rules_0b169 (fun _ _ _ q => lqb_fX12_rules_0l169  fu q) h
theorem lqb_fX12_rules_0b167 {u w : Int64}  {l2 : Int32} {σ : ST} (h_σ : LQ u w σ) : LQP u w (fX12_rules_0b167 l2 σ) := by
  unfold fX12_rules_0b167
  exact lqb_fX12_rules_0l169  _ h_σ
theorem lqb_fX12_rules_0b159 {u w : Int64}  {σ : ST} (h_σ : LQ u w σ) : LQP u w (fX12_rules_0b159 σ) := by
  unfold fX12_rules_0b159
  refine lqbd2 fun v162 _ => ?_
  refine lqbd2 fun v165 _ => ?_
  exact h_σ
theorem lqb_fX12_rules_0b150 {u w : Int64}  {l2 : Int32} {σ : ST} (h_σ : LQ u w σ) : LQP u w (fX12_rules_0b150 l2 σ) := by
  unfold fX12_rules_0b150
  refine lqbd2 fun v151 _ => ?_
  exact lqite2 (lqb_fX12_rules_0b167  h_σ) (lqb_fX12_rules_0b159  h_σ)
theorem lqb_fX12_rules_0b147 {u w : Int64} {K25 : Int32 → Int32 → ST → (Int32 × ST)} (hK25 : ∀ (q0 : Int32) (q1 : Int32) (τ : ST), LQ u w τ → LQP u w (K25 q0 q1 τ)) {l1 : Int32} {l2 : Int32} {σ : ST} (h_σ : LQ u w σ) : LQP u w (fX12_rules_0b147 K25 l1 l2 σ) := by
  unfold fX12_rules_0b147
  exact hK25 _ _ _ h_σ
theorem lqb_fX12_rules_0b129 {u w : Int64} {K25 : Int32 → Int32 → ST → (Int32 × ST)} (hK25 : ∀ (q0 : Int32) (q1 : Int32) (τ : ST), LQ u w τ → LQP u w (K25 q0 q1 τ)) {l1 : Int32} {l2 : Int32} {l3 : Int32} {l4 : Int32} {t0 : Int32} {σ : ST} (h_σ : LQ u w σ) : LQP u w (fX12_rules_0b129 K25 l1 l2 l3 l4 t0 σ) := by
  unfold fX12_rules_0b129
  refine lqbp2 fun v129 s129 e_s129 => ?_
  have h_s129 : LQ u w s129 := by rw [← e_s129]; exact lq_fX12_due_0 h_σ
  refine lqbd2 fun v140 _ => ?_
  refine lqbd2 fun s143 e_s143 => ?_
  have h_s143 : LQ u w s143 := by rw [e_s143]; exact h_s129
  refine lqbd2 fun v144 _ => ?_
  exact lqb_fX12_rules_0b147 hK25 h_s143
theorem lqb_fX12_rules_0b128 {u w : Int64} {K25 : Int32 → Int32 → ST → (Int32 × ST)} (hK25 : ∀ (q0 : Int32) (q1 : Int32) (τ : ST), LQ u w τ → LQP u w (K25 q0 q1 τ)) {l1 : Int32} {l2 : Int32} {l3 : Int32} {l4 : Int32} {σ : ST} (h_σ : LQ u w σ) : LQP u w (fX12_rules_0b128 K25 l1 l2 l3 l4 σ) := by
  unfold fX12_rules_0b128
  exact lqb_fX12_rules_0b129 hK25 h_σ
theorem lqb_fX12_rules_0b124 {u w : Int64} {K25 : Int32 → Int32 → ST → (Int32 × ST)} (hK25 : ∀ (q0 : Int32) (q1 : Int32) (τ : ST), LQ u w τ → LQP u w (K25 q0 q1 τ)) {l1 : Int32} {l2 : Int32} {l3 : Int32} {l4 : Int32} {σ : ST} (h_σ : LQ u w σ) : LQP u w (fX12_rules_0b124 K25 l1 l2 l3 l4 σ) := by
  unfold fX12_rules_0b124
  exact lqb_fX12_rules_0b129 hK25 h_σ
theorem lqb_fX12_rules_0b110 {u w : Int64} {K25 : Int32 → Int32 → ST → (Int32 × ST)} (hK25 : ∀ (q0 : Int32) (q1 : Int32) (τ : ST), LQ u w τ → LQP u w (K25 q0 q1 τ)) {l1 : Int32} {l2 : Int32} {l3 : Int32} {t0 : Int32} {σ : ST} (h_σ : LQ u w σ) : LQP u w (fX12_rules_0b110 K25 l1 l2 l3 t0 σ) := by
  unfold fX12_rules_0b110
  refine lqbp2 fun v110 s110 e_s110 => ?_
  have h_s110 : LQ u w s110 := by rw [← e_s110]; exact lq_fX12_due_0 h_σ
  refine lqbd2 fun v117 _ => ?_
  exact lqite2 (lqb_fX12_rules_0b124 hK25 h_s110) (lqb_fX12_rules_0b128 hK25 h_s110)
theorem lqb_fX12_rules_0b109 {u w : Int64} {K25 : Int32 → Int32 → ST → (Int32 × ST)} (hK25 : ∀ (q0 : Int32) (q1 : Int32) (τ : ST), LQ u w τ → LQP u w (K25 q0 q1 τ)) {l1 : Int32} {l2 : Int32} {l3 : Int32} {σ : ST} (h_σ : LQ u w σ) : LQP u w (fX12_rules_0b109 K25 l1 l2 l3 σ) := by
  unfold fX12_rules_0b109
  exact lqb_fX12_rules_0b110 hK25 h_σ
theorem lqb_fX12_rules_0b105 {u w : Int64} {K25 : Int32 → Int32 → ST → (Int32 × ST)} (hK25 : ∀ (q0 : Int32) (q1 : Int32) (τ : ST), LQ u w τ → LQP u w (K25 q0 q1 τ)) {l1 : Int32} {l2 : Int32} {l3 : Int32} {σ : ST} (h_σ : LQ u w σ) : LQP u w (fX12_rules_0b105 K25 l1 l2 l3 σ) := by
  unfold fX12_rules_0b105
  exact lqb_fX12_rules_0b110 hK25 h_σ
theorem lqb_fX12_rules_0b94 {u w : Int64} {K25 : Int32 → Int32 → ST → (Int32 × ST)} (hK25 : ∀ (q0 : Int32) (q1 : Int32) (τ : ST), LQ u w τ → LQP u w (K25 q0 q1 τ)) {l1 : Int32} {l2 : Int32} {l3 : Int32} {σ : ST} (h_σ : LQ u w σ) : LQP u w (fX12_rules_0b94 K25 l1 l2 l3 σ) := by
  unfold fX12_rules_0b94
  refine lqbd2 fun v95 _ => ?_
  refine lqbd2 fun v99 _ => ?_
  exact lqite2 (lqb_fX12_rules_0b109 hK25 h_σ) (lqb_fX12_rules_0b105 hK25 h_σ)
theorem lqb_fX12_rules_0b79 {u w : Int64} {K25 : Int32 → Int32 → ST → (Int32 × ST)} (hK25 : ∀ (q0 : Int32) (q1 : Int32) (τ : ST), LQ u w τ → LQP u w (K25 q0 q1 τ)) {l1 : Int32} {l2 : Int32} {l3 : Int32} {σ : ST} (h_σ : LQ u w σ) : LQP u w (fX12_rules_0b79 K25 l1 l2 l3 σ) := by
  unfold fX12_rules_0b79
  refine lqbd2 fun v82 _ => ?_
  refine lqbd2 fun v83 _ => ?_
  refine lqbd2 fun v87 _ => ?_
  exact lqite2 (lqb_fX12_rules_0b94 hK25 h_σ) (lqb_fX12_rules_0b109 hK25 h_σ)
theorem lqb_fX12_rules_0b66 {u w : Int64} {K25 : Int32 → Int32 → ST → (Int32 × ST)} (hK25 : ∀ (q0 : Int32) (q1 : Int32) (τ : ST), LQ u w τ → LQP u w (K25 q0 q1 τ)) {l1 : Int32} {l2 : Int32} {t0 : Int32} {σ : ST} (h_σ : LQ u w σ) : LQP u w (fX12_rules_0b66 K25 l1 l2 t0 σ) := by
  unfold fX12_rules_0b66
  refine lqbp2 fun v66 s66 e_s66 => ?_
  have h_s66 : LQ u w s66 := by rw [← e_s66]; exact lq_fX12_due_0 h_σ
  refine lqbd2 fun v71 _ => ?_
  exact lqite2 (lqb_fX12_rules_0b79 hK25 h_s66) (lqb_fX12_rules_0b147 hK25 h_s66)
theorem lqb_fX12_rules_0b65 {u w : Int64} {K25 : Int32 → Int32 → ST → (Int32 × ST)} (hK25 : ∀ (q0 : Int32) (q1 : Int32) (τ : ST), LQ u w τ → LQP u w (K25 q0 q1 τ)) {l1 : Int32} {l2 : Int32} {σ : ST} (h_σ : LQ u w σ) : LQP u w (fX12_rules_0b65 K25 l1 l2 σ) := by
  unfold fX12_rules_0b65
  exact lqb_fX12_rules_0b66 hK25 h_σ
theorem lqb_fX12_rules_0b61 {u w : Int64} {K25 : Int32 → Int32 → ST → (Int32 × ST)} (hK25 : ∀ (q0 : Int32) (q1 : Int32) (τ : ST), LQ u w τ → LQP u w (K25 q0 q1 τ)) {l1 : Int32} {l2 : Int32} {σ : ST} (h_σ : LQ u w σ) : LQP u w (fX12_rules_0b61 K25 l1 l2 σ) := by
  unfold fX12_rules_0b61
  exact lqb_fX12_rules_0b66 hK25 h_σ
theorem lqb_fX12_rules_0b50 {u w : Int64} {K25 : Int32 → Int32 → ST → (Int32 × ST)} (hK25 : ∀ (q0 : Int32) (q1 : Int32) (τ : ST), LQ u w τ → LQP u w (K25 q0 q1 τ)) {l1 : Int32} {l2 : Int32} {σ : ST} (h_σ : LQ u w σ) : LQP u w (fX12_rules_0b50 K25 l1 l2 σ) := by
  unfold fX12_rules_0b50
  refine lqbd2 fun v52 _ => ?_
  refine lqbd2 fun v55 _ => ?_
  refine lqbd2 fun v57 _ => ?_
  exact lqite2 (lqb_fX12_rules_0b61 hK25 h_σ) (lqb_fX12_rules_0b65 hK25 h_σ)
theorem lqb_fX12_rules_0b41 {u w : Int64} {K25 : Int32 → Int32 → ST → (Int32 × ST)} (hK25 : ∀ (q0 : Int32) (q1 : Int32) (τ : ST), LQ u w τ → LQP u w (K25 q0 q1 τ)) {l1 : Int32} {l2 : Int32} {σ : ST} (h_σ : LQ u w σ) : LQP u w (fX12_rules_0b41 K25 l1 l2 σ) := by
  unfold fX12_rules_0b41
  refine lqbd2 fun v43 _ => ?_
  exact lqite2 (lqb_fX12_rules_0b50 hK25 h_σ) (lqb_fX12_rules_0b65 hK25 h_σ)
theorem lqb_fX12_rules_0b34 {u w : Int64} {K25 : Int32 → Int32 → ST → (Int32 × ST)} (hK25 : ∀ (q0 : Int32) (q1 : Int32) (τ : ST), LQ u w τ → LQP u w (K25 q0 q1 τ)) {l1 : Int32} {l2 : Int32} {σ : ST} (h_σ : LQ u w σ) : LQP u w (fX12_rules_0b34 K25 l1 l2 σ) := by
  unfold fX12_rules_0b34
  refine lqbd2 fun v35 _ => ?_
  exact lqite2 (lqb_fX12_rules_0b150  h_σ) (lqb_fX12_rules_0b41 hK25 h_σ)
theorem lqb_fX12_rules_0b25 {u w : Int64} {K25 : Int32 → Int32 → ST → (Int32 × ST)} (hK25 : ∀ (q0 : Int32) (q1 : Int32) (τ : ST), LQ u w τ → LQP u w (K25 q0 q1 τ)) {l1 : Int32} {l2 : Int32} {σ : ST} (h_σ : LQ u w σ) : LQP u w (fX12_rules_0b25 K25 l1 l2 σ) := by
  unfold fX12_rules_0b25
  refine lqbd2 fun v26 _ => ?_
  exact lqite2 (lqb_fX12_rules_0b34 hK25 h_σ) (lqb_fX12_rules_0b150  h_σ)
theorem lqb_fX12_rules_0l25 {u w : Int64}  : ∀ (fu : Nat) {q0 : Int32} {q1 : Int32} {τ : ST} (h : LQ u w τ), LQP u w (fX12_rules_0l25 fu q0 q1 τ)
  | 0, _, _, _, h => h
  | fu + 1, _, _, _, h => lqb_fX12_rules_0b25 (fun _ _ _ q => lqb_fX12_rules_0l25  fu q) h
theorem lqb_fX12_rules_0b0 {u w : Int64}  {σ : ST} (h_σ : LQ u w σ) : LQP u w (fX12_rules_0b0 σ) := by
  unfold fX12_rules_0b0
  refine lqbd2 fun s2 e_s2 => ?_
  have h_s2 : LQ u w s2 := by rw [e_s2]; exact h_σ
  refine lqbd2 fun s8 e_s8 => ?_
  have h_s8 : LQ u w s8 := by rw [e_s8]; exact h_s2
  refine lqbd2 fun s18 e_s18 => ?_
  have h_s18 : LQ u w s18 := by rw [e_s18]; exact lq_fX12_atFirst_0 h_s8
  refine lqbd2 fun s22 e_s22 => ?_
  have h_s22 : LQ u w s22 := by rw [e_s22]; exact lq_fX12_next_0 h_s18
  exact lqb_fX12_rules_0l25  _ h_s22
theorem lq_fX12_rules_0 {u w : Int64} {σ : ST} (h : LQ u w σ) : LQ u w (fX12_rules_0 σ).2 := lqb_fX12_rules_0b0 h
theorem lqb_fX12_addRow_0b0 {u w : Int64}  {l1 : Int32} {l2 : Int32} {l3 : Int32} {l4 : Int32} {l5 : Int32} {σ : ST} (h_σ : LQ u w σ) : LQ u w (fX12_addRow_0b0 l1 l2 l3 l4 l5 σ) := by
  unfold fX12_addRow_0b0
  refine lqbd fun v6 _ => ?_
  refine lqbd fun v9 _ => ?_
  refine lqbd fun s11 e_s11 => ?_
  have h_s11 : LQ u w s11 := by rw [e_s11]; exact h_σ
  refine lqbd fun v18 _ => ?_
  refine lqbd fun v21 _ => ?_
  refine lqbd fun v23 _ => ?_
  refine lqbd fun s25 e_s25 => ?_
  have h_s25 : LQ u w s25 := by rw [e_s25]; exact h_s11
  refine lqbd fun v32 _ => ?_
  refine lqbd fun v35 _ => ?_
  refine lqbd fun v37 _ => ?_
  refine lqbd fun s39 e_s39 => ?_
  have h_s39 : LQ u w s39 := by rw [e_s39]; exact h_s25
  refine lqbd fun v46 _ => ?_
  refine lqbd fun v49 _ => ?_
  refine lqbd fun v51 _ => ?_
  refine lqbd fun s54 e_s54 => ?_
  have h_s54 : LQ u w s54 := by rw [e_s54]; exact h_s39
  refine lqbd fun v60 _ => ?_
  refine lqbd fun s65 e_s65 => ?_
  have h_s65 : LQ u w s65 := by rw [e_s65]; exact h_s54
  refine lqbd fun v71 _ => ?_
  refine lqbd fun s75 e_s75 => ?_
  have h_s75 : LQ u w s75 := by rw [e_s75]; exact h_s65
  refine lqbd fun v81 _ => ?_
  refine lqbd fun s85 e_s85 => ?_
  have h_s85 : LQ u w s85 := by rw [e_s85]; exact h_s75
  refine lqbd fun v88 _ => ?_
  refine lqbd fun v92 _ => ?_
  refine lqbd fun s93 e_s93 => ?_
  have h_s93 : LQ u w s93 := by rw [e_s93]; exact h_s85
  exact h_s93
theorem lq_fX12_addRow_0 {u w : Int64} {p1 : Int32} {p2 : Int32} {p3 : Int32} {p4 : Int32} {p5 : Int32} {σ : ST} (h : LQ u w σ) : LQ u w (fX12_addRow_0 p1 p2 p3 p4 p5 σ) := lqb_fX12_addRow_0b0 h
theorem lqb_fX12_row_0b41 {u w : Int64}  {σ : ST} (h_σ : LQ u w σ) : LQP u w (fX12_row_0b41 σ) := by
  unfold fX12_row_0b41
  exact h_σ
theorem lqb_fX12_row_0b55 {u w : Int64}  {l1 : Int32} {l2 : Int32} {l3 : Int32} {l4 : Int32} {σ : ST} (h_σ : LQ u w σ) : LQP u w (fX12_row_0b55 l1 l2 l3 l4 σ) := by
  unfold fX12_row_0b55
  refine lqbd2 fun s62 e_s62 => ?_
  have h_s62 : LQ u w s62 := by rw [e_s62]; exact lq_fX12_addRow_0 h_σ
  refine lqbd2 fun v66 _ => ?_
  refine lqbd2 fun v70 _ => ?_
  exact h_s62
theorem lqb_fX12_row_0b52 {u w : Int64}  {σ : ST} (h_σ : LQ u w σ) : LQP u w (fX12_row_0b52 σ) := by
  unfold fX12_row_0b52
  exact h_σ
theorem lqb_fX12_row_0b43 {u w : Int64}  {l1 : Int32} {l2 : Int32} {l3 : Int32} {l4 : Int32} {σ : ST} (h_σ : LQ u w σ) : LQP u w (fX12_row_0b43 l1 l2 l3 l4 σ) := by
  unfold fX12_row_0b43
  refine lqbd2 fun v44 _ => ?_
  exact lqite2 (lqb_fX12_row_0b52  h_σ) (lqb_fX12_row_0b55  h_σ)
theorem lqb_fX12_row_0b30 {u w : Int64}  {l1 : Int32} {l2 : Int32} {l3 : Int32} {l4 : Int32} {σ : ST} (h_σ : LQ u w σ) : LQP u w (fX12_row_0b30 l1 l2 l3 l4 σ) := by
  unfold fX12_row_0b30
  refine lqbd2 fun v35 _ => ?_
  exact lqite2 (lqb_fX12_row_0b41  h_σ) (lqb_fX12_row_0b43  h_σ)
theorem lqb_fX12_row_0b20 {u w : Int64}  {l1 : Int32} {l2 : Int32} {l3 : Int32} {l4 : Int32} {σ : ST} (h_σ : LQ u w σ) : LQP u w (fX12_row_0b20 l1 l2 l3 l4 σ) := by
  unfold fX12_row_0b20
  refine lqbd2 fun v24 _ => ?_
  exact lqite2 (lqb_fX12_row_0b41  h_σ) (lqb_fX12_row_0b30  h_σ)
theorem lqb_fX12_row_0b10 {u w : Int64}  {l1 : Int32} {l2 : Int32} {l3 : Int32} {l4 : Int32} {σ : ST} (h_σ : LQ u w σ) : LQP u w (fX12_row_0b10 l1 l2 l3 l4 σ) := by
  unfold fX12_row_0b10
  refine lqbd2 fun v14 _ => ?_
  exact lqite2 (lqb_fX12_row_0b41  h_σ) (lqb_fX12_row_0b20  h_σ)
theorem lqb_fX12_row_0b0 {u w : Int64}  {l1 : Int32} {l2 : Int32} {l3 : Int32} {l4 : Int32} {σ : ST} (h_σ : LQ u w σ) : LQP u w (fX12_row_0b0 l1 l2 l3 l4 σ) := by
  unfold fX12_row_0b0
  refine lqbd2 fun v4 _ => ?_
  exact lqite2 (lqb_fX12_row_0b41  h_σ) (lqb_fX12_row_0b10  h_σ)
theorem lq_fX12_row_0 {u w : Int64} {p1 : Int32} {p2 : Int32} {p3 : Int32} {p4 : Int32} {σ : ST} (h : LQ u w σ) : LQ u w (fX12_row_0 p1 p2 p3 p4 σ).2 := lqb_fX12_row_0b0 h
theorem lqb_fX12_deaf_0b48 {u w : Int64}  {σ : ST} (h_σ : LQ u w σ) : LQP u w (fX12_deaf_0b48 σ) := by
  unfold fX12_deaf_0b48
  refine lqbd2 fun v49 _ => ?_
  exact h_σ
theorem lqb_fX12_deaf_0b33 {u w : Int64} {K28 : Int32 → Int32 → ST → (Int32 × ST)} (hK28 : ∀ (q0 : Int32) (q1 : Int32) (τ : ST), LQ u w τ → LQP u w (K28 q0 q1 τ)) {l1 : Int32} {l2 : Int32} {σ : ST} (h_σ : LQ u w σ) : LQP u w (fX12_deaf_0b33 K28 l1 l2 σ) := by
  unfold fX12_deaf_0b33
  refine lqbd2 fun s39 e_s39 => ?_
  have h_s39 : LQ u w s39 := by rw [e_s39]; exact lq_fX12_addRow_0 h_σ
  refine lqbd2 fun v42 _ => ?_
  exact hK28 _ _ _ h_s39
theorem lqb_fX12_deaf_0b28 {u w : Int64} {K28 : Int32 → Int32 → ST → (Int32 × ST)} (hK28 : ∀ (q0 : Int32) (q1 : Int32) (τ : ST), LQ u w τ → LQP u w (K28 q0 q1 τ)) {l1 : Int32} {l2 : Int32} {σ : ST} (h_σ : LQ u w σ) : LQP u w (fX12_deaf_0b28 K28 l1 l2 σ) := by
  unfold fX12_deaf_0b28
  exact lqite2 (lqb_fX12_deaf_0b48  h_σ) (lqb_fX12_deaf_0b33 hK28 h_σ)
theorem lqb_fX12_deaf_0l28 {u w : Int64}  : ∀ (fu : Nat) {q0 : Int32} {q1 : Int32} {τ : ST} (h : LQ u w τ), LQP u w (fX12_deaf_0l28 fu q0 q1 τ)
  | 0, _, _, _, h => h
  | fu + 1, _, _, _, h => lqb_fX12_deaf_0b28 (fun _ _ _ q => lqb_fX12_deaf_0l28  fu q) h
theorem lqb_fX12_deaf_0b26 {u w : Int64}  {l1 : Int32} {σ : ST} (h_σ : LQ u w σ) : LQP u w (fX12_deaf_0b26 l1 σ) := by
  unfold fX12_deaf_0b26
  exact lqb_fX12_deaf_0l28  _ h_σ
theorem lqb_fX12_deaf_0b23 {u w : Int64}  {σ : ST} (h_σ : LQ u w σ) : LQP u w (fX12_deaf_0b23 σ) := by
  unfold fX12_deaf_0b23
  exact h_σ
theorem lqb_fX12_deaf_0b12 {u w : Int64}  {l1 : Int32} {σ : ST} (h_σ : LQ u w σ) : LQP u w (fX12_deaf_0b12 l1 σ) := by
  unfold fX12_deaf_0b12
  refine lqbd2 fun v13 _ => ?_
  refine lqbd2 fun v17 _ => ?_
  exact lqite2 (lqb_fX12_deaf_0b26  h_σ) (lqb_fX12_deaf_0b23  h_σ)
theorem lqb_fX12_deaf_0b10 {u w : Int64}  {σ : ST} (h_σ : LQ u w σ) : LQP u w (fX12_deaf_0b10 σ) := by
  unfold fX12_deaf_0b10
  exact h_σ
theorem lqb_fX12_deaf_0b0 {u w : Int64}  {l1 : Int32} {σ : ST} (h_σ : LQ u w σ) : LQP u w (fX12_deaf_0b0 l1 σ) := by
  unfold fX12_deaf_0b0
  refine lqbd2 fun v4 _ => ?_
  exact lqite2 (lqb_fX12_deaf_0b10  h_σ) (lqb_fX12_deaf_0b12  h_σ)
theorem lq_fX12_deaf_0 {u w : Int64} {p1 : Int32} {σ : ST} (h : LQ u w σ) : LQ u w (fX12_deaf_0 p1 σ).2 := lqb_fX12_deaf_0b0 h
theorem lqb_fX12_out_0b18 {u w : Int64}  {σ : ST} (h_σ : LQ u w σ) : LQP u w (fX12_out_0b18 σ) := by
  unfold fX12_out_0b18
  exact h_σ
theorem lqb_fX12_out_0b85 {u w : Int64}  {l4 : Int32} {σ : ST} (h_σ : LQ u w σ) : LQP u w (fX12_out_0b85 l4 σ) := by
  unfold fX12_out_0b85
  exact h_σ
theorem lqb_fX12_out_0b78 {u w : Int64} {K26 : Int32 → Int32 → Int32 → Int32 → ST → (Int32 × ST)} (hK26 : ∀ (q0 : Int32) (q1 : Int32) (q2 : Int32) (q3 : Int32) (τ : ST), LQ u w τ → LQP u w (K26 q0 q1 q2 q3 τ)) {l2 : Int32} {l3 : Int32} {l4 : Int32} {l5 : Int32} {t0 : Int32} {t1 : Int32} {σ : ST} (h_σ : LQ u w σ) : LQP u w (fX12_out_0b78 K26 l2 l3 l4 l5 t0 t1 σ) := by
  unfold fX12_out_0b78
  refine lqbd2 fun s78 e_s78 => ?_
  have h_s78 : LQ u w s78 := by rw [e_s78]; exact h_σ
  refine lqbd2 fun v79 _ => ?_
  exact hK26 _ _ _ _ _ h_s78
theorem lqb_fX12_out_0b77 {u w : Int64} {K26 : Int32 → Int32 → Int32 → Int32 → ST → (Int32 × ST)} (hK26 : ∀ (q0 : Int32) (q1 : Int32) (q2 : Int32) (q3 : Int32) (τ : ST), LQ u w τ → LQP u w (K26 q0 q1 q2 q3 τ)) {l2 : Int32} {l3 : Int32} {l4 : Int32} {l5 : Int32} {t0 : Int32} {σ : ST} (h_σ : LQ u w σ) : LQP u w (fX12_out_0b77 K26 l2 l3 l4 l5 t0 σ) := by
  unfold fX12_out_0b77
  exact lqb_fX12_out_0b78 hK26 h_σ
theorem lqb_fX12_out_0b73 {u w : Int64} {K26 : Int32 → Int32 → Int32 → Int32 → ST → (Int32 × ST)} (hK26 : ∀ (q0 : Int32) (q1 : Int32) (q2 : Int32) (q3 : Int32) (τ : ST), LQ u w τ → LQP u w (K26 q0 q1 q2 q3 τ)) {l2 : Int32} {l3 : Int32} {l4 : Int32} {l5 : Int32} {t0 : Int32} {σ : ST} (h_σ : LQ u w σ) : LQP u w (fX12_out_0b73 K26 l2 l3 l4 l5 t0 σ) := by
  unfold fX12_out_0b73
  exact lqb_fX12_out_0b78 hK26 h_σ
theorem lqb_fX12_out_0b59 {u w : Int64} {K26 : Int32 → Int32 → Int32 → Int32 → ST → (Int32 × ST)} (hK26 : ∀ (q0 : Int32) (q1 : Int32) (q2 : Int32) (q3 : Int32) (τ : ST), LQ u w τ → LQP u w (K26 q0 q1 q2 q3 τ)) {l2 : Int32} {l3 : Int32} {l5 : Int32} {t0 : Int32} {t1 : Int32} {σ : ST} (h_σ : LQ u w σ) : LQP u w (fX12_out_0b59 K26 l2 l3 l5 t0 t1 σ) := by
  unfold fX12_out_0b59
  refine lqbd2 fun v59 _ => ?_
  exact lqite2 (lqb_fX12_out_0b73 hK26 h_σ) (lqb_fX12_out_0b77 hK26 h_σ)
theorem lqb_fX12_out_0b58 {u w : Int64} {K26 : Int32 → Int32 → Int32 → Int32 → ST → (Int32 × ST)} (hK26 : ∀ (q0 : Int32) (q1 : Int32) (q2 : Int32) (q3 : Int32) (τ : ST), LQ u w τ → LQP u w (K26 q0 q1 q2 q3 τ)) {l2 : Int32} {l3 : Int32} {l5 : Int32} {t0 : Int32} {σ : ST} (h_σ : LQ u w σ) : LQP u w (fX12_out_0b58 K26 l2 l3 l5 t0 σ) := by
  unfold fX12_out_0b58
  exact lqb_fX12_out_0b59 hK26 h_σ
theorem lqb_fX12_out_0b54 {u w : Int64} {K26 : Int32 → Int32 → Int32 → Int32 → ST → (Int32 × ST)} (hK26 : ∀ (q0 : Int32) (q1 : Int32) (q2 : Int32) (q3 : Int32) (τ : ST), LQ u w τ → LQP u w (K26 q0 q1 q2 q3 τ)) {l2 : Int32} {l3 : Int32} {l5 : Int32} {t0 : Int32} {σ : ST} (h_σ : LQ u w σ) : LQP u w (fX12_out_0b54 K26 l2 l3 l5 t0 σ) := by
  unfold fX12_out_0b54
  exact lqb_fX12_out_0b59 hK26 h_σ
theorem lqb_fX12_out_0b51 {u w : Int64} {K26 : Int32 → Int32 → Int32 → Int32 → ST → (Int32 × ST)} (hK26 : ∀ (q0 : Int32) (q1 : Int32) (q2 : Int32) (q3 : Int32) (τ : ST), LQ u w τ → LQP u w (K26 q0 q1 q2 q3 τ)) {l2 : Int32} {l3 : Int32} {l5 : Int32} {t0 : Int32} {t1 : Int32} {t2 : Int32} {σ : ST} (h_σ : LQ u w σ) : LQP u w (fX12_out_0b51 K26 l2 l3 l5 t0 t1 t2 σ) := by
  unfold fX12_out_0b51
  exact lqite2 (lqb_fX12_out_0b54 hK26 h_σ) (lqb_fX12_out_0b58 hK26 h_σ)
theorem lqb_fX12_out_0b50 {u w : Int64} {K26 : Int32 → Int32 → Int32 → Int32 → ST → (Int32 × ST)} (hK26 : ∀ (q0 : Int32) (q1 : Int32) (q2 : Int32) (q3 : Int32) (τ : ST), LQ u w τ → LQP u w (K26 q0 q1 q2 q3 τ)) {l2 : Int32} {l3 : Int32} {l5 : Int32} {t0 : Int32} {t1 : Int32} {σ : ST} (h_σ : LQ u w σ) : LQP u w (fX12_out_0b50 K26 l2 l3 l5 t0 t1 σ) := by
  unfold fX12_out_0b50
  exact lqb_fX12_out_0b51 hK26 h_σ
theorem lqb_fX12_out_0b46 {u w : Int64} {K26 : Int32 → Int32 → Int32 → Int32 → ST → (Int32 × ST)} (hK26 : ∀ (q0 : Int32) (q1 : Int32) (q2 : Int32) (q3 : Int32) (τ : ST), LQ u w τ → LQP u w (K26 q0 q1 q2 q3 τ)) {l2 : Int32} {l3 : Int32} {l5 : Int32} {t0 : Int32} {t1 : Int32} {σ : ST} (h_σ : LQ u w σ) : LQP u w (fX12_out_0b46 K26 l2 l3 l5 t0 t1 σ) := by
  unfold fX12_out_0b46
  exact lqb_fX12_out_0b51 hK26 h_σ
theorem lqb_fX12_out_0b32 {u w : Int64} {K26 : Int32 → Int32 → Int32 → Int32 → ST → (Int32 × ST)} (hK26 : ∀ (q0 : Int32) (q1 : Int32) (q2 : Int32) (q3 : Int32) (τ : ST), LQ u w τ → LQP u w (K26 q0 q1 q2 q3 τ)) {l2 : Int32} {l3 : Int32} {l4 : Int32} {l5 : Int32} {σ : ST} (h_σ : LQ u w σ) : LQP u w (fX12_out_0b32 K26 l2 l3 l4 l5 σ) := by
  unfold fX12_out_0b32
  refine lqbd2 fun v40 _ => ?_
  exact lqite2 (lqb_fX12_out_0b46 hK26 h_σ) (lqb_fX12_out_0b50 hK26 h_σ)
theorem lqb_fX12_out_0b26 {u w : Int64} {K26 : Int32 → Int32 → Int32 → Int32 → ST → (Int32 × ST)} (hK26 : ∀ (q0 : Int32) (q1 : Int32) (q2 : Int32) (q3 : Int32) (τ : ST), LQ u w τ → LQP u w (K26 q0 q1 q2 q3 τ)) {l2 : Int32} {l3 : Int32} {l4 : Int32} {l5 : Int32} {σ : ST} (h_σ : LQ u w σ) : LQP u w (fX12_out_0b26 K26 l2 l3 l4 l5 σ) := by
  unfold fX12_out_0b26
  exact lqite2 (lqb_fX12_out_0b85  h_σ) (lqb_fX12_out_0b32 hK26 h_σ)
theorem lqb_fX12_out_0l26 {u w : Int64}  : ∀ (fu : Nat) {q0 : Int32} {q1 : Int32} {q2 : Int32} {q3 : Int32} {τ : ST} (h : LQ u w τ), LQP u w (fX12_out_0l26 fu q0 q1 q2 q3 τ)
  | 0, _, _, _, _, _, h => h
  | fu + 1, _, _, _, _, _, h => lqb_fX12_out_0b26 (fun _ _ _ _ _ q => lqb_fX12_out_0l26  fu q) h
theorem lqb_fX12_out_0b20 {u w : Int64}  {l1 : Int32} {l2 : Int32} {l3 : Int32} {σ : ST} (h_σ : LQ u w σ) : LQP u w (fX12_out_0b20 l1 l2 l3 σ) := by
  unfold fX12_out_0b20
  exact lqb_fX12_out_0l26  _ h_σ
theorem lqb_fX12_out_0b9 {u w : Int64}  {l1 : Int32} {l2 : Int32} {l3 : Int32} {σ : ST} (h_σ : LQ u w σ) : LQP u w (fX12_out_0b9 l1 l2 l3 σ) := by
  unfold fX12_out_0b9
  refine lqbd2 fun v12 _ => ?_
  exact lqite2 (lqb_fX12_out_0b18  h_σ) (lqb_fX12_out_0b20  h_σ)
theorem lqb_fX12_out_0b0 {u w : Int64}  {l1 : Int32} {l2 : Int32} {l3 : Int32} {σ : ST} (h_σ : LQ u w σ) : LQP u w (fX12_out_0b0 l1 l2 l3 σ) := by
  unfold fX12_out_0b0
  refine lqbd2 fun v3 _ => ?_
  exact lqite2 (lqb_fX12_out_0b18  h_σ) (lqb_fX12_out_0b9  h_σ)
theorem lq_fX12_out_0 {u w : Int64} {p1 : Int32} {p2 : Int32} {p3 : Int32} {σ : ST} (h : LQ u w σ) : LQ u w (fX12_out_0 p1 p2 p3 σ).2 := lqb_fX12_out_0b0 h
theorem lqb_fX12_hush_0b0 {u w : Int64}  {σ : ST} (h_σ : LQ u w σ) : LQP u w (fX12_hush_0b0 σ) := by
  unfold fX12_hush_0b0
  refine lqbd2 fun v1 _ => ?_
  refine lqbd2 fun s7 e_s7 => ?_
  have h_s7 : LQ u w s7 := by rw [e_s7]; exact h_σ
  refine lqbd2 fun s12 e_s12 => ?_
  have h_s12 : LQ u w s12 := by rw [e_s12]; exact h_s7
  refine lqbd2 fun s17 e_s17 => ?_
  have h_s17 : LQ u w s17 := by rw [e_s17]; exact h_s12
  exact h_s17
theorem lq_fX12_hush_0 {u w : Int64} {σ : ST} (h : LQ u w σ) : LQ u w (fX12_hush_0 σ).2 := lqb_fX12_hush_0b0 h
theorem lqb_fX12_findMiddle_0b189 {u w : Int64}  {σ : ST} (h_σ : LQ u w σ) : LQ u w (fX12_findMiddle_0b189 σ) := by
  unfold fX12_findMiddle_0b189
  exact h_σ
theorem lqb_fX12_findMiddle_0b183 {u w : Int64} {K7 : Int32 → ST → ST} (hK7 : ∀ (q0 : Int32) (τ : ST), LQ u w τ → LQ u w (K7 q0 τ)) {l1 : Int32} {σ : ST} (h_σ : LQ u w σ) : LQ u w (fX12_findMiddle_0b183 K7 l1 σ) := by
  unfold fX12_findMiddle_0b183
  refine lqbd fun v183 _ => ?_
  exact hK7 _ _ h_σ
theorem lqb_fX12_findMiddle_0b173 {u w : Int64} {K7 : Int32 → ST → ST} (hK7 : ∀ (q0 : Int32) (τ : ST), LQ u w τ → LQ u w (K7 q0 τ)) {K135 : Int32 → Int32 → Int32 → ST → ST} (hK135 : ∀ (q0 : Int32) (q1 : Int32) (q2 : Int32) (τ : ST), LQ u w τ → LQ u w (K135 q0 q1 q2 τ)) {l1 : Int32} {l2 : Int32} {l3 : Int32} {t0 : Int32} {t1 : Int32} {σ : ST} (h_σ : LQ u w σ) : LQ u w (fX12_findMiddle_0b173 K7 K135 l1 l2 l3 t0 t1 σ) := by
  unfold fX12_findMiddle_0b173
  refine lqbd fun v173 _ => ?_
  refine lqbd fun s174 e_s174 => ?_
  have h_s174 : LQ u w s174 := by rw [e_s174]; exact h_σ
  refine lqbd fun v177 _ => ?_
  exact hK135 _ _ _ _ h_s174
theorem lqb_fX12_findMiddle_0b171 {u w : Int64} {K7 : Int32 → ST → ST} (hK7 : ∀ (q0 : Int32) (τ : ST), LQ u w τ → LQ u w (K7 q0 τ)) {K135 : Int32 → Int32 → Int32 → ST → ST} (hK135 : ∀ (q0 : Int32) (q1 : Int32) (q2 : Int32) (τ : ST), LQ u w τ → LQ u w (K135 q0 q1 q2 τ)) {l1 : Int32} {l2 : Int32} {l3 : Int32} {l4 : Int32} {t0 : Int32} {σ : ST} (h_σ : LQ u w σ) : LQ u w (fX12_findMiddle_0b171 K7 K135 l1 l2 l3 l4 t0 σ) := by
  unfold fX12_findMiddle_0b171
  exact lqb_fX12_findMiddle_0b173 hK7 hK135 h_σ
theorem lqb_fX12_findMiddle_0b165 {u w : Int64} {K7 : Int32 → ST → ST} (hK7 : ∀ (q0 : Int32) (τ : ST), LQ u w τ → LQ u w (K7 q0 τ)) {K135 : Int32 → Int32 → Int32 → ST → ST} (hK135 : ∀ (q0 : Int32) (q1 : Int32) (q2 : Int32) (τ : ST), LQ u w τ → LQ u w (K135 q0 q1 q2 τ)) {l1 : Int32} {l2 : Int32} {l3 : Int32} {l4 : Int32} {t0 : Int32} {σ : ST} (h_σ : LQ u w σ) : LQ u w (fX12_findMiddle_0b165 K7 K135 l1 l2 l3 l4 t0 σ) := by
  unfold fX12_findMiddle_0b165
  refine lqbd fun v167 _ => ?_
  exact lqb_fX12_findMiddle_0b173 hK7 hK135 h_σ
theorem lqb_fX12_findMiddle_0b140 {u w : Int64} {K7 : Int32 → ST → ST} (hK7 : ∀ (q0 : Int32) (τ : ST), LQ u w τ → LQ u w (K7 q0 τ)) {K135 : Int32 → Int32 → Int32 → ST → ST} (hK135 : ∀ (q0 : Int32) (q1 : Int32) (q2 : Int32) (τ : ST), LQ u w τ → LQ u w (K135 q0 q1 q2 τ)) {l1 : Int32} {l2 : Int32} {l3 : Int32} {σ : ST} (h_σ : LQ u w σ) : LQ u w (fX12_findMiddle_0b140 K7 K135 l1 l2 l3 σ) := by
  unfold fX12_findMiddle_0b140
  refine lqbd fun v145 _ => ?_
  refine lqbd fun v151 _ => ?_
  refine lqbd fun v152 _ => ?_
  refine lqbd fun v157 _ => ?_
  exact lqite (lqb_fX12_findMiddle_0b171 hK7 hK135 h_σ) (lqb_fX12_findMiddle_0b165 hK7 hK135 h_σ)
theorem lqb_fX12_findMiddle_0b135 {u w : Int64} {K7 : Int32 → ST → ST} (hK7 : ∀ (q0 : Int32) (τ : ST), LQ u w τ → LQ u w (K7 q0 τ)) {K135 : Int32 → Int32 → Int32 → ST → ST} (hK135 : ∀ (q0 : Int32) (q1 : Int32) (q2 : Int32) (τ : ST), LQ u w τ → LQ u w (K135 q0 q1 q2 τ)) {l1 : Int32} {l2 : Int32} {l3 : Int32} {σ : ST} (h_σ : LQ u w σ) : LQ u w (fX12_findMiddle_0b135 K7 K135 l1 l2 l3 σ) := by
  unfold fX12_findMiddle_0b135
  exact lqite (lqb_fX12_findMiddle_0b183 hK7 h_σ) (lqb_fX12_findMiddle_0b140 hK7 hK135 h_σ)
theorem lqb_fX12_findMiddle_0l135 {u w : Int64} {K7 : Int32 → ST → ST} (hK7 : ∀ (q0 : Int32) (τ : ST), LQ u w τ → LQ u w (K7 q0 τ)) : ∀ (fu : Nat) {q0 : Int32} {q1 : Int32} {q2 : Int32} {τ : ST} (h : LQ u w τ), LQ u w (fX12_findMiddle_0l135 K7 fu q0 q1 q2 τ)
  | 0, _, _, _, _, h => h
  | fu + 1, _, _, _, _, h => lqb_fX12_findMiddle_0b135 hK7 (fun _ _ _ _ q => lqb_fX12_findMiddle_0l135 hK7 fu q) h
theorem lqb_fX12_findMiddle_0b132 {u w : Int64} {K7 : Int32 → ST → ST} (hK7 : ∀ (q0 : Int32) (τ : ST), LQ u w τ → LQ u w (K7 q0 τ)) {l1 : Int32} {l2 : Int32} {t0 : Int32} {t1 : Int32} {σ : ST} (h_σ : LQ u w σ) : LQ u w (fX12_findMiddle_0b132 K7 l1 l2 t0 t1 σ) := by
  unfold fX12_findMiddle_0b132
  refine lqbd fun s132 e_s132 => ?_
  have h_s132 : LQ u w s132 := by rw [e_s132]; exact h_σ
  exact lqb_fX12_findMiddle_0l135 hK7 _ h_s132
theorem lqb_fX12_findMiddle_0b120 {u w : Int64} {K7 : Int32 → ST → ST} (hK7 : ∀ (q0 : Int32) (τ : ST), LQ u w τ → LQ u w (K7 q0 τ)) {l1 : Int32} {l2 : Int32} {t0 : Int32} {σ : ST} (h_σ : LQ u w σ) : LQ u w (fX12_findMiddle_0b120 K7 l1 l2 t0 σ) := by
  unfold fX12_findMiddle_0b120
  refine lqbd fun v126 _ => ?_
  refine lqbd fun v128 _ => ?_
  refine lqbd fun v130 _ => ?_
  refine lqbd fun v131 _ => ?_
  exact lqb_fX12_findMiddle_0b132 hK7 h_σ
theorem lqb_fX12_findMiddle_0b116 {u w : Int64} {K7 : Int32 → ST → ST} (hK7 : ∀ (q0 : Int32) (τ : ST), LQ u w τ → LQ u w (K7 q0 τ)) {l1 : Int32} {l2 : Int32} {t0 : Int32} {σ : ST} (h_σ : LQ u w σ) : LQ u w (fX12_findMiddle_0b116 K7 l1 l2 t0 σ) := by
  unfold fX12_findMiddle_0b116
  exact lqb_fX12_findMiddle_0b132 hK7 h_σ
theorem lqb_fX12_findMiddle_0b107 {u w : Int64} {K7 : Int32 → ST → ST} (hK7 : ∀ (q0 : Int32) (τ : ST), LQ u w τ → LQ u w (K7 q0 τ)) {l1 : Int32} {l2 : Int32} {σ : ST} (h_σ : LQ u w σ) : LQ u w (fX12_findMiddle_0b107 K7 l1 l2 σ) := by
  unfold fX12_findMiddle_0b107
  exact lqite (lqb_fX12_findMiddle_0b116 hK7 h_σ) (lqb_fX12_findMiddle_0b120 hK7 h_σ)
theorem lqb_fX12_findMiddle_0b101 {u w : Int64} {K7 : Int32 → ST → ST} (hK7 : ∀ (q0 : Int32) (τ : ST), LQ u w τ → LQ u w (K7 q0 τ)) {K16 : Int32 → Int32 → Int32 → ST → ST} (hK16 : ∀ (q0 : Int32) (q1 : Int32) (q2 : Int32) (τ : ST), LQ u w τ → LQ u w (K16 q0 q1 q2 τ)) {l1 : Int32} {l2 : Int32} {l3 : Int32} {σ : ST} (h_σ : LQ u w σ) : LQ u w (fX12_findMiddle_0b101 K7 K16 l1 l2 l3 σ) := by
  unfold fX12_findMiddle_0b101
  refine lqbd fun v101 _ => ?_
  exact hK16 _ _ _ _ h_σ
theorem lqb_fX12_findMiddle_0b89 {u w : Int64} {K7 : Int32 → ST → ST} (hK7 : ∀ (q0 : Int32) (τ : ST), LQ u w τ → LQ u w (K7 q0 τ)) {K16 : Int32 → Int32 → Int32 → ST → ST} (hK16 : ∀ (q0 : Int32) (q1 : Int32) (q2 : Int32) (τ : ST), LQ u w τ → LQ u w (K16 q0 q1 q2 τ)) {l1 : Int32} {l2 : Int32} {l3 : Int32} {l4 : Int32} {l5 : Int32} {σ : ST} (h_σ : LQ u w σ) : LQ u w (fX12_findMiddle_0b89 K7 K16 l1 l2 l3 l4 l5 σ) := by
  unfold fX12_findMiddle_0b89
  refine lqbd fun s97 e_s97 => ?_
  have h_s97 : LQ u w s97 := by rw [e_s97]; exact h_σ
  refine lqbd fun v98 _ => ?_
  exact lqb_fX12_findMiddle_0b101 hK7 hK16 h_s97
theorem lqb_fX12_findMiddle_0b67 {u w : Int64} {K7 : Int32 → ST → ST} (hK7 : ∀ (q0 : Int32) (τ : ST), LQ u w τ → LQ u w (K7 q0 τ)) {K16 : Int32 → Int32 → Int32 → ST → ST} (hK16 : ∀ (q0 : Int32) (q1 : Int32) (q2 : Int32) (τ : ST), LQ u w τ → LQ u w (K16 q0 q1 q2 τ)) {K48 : Int32 → Int32 → Int32 → Int32 → Int32 → ST → ST} (hK48 : ∀ (q0 : Int32) (q1 : Int32) (q2 : Int32) (q3 : Int32) (q4 : Int32) (τ : ST), LQ u w τ → LQ u w (K48 q0 q1 q2 q3 q4 τ)) {l1 : Int32} {l2 : Int32} {l3 : Int32} {l4 : Int32} {l5 : Int32} {σ : ST} (h_σ : LQ u w σ) : LQ u w (fX12_findMiddle_0b67 K7 K16 K48 l1 l2 l3 l4 l5 σ) := by
  unfold fX12_findMiddle_0b67
  refine lqbd fun v80 _ => ?_
  refine lqbd fun v81 _ => ?_
  refine lqbd fun s82 e_s82 => ?_
  have h_s82 : LQ u w s82 := by rw [e_s82]; exact h_σ
  refine lqbd fun v83 _ => ?_
  exact hK48 _ _ _ _ _ _ h_s82
theorem lqb_fX12_findMiddle_0b53 {u w : Int64} {K7 : Int32 → ST → ST} (hK7 : ∀ (q0 : Int32) (τ : ST), LQ u w τ → LQ u w (K7 q0 τ)) {K16 : Int32 → Int32 → Int32 → ST → ST} (hK16 : ∀ (q0 : Int32) (q1 : Int32) (q2 : Int32) (τ : ST), LQ u w τ → LQ u w (K16 q0 q1 q2 τ)) {K48 : Int32 → Int32 → Int32 → Int32 → Int32 → ST → ST} (hK48 : ∀ (q0 : Int32) (q1 : Int32) (q2 : Int32) (q3 : Int32) (q4 : Int32) (τ : ST), LQ u w τ → LQ u w (K48 q0 q1 q2 q3 q4 τ)) {l1 : Int32} {l2 : Int32} {l3 : Int32} {l4 : Int32} {l5 : Int32} {σ : ST} (h_σ : LQ u w σ) : LQ u w (fX12_findMiddle_0b53 K7 K16 K48 l1 l2 l3 l4 l5 σ) := by
  unfold fX12_findMiddle_0b53
  refine lqbd fun v60 _ => ?_
  refine lqbd fun v61 _ => ?_
  exact lqite (lqb_fX12_findMiddle_0b89 hK7 hK16 h_σ) (lqb_fX12_findMiddle_0b67 hK7 hK16 hK48 h_σ)
theorem lqb_fX12_findMiddle_0b48 {u w : Int64} {K7 : Int32 → ST → ST} (hK7 : ∀ (q0 : Int32) (τ : ST), LQ u w τ → LQ u w (K7 q0 τ)) {K16 : Int32 → Int32 → Int32 → ST → ST} (hK16 : ∀ (q0 : Int32) (q1 : Int32) (q2 : Int32) (τ : ST), LQ u w τ → LQ u w (K16 q0 q1 q2 τ)) {K48 : Int32 → Int32 → Int32 → Int32 → Int32 → ST → ST} (hK48 : ∀ (q0 : Int32) (q1 : Int32) (q2 : Int32) (q3 : Int32) (q4 : Int32) (τ : ST), LQ u w τ → LQ u w (K48 q0 q1 q2 q3 q4 τ)) {l1 : Int32} {l2 : Int32} {l3 : Int32} {l4 : Int32} {l5 : Int32} {σ : ST} (h_σ : LQ u w σ) : LQ u w (fX12_findMiddle_0b48 K7 K16 K48 l1 l2 l3 l4 l5 σ) := by
  unfold fX12_findMiddle_0b48
  exact lqite (lqb_fX12_findMiddle_0b89 hK7 hK16 h_σ) (lqb_fX12_findMiddle_0b53 hK7 hK16 hK48 h_σ)
theorem lqb_fX12_findMiddle_0l48 {u w : Int64} {K7 : Int32 → ST → ST} (hK7 : ∀ (q0 : Int32) (τ : ST), LQ u w τ → LQ u w (K7 q0 τ)) {K16 : Int32 → Int32 → Int32 → ST → ST} (hK16 : ∀ (q0 : Int32) (q1 : Int32) (q2 : Int32) (τ : ST), LQ u w τ → LQ u w (K16 q0 q1 q2 τ)) : ∀ (fu : Nat) {q0 : Int32} {q1 : Int32} {q2 : Int32} {q3 : Int32} {q4 : Int32} {τ : ST} (h : LQ u w τ), LQ u w (fX12_findMiddle_0l48 K7 K16 fu q0 q1 q2 q3 q4 τ)
  | 0, _, _, _, _, _, _, h => h
  | fu + 1, _, _, _, _, _, _, h => lqb_fX12_findMiddle_0b48 hK7 hK16 (fun _ _ _ _ _ _ q => lqb_fX12_findMiddle_0l48 hK7 hK16 fu q) h
theorem lqb_fX12_findMiddle_0b33 {u w : Int64} {K7 : Int32 → ST → ST} (hK7 : ∀ (q0 : Int32) (τ : ST), LQ u w τ → LQ u w (K7 q0 τ)) {K16 : Int32 → Int32 → Int32 → ST → ST} (hK16 : ∀ (q0 : Int32) (q1 : Int32) (q2 : Int32) (τ : ST), LQ u w τ → LQ u w (K16 q0 q1 q2 τ)) {l1 : Int32} {l2 : Int32} {l3 : Int32} {σ : ST} (h_σ : LQ u w σ) : LQ u w (fX12_findMiddle_0b33 K7 K16 l1 l2 l3 σ) := by
  unfold fX12_findMiddle_0b33
  refine lqbd fun v39 _ => ?_
  refine lqbd fun v41 _ => ?_
  refine lqbd fun v42 _ => ?_
  exact lqb_fX12_findMiddle_0l48 hK7 hK16 _ h_σ
theorem lqb_fX12_findMiddle_0b24 {u w : Int64} {K7 : Int32 → ST → ST} (hK7 : ∀ (q0 : Int32) (τ : ST), LQ u w τ → LQ u w (K7 q0 τ)) {K16 : Int32 → Int32 → Int32 → ST → ST} (hK16 : ∀ (q0 : Int32) (q1 : Int32) (q2 : Int32) (τ : ST), LQ u w τ → LQ u w (K16 q0 q1 q2 τ)) {l1 : Int32} {l2 : Int32} {l3 : Int32} {σ : ST} (h_σ : LQ u w σ) : LQ u w (fX12_findMiddle_0b24 K7 K16 l1 l2 l3 σ) := by
  unfold fX12_findMiddle_0b24
  refine lqbd fun v29 _ => ?_
  exact lqite (lqb_fX12_findMiddle_0b101 hK7 hK16 h_σ) (lqb_fX12_findMiddle_0b33 hK7 hK16 h_σ)
theorem lqb_fX12_findMiddle_0b16 {u w : Int64} {K7 : Int32 → ST → ST} (hK7 : ∀ (q0 : Int32) (τ : ST), LQ u w τ → LQ u w (K7 q0 τ)) {K16 : Int32 → Int32 → Int32 → ST → ST} (hK16 : ∀ (q0 : Int32) (q1 : Int32) (q2 : Int32) (τ : ST), LQ u w τ → LQ u w (K16 q0 q1 q2 τ)) {l1 : Int32} {l2 : Int32} {l3 : Int32} {σ : ST} (h_σ : LQ u w σ) : LQ u w (fX12_findMiddle_0b16 K7 K16 l1 l2 l3 σ) := by
  unfold fX12_findMiddle_0b16
  refine lqbd fun v18 _ => ?_
  exact lqite (lqb_fX12_findMiddle_0b107 hK7 h_σ) (lqb_fX12_findMiddle_0b24 hK7 hK16 h_σ)
theorem lqb_fX12_findMiddle_0l16 {u w : Int64} {K7 : Int32 → ST → ST} (hK7 : ∀ (q0 : Int32) (τ : ST), LQ u w τ → LQ u w (K7 q0 τ)) : ∀ (fu : Nat) {q0 : Int32} {q1 : Int32} {q2 : Int32} {τ : ST} (h : LQ u w τ), LQ u w (fX12_findMiddle_0l16 K7 fu q0 q1 q2 τ)
  | 0, _, _, _, _, h => h
  | fu + 1, _, _, _, _, h => lqb_fX12_findMiddle_0b16 hK7 (fun _ _ _ _ q => lqb_fX12_findMiddle_0l16 hK7 fu q) h
theorem lqb_fX12_findMiddle_0b12 {u w : Int64} {K7 : Int32 → ST → ST} (hK7 : ∀ (q0 : Int32) (τ : ST), LQ u w τ → LQ u w (K7 q0 τ)) {l1 : Int32} {σ : ST} (h_σ : LQ u w σ) : LQ u w (fX12_findMiddle_0b12 K7 l1 σ) := by
  unfold fX12_findMiddle_0b12
  exact lqb_fX12_findMiddle_0l16 hK7 _ h_σ
theorem lqb_fX12_findMiddle_0b7 {u w : Int64} {K7 : Int32 → ST → ST} (hK7 : ∀ (q0 : Int32) (τ : ST), LQ u w τ → LQ u w (K7 q0 τ)) {l1 : Int32} {σ : ST} (h_σ : LQ u w σ) : LQ u w (fX12_findMiddle_0b7 K7 l1 σ) := by
  unfold fX12_findMiddle_0b7
  exact lqite (lqb_fX12_findMiddle_0b189  h_σ) (lqb_fX12_findMiddle_0b12 hK7 h_σ)
theorem lqb_fX12_findMiddle_0l7 {u w : Int64}  : ∀ (fu : Nat) {q0 : Int32} {τ : ST} (h : LQ u w τ), LQ u w (fX12_findMiddle_0l7 fu q0 τ)
  | 0, _, _, h => h
  | fu + 1, _, _, h => lqb_fX12_findMiddle_0b7 (fun _ _ q => lqb_fX12_findMiddle_0l7  fu q) h
theorem lqb_fX12_findMiddle_0b0 {u w : Int64}  {σ : ST} (h_σ : LQ u w σ) : LQ u w (fX12_findMiddle_0b0 σ) := by
  unfold fX12_findMiddle_0b0
  refine lqbd fun s2 e_s2 => ?_
  have h_s2 : LQ u w s2 := by rw [e_s2]; exact h_σ
  exact lqb_fX12_findMiddle_0l7  _ h_s2
theorem lq_fX12_findMiddle_0 {u w : Int64} {σ : ST} (h : LQ u w σ) : LQ u w (fX12_findMiddle_0 σ) := lqb_fX12_findMiddle_0b0 h
theorem lqb_fX12_askRows_0b32 {u w : Int64}  {σ : ST} (h_σ : LQ u w σ) : LQ u w (fX12_askRows_0b32 σ) := by
  unfold fX12_askRows_0b32
  refine lqbd fun s33 e_s33 => ?_
  have h_s33 : LQ u w s33 := by rw [e_s33]; exact lq_fX12_findMiddle_0 h_σ
  exact h_s33
theorem lqb_fX12_askRows_0b10 {u w : Int64} {K2 : Int32 → Int32 → Int32 → ST → ST} (hK2 : ∀ (q0 : Int32) (q1 : Int32) (q2 : Int32) (τ : ST), LQ u w τ → LQ u w (K2 q0 q1 q2 τ)) {l1 : Int32} {l2 : Int32} {l3 : Int32} {σ : ST} (h_σ : LQ u w σ) : LQ u w (fX12_askRows_0b10 K2 l1 l2 l3 σ) := by
  unfold fX12_askRows_0b10
  refine lqbd fun v19 _ => ?_
  refine lqbd fun v21 _ => ?_
  refine lqbd fun v22 _ => ?_
  refine lqbd fun s25 e_s25 => ?_
  have h_s25 : LQ u w s25 := by rw [e_s25]; exact h_σ
  refine lqbd fun v26 _ => ?_
  exact hK2 _ _ _ _ h_s25
theorem lqb_fX12_askRows_0b2 {u w : Int64} {K2 : Int32 → Int32 → Int32 → ST → ST} (hK2 : ∀ (q0 : Int32) (q1 : Int32) (q2 : Int32) (τ : ST), LQ u w τ → LQ u w (K2 q0 q1 q2 τ)) {l1 : Int32} {l2 : Int32} {l3 : Int32} {σ : ST} (h_σ : LQ u w σ) : LQ u w (fX12_askRows_0b2 K2 l1 l2 l3 σ) := by
  unfold fX12_askRows_0b2
  refine lqbd fun v4 _ => ?_
  exact lqite (lqb_fX12_askRows_0b32  h_σ) (lqb_fX12_askRows_0b10 hK2 h_σ)
theorem lqb_fX12_askRows_0l2 {u w : Int64}  : ∀ (fu : Nat) {q0 : Int32} {q1 : Int32} {q2 : Int32} {τ : ST} (h : LQ u w τ), LQ u w (fX12_askRows_0l2 fu q0 q1 q2 τ)
  | 0, _, _, _, _, h => h
  | fu + 1, _, _, _, _, h => lqb_fX12_askRows_0b2 (fun _ _ _ _ q => lqb_fX12_askRows_0l2  fu q) h
theorem lqb_fX12_askRows_0b0 {u w : Int64}  {l1 : Int32} {l2 : Int32} {σ : ST} (h_σ : LQ u w σ) : LQ u w (fX12_askRows_0b0 l1 l2 σ) := by
  unfold fX12_askRows_0b0
  exact lqb_fX12_askRows_0l2  _ h_σ
theorem lq_fX12_askRows_0 {u w : Int64} {p1 : Int32} {p2 : Int32} {σ : ST} (h : LQ u w σ) : LQ u w (fX12_askRows_0 p1 p2 σ) := lqb_fX12_askRows_0b0 h
theorem lqb_fX12_cut_0b276 {u w : Int64}  {σ : ST} (h_σ : LQ u w σ) : LQ u w (fX12_cut_0b276 σ) := by
  unfold fX12_cut_0b276
  exact h_σ
theorem lqb_fX12_cut_0b254 {u w : Int64} {K131 : Int32 → Int32 → ST → ST} (hK131 : ∀ (q0 : Int32) (q1 : Int32) (τ : ST), LQ u w τ → LQ u w (K131 q0 q1 τ)) {l2 : Int32} {l3 : Int32} {σ : ST} (h_σ : LQ u w σ) : LQ u w (fX12_cut_0b254 K131 l2 l3 σ) := by
  unfold fX12_cut_0b254
  refine lqbd fun v256 _ => ?_
  refine lqbd fun v260 _ => ?_
  refine lqbd fun s261 e_s261 => ?_
  have h_s261 : LQ u w s261 := by rw [e_s261]; exact h_σ
  refine lqbd fun v270 _ => ?_
  refine lqbd fun v271 _ => ?_
  exact hK131 _ _ _ h_s261
theorem lqb_fX12_cut_0b237 {u w : Int64} {K131 : Int32 → Int32 → ST → ST} (hK131 : ∀ (q0 : Int32) (q1 : Int32) (τ : ST), LQ u w τ → LQ u w (K131 q0 q1 τ)) {K224 : Int32 → Int32 → Int32 → ST → ST} (hK224 : ∀ (q0 : Int32) (q1 : Int32) (q2 : Int32) (τ : ST), LQ u w τ → LQ u w (K224 q0 q1 q2 τ)) {l2 : Int32} {l3 : Int32} {l4 : Int32} {σ : ST} (h_σ : LQ u w σ) : LQ u w (fX12_cut_0b237 K131 K224 l2 l3 l4 σ) := by
  unfold fX12_cut_0b237
  refine lqbd fun v244 _ => ?_
  refine lqbd fun s247 e_s247 => ?_
  have h_s247 : LQ u w s247 := by rw [e_s247]; exact h_σ
  refine lqbd fun v248 _ => ?_
  exact hK224 _ _ _ _ h_s247
theorem lqb_fX12_cut_0b224 {u w : Int64} {K131 : Int32 → Int32 → ST → ST} (hK131 : ∀ (q0 : Int32) (q1 : Int32) (τ : ST), LQ u w τ → LQ u w (K131 q0 q1 τ)) {K224 : Int32 → Int32 → Int32 → ST → ST} (hK224 : ∀ (q0 : Int32) (q1 : Int32) (q2 : Int32) (τ : ST), LQ u w τ → LQ u w (K224 q0 q1 q2 τ)) {l2 : Int32} {l3 : Int32} {l4 : Int32} {σ : ST} (h_σ : LQ u w σ) : LQ u w (fX12_cut_0b224 K131 K224 l2 l3 l4 σ) := by
  unfold fX12_cut_0b224
  refine lqbd fun v232 _ => ?_
  refine lqbd fun v233 _ => ?_
  exact lqite (lqb_fX12_cut_0b254 hK131 h_σ) (lqb_fX12_cut_0b237 hK131 hK224 h_σ)
theorem lqb_fX12_cut_0l224 {u w : Int64} {K131 : Int32 → Int32 → ST → ST} (hK131 : ∀ (q0 : Int32) (q1 : Int32) (τ : ST), LQ u w τ → LQ u w (K131 q0 q1 τ)) : ∀ (fu : Nat) {q0 : Int32} {q1 : Int32} {q2 : Int32} {τ : ST} (h : LQ u w τ), LQ u w (fX12_cut_0l224 K131 fu q0 q1 q2 τ)
  | 0, _, _, _, _, h => h
  | fu + 1, _, _, _, _, h => lqb_fX12_cut_0b224 hK131 (fun _ _ _ _ q => lqb_fX12_cut_0l224 hK131 fu q) h
theorem lqb_fX12_cut_0b221 {u w : Int64} {K131 : Int32 → Int32 → ST → ST} (hK131 : ∀ (q0 : Int32) (q1 : Int32) (τ : ST), LQ u w τ → LQ u w (K131 q0 q1 τ)) {l2 : Int32} {l3 : Int32} {σ : ST} (h_σ : LQ u w σ) : LQ u w (fX12_cut_0b221 K131 l2 l3 σ) := by
  unfold fX12_cut_0b221
  exact lqb_fX12_cut_0l224 hK131 _ h_σ
theorem lqb_fX12_cut_0b194 {u w : Int64} {K131 : Int32 → Int32 → ST → ST} (hK131 : ∀ (q0 : Int32) (q1 : Int32) (τ : ST), LQ u w τ → LQ u w (K131 q0 q1 τ)) {K188 : Int32 → Int32 → Int32 → ST → ST} (hK188 : ∀ (q0 : Int32) (q1 : Int32) (q2 : Int32) (τ : ST), LQ u w τ → LQ u w (K188 q0 q1 q2 τ)) {l2 : Int32} {l3 : Int32} {l4 : Int32} {σ : ST} (h_σ : LQ u w σ) : LQ u w (fX12_cut_0b194 K131 K188 l2 l3 l4 σ) := by
  unfold fX12_cut_0b194
  refine lqbd fun v200 _ => ?_
  refine lqbd fun v203 _ => ?_
  refine lqbd fun v206 _ => ?_
  refine lqbd fun v213 _ => ?_
  refine lqbd fun s214 e_s214 => ?_
  have h_s214 : LQ u w s214 := by rw [e_s214]; exact h_σ
  refine lqbd fun v215 _ => ?_
  exact hK188 _ _ _ _ h_s214
theorem lqb_fX12_cut_0b188 {u w : Int64} {K131 : Int32 → Int32 → ST → ST} (hK131 : ∀ (q0 : Int32) (q1 : Int32) (τ : ST), LQ u w τ → LQ u w (K131 q0 q1 τ)) {K188 : Int32 → Int32 → Int32 → ST → ST} (hK188 : ∀ (q0 : Int32) (q1 : Int32) (q2 : Int32) (τ : ST), LQ u w τ → LQ u w (K188 q0 q1 q2 τ)) {l2 : Int32} {l3 : Int32} {l4 : Int32} {σ : ST} (h_σ : LQ u w σ) : LQ u w (fX12_cut_0b188 K131 K188 l2 l3 l4 σ) := by
  unfold fX12_cut_0b188
  exact lqite (lqb_fX12_cut_0b221 hK131 h_σ) (lqb_fX12_cut_0b194 hK131 hK188 h_σ)
theorem lqb_fX12_cut_0l188 {u w : Int64} {K131 : Int32 → Int32 → ST → ST} (hK131 : ∀ (q0 : Int32) (q1 : Int32) (τ : ST), LQ u w τ → LQ u w (K131 q0 q1 τ)) : ∀ (fu : Nat) {q0 : Int32} {q1 : Int32} {q2 : Int32} {τ : ST} (h : LQ u w τ), LQ u w (fX12_cut_0l188 K131 fu q0 q1 q2 τ)
  | 0, _, _, _, _, h => h
  | fu + 1, _, _, _, _, h => lqb_fX12_cut_0b188 hK131 (fun _ _ _ _ q => lqb_fX12_cut_0l188 hK131 fu q) h
theorem lqb_fX12_cut_0b136 {u w : Int64} {K131 : Int32 → Int32 → ST → ST} (hK131 : ∀ (q0 : Int32) (q1 : Int32) (τ : ST), LQ u w τ → LQ u w (K131 q0 q1 τ)) {l2 : Int32} {l3 : Int32} {σ : ST} (h_σ : LQ u w σ) : LQ u w (fX12_cut_0b136 K131 l2 l3 σ) := by
  unfold fX12_cut_0b136
  refine lqbd fun v141 _ => ?_
  refine lqbd fun s145 e_s145 => ?_
  have h_s145 : LQ u w s145 := by rw [e_s145]; exact h_σ
  refine lqbd fun v151 _ => ?_
  refine lqbd fun v159 _ => ?_
  refine lqbd fun s160 e_s160 => ?_
  have h_s160 : LQ u w s160 := by rw [e_s160]; exact h_s145
  refine lqbd fun v168 _ => ?_
  refine lqbd fun s169 e_s169 => ?_
  have h_s169 : LQ u w s169 := by rw [e_s169]; exact lq_fX12_askRows_0 h_s160
  refine lqbd fun v177 _ => ?_
  refine lqbd fun v181 _ => ?_
  refine lqbd fun s184 e_s184 => ?_
  have h_s184 : LQ u w s184 := by rw [e_s184]; exact h_s169
  exact lqb_fX12_cut_0l188 hK131 _ h_s184
theorem lqb_fX12_cut_0b131 {u w : Int64} {K131 : Int32 → Int32 → ST → ST} (hK131 : ∀ (q0 : Int32) (q1 : Int32) (τ : ST), LQ u w τ → LQ u w (K131 q0 q1 τ)) {l2 : Int32} {l3 : Int32} {σ : ST} (h_σ : LQ u w σ) : LQ u w (fX12_cut_0b131 K131 l2 l3 σ) := by
  unfold fX12_cut_0b131
  exact lqite (lqb_fX12_cut_0b276  h_σ) (lqb_fX12_cut_0b136 hK131 h_σ)
theorem lqb_fX12_cut_0l131 {u w : Int64}  : ∀ (fu : Nat) {q0 : Int32} {q1 : Int32} {τ : ST} (h : LQ u w τ), LQ u w (fX12_cut_0l131 fu q0 q1 τ)
  | 0, _, _, _, h => h
  | fu + 1, _, _, _, h => lqb_fX12_cut_0b131 (fun _ _ _ q => lqb_fX12_cut_0l131  fu q) h
theorem lqb_fX12_cut_0b114 {u w : Int64}  {l1 : Int32} {l2 : Int32} {σ : ST} (h_σ : LQ u w σ) : LQ u w (fX12_cut_0b114 l1 l2 σ) := by
  unfold fX12_cut_0b114
  refine lqbd fun v116 _ => ?_
  refine lqbd fun v124 _ => ?_
  refine lqbd fun v125 _ => ?_
  refine lqbd fun s126 e_s126 => ?_
  have h_s126 : LQ u w s126 := by rw [e_s126]; exact h_σ
  exact lqb_fX12_cut_0l131  _ h_s126
theorem lqb_fX12_cut_0b108 {u w : Int64} {K11 : Int32 → Int32 → Int32 → ST → ST} (hK11 : ∀ (q0 : Int32) (q1 : Int32) (q2 : Int32) (τ : ST), LQ u w τ → LQ u w (K11 q0 q1 q2 τ)) {l1 : Int32} {l2 : Int32} {l3 : Int32} {σ : ST} (h_σ : LQ u w σ) : LQ u w (fX12_cut_0b108 K11 l1 l2 l3 σ) := by
  unfold fX12_cut_0b108
  refine lqbd fun v108 _ => ?_
  exact hK11 _ _ _ _ h_σ
theorem lqb_fX12_cut_0b102 {u w : Int64} {K11 : Int32 → Int32 → Int32 → ST → ST} (hK11 : ∀ (q0 : Int32) (q1 : Int32) (q2 : Int32) (τ : ST), LQ u w τ → LQ u w (K11 q0 q1 q2 τ)) {K26 : Int32 → Int32 → Int32 → Int32 → ST → ST} (hK26 : ∀ (q0 : Int32) (q1 : Int32) (q2 : Int32) (q3 : Int32) (τ : ST), LQ u w τ → LQ u w (K26 q0 q1 q2 q3 τ)) {l1 : Int32} {l2 : Int32} {l3 : Int32} {l4 : Int32} {σ : ST} (h_σ : LQ u w σ) : LQ u w (fX12_cut_0b102 K11 K26 l1 l2 l3 l4 σ) := by
  unfold fX12_cut_0b102
  refine lqbd fun v102 _ => ?_
  exact hK26 _ _ _ _ _ h_σ
theorem lqb_fX12_cut_0b86 {u w : Int64} {K11 : Int32 → Int32 → Int32 → ST → ST} (hK11 : ∀ (q0 : Int32) (q1 : Int32) (q2 : Int32) (τ : ST), LQ u w τ → LQ u w (K11 q0 q1 q2 τ)) {K26 : Int32 → Int32 → Int32 → Int32 → ST → ST} (hK26 : ∀ (q0 : Int32) (q1 : Int32) (q2 : Int32) (q3 : Int32) (τ : ST), LQ u w τ → LQ u w (K26 q0 q1 q2 q3 τ)) {l1 : Int32} {l2 : Int32} {l3 : Int32} {l4 : Int32} {l5 : Int32} {σ : ST} (h_σ : LQ u w σ) : LQ u w (fX12_cut_0b86 K11 K26 l1 l2 l3 l4 l5 σ) := by
  unfold fX12_cut_0b86
  refine lqbd fun s93 e_s93 => ?_
  have h_s93 : LQ u w s93 := by rw [e_s93]; exact h_σ
  refine lqbd fun s101 e_s101 => ?_
  have h_s101 : LQ u w s101 := by rw [e_s101]; exact h_s93
  exact lqb_fX12_cut_0b102 hK11 hK26 h_s101
theorem lqb_fX12_cut_0b75 {u w : Int64} {K11 : Int32 → Int32 → Int32 → ST → ST} (hK11 : ∀ (q0 : Int32) (q1 : Int32) (q2 : Int32) (τ : ST), LQ u w τ → LQ u w (K11 q0 q1 q2 τ)) {K26 : Int32 → Int32 → Int32 → Int32 → ST → ST} (hK26 : ∀ (q0 : Int32) (q1 : Int32) (q2 : Int32) (q3 : Int32) (τ : ST), LQ u w τ → LQ u w (K26 q0 q1 q2 q3 τ)) {l1 : Int32} {l2 : Int32} {l3 : Int32} {l4 : Int32} {l5 : Int32} {σ : ST} (h_σ : LQ u w σ) : LQ u w (fX12_cut_0b75 K11 K26 l1 l2 l3 l4 l5 σ) := by
  unfold fX12_cut_0b75
  refine lqbd fun v82 _ => ?_
  exact lqite (lqb_fX12_cut_0b102 hK11 hK26 h_σ) (lqb_fX12_cut_0b86 hK11 hK26 h_σ)
theorem lqb_fX12_cut_0b36 {u w : Int64} {K11 : Int32 → Int32 → Int32 → ST → ST} (hK11 : ∀ (q0 : Int32) (q1 : Int32) (q2 : Int32) (τ : ST), LQ u w τ → LQ u w (K11 q0 q1 q2 τ)) {K26 : Int32 → Int32 → Int32 → Int32 → ST → ST} (hK26 : ∀ (q0 : Int32) (q1 : Int32) (q2 : Int32) (q3 : Int32) (τ : ST), LQ u w τ → LQ u w (K26 q0 q1 q2 q3 τ)) {l1 : Int32} {l2 : Int32} {l3 : Int32} {l4 : Int32} {σ : ST} (h_σ : LQ u w σ) : LQ u w (fX12_cut_0b36 K11 K26 l1 l2 l3 l4 σ) := by
  unfold fX12_cut_0b36
  refine lqbd fun s40 e_s40 => ?_
  have h_s40 : LQ u w s40 := by rw [e_s40]; exact lq_fX12_askRows_0 h_σ
  refine lqbd fun v44 _ => ?_
  refine lqbd fun v52 _ => ?_
  refine lqbd fun v53 _ => ?_
  refine lqbd fun v61 _ => ?_
  refine lqbd fun v62 _ => ?_
  refine lqbd fun v63 _ => ?_
  refine lqbd fun v71 _ => ?_
  exact lqite (lqb_fX12_cut_0b86 hK11 hK26 h_s40) (lqb_fX12_cut_0b75 hK11 hK26 h_s40)
theorem lqb_fX12_cut_0b26 {u w : Int64} {K11 : Int32 → Int32 → Int32 → ST → ST} (hK11 : ∀ (q0 : Int32) (q1 : Int32) (q2 : Int32) (τ : ST), LQ u w τ → LQ u w (K11 q0 q1 q2 τ)) {K26 : Int32 → Int32 → Int32 → Int32 → ST → ST} (hK26 : ∀ (q0 : Int32) (q1 : Int32) (q2 : Int32) (q3 : Int32) (τ : ST), LQ u w τ → LQ u w (K26 q0 q1 q2 q3 τ)) {l1 : Int32} {l2 : Int32} {l3 : Int32} {l4 : Int32} {σ : ST} (h_σ : LQ u w σ) : LQ u w (fX12_cut_0b26 K11 K26 l1 l2 l3 l4 σ) := by
  unfold fX12_cut_0b26
  refine lqbd fun v29 _ => ?_
  refine lqbd fun v32 _ => ?_
  exact lqite (lqb_fX12_cut_0b108 hK11 h_σ) (lqb_fX12_cut_0b36 hK11 hK26 h_σ)
theorem lqb_fX12_cut_0l26 {u w : Int64} {K11 : Int32 → Int32 → Int32 → ST → ST} (hK11 : ∀ (q0 : Int32) (q1 : Int32) (q2 : Int32) (τ : ST), LQ u w τ → LQ u w (K11 q0 q1 q2 τ)) : ∀ (fu : Nat) {q0 : Int32} {q1 : Int32} {q2 : Int32} {q3 : Int32} {τ : ST} (h : LQ u w τ), LQ u w (fX12_cut_0l26 K11 fu q0 q1 q2 q3 τ)
  | 0, _, _, _, _, _, h => h
  | fu + 1, _, _, _, _, _, h => lqb_fX12_cut_0b26 hK11 (fun _ _ _ _ _ q => lqb_fX12_cut_0l26 hK11 fu q) h
theorem lqb_fX12_cut_0b16 {u w : Int64} {K11 : Int32 → Int32 → Int32 → ST → ST} (hK11 : ∀ (q0 : Int32) (q1 : Int32) (q2 : Int32) (τ : ST), LQ u w τ → LQ u w (K11 q0 q1 q2 τ)) {l1 : Int32} {l2 : Int32} {l3 : Int32} {σ : ST} (h_σ : LQ u w σ) : LQ u w (fX12_cut_0b16 K11 l1 l2 l3 σ) := by
  unfold fX12_cut_0b16
  refine lqbd fun s22 e_s22 => ?_
  have h_s22 : LQ u w s22 := by rw [e_s22]; exact h_σ
  exact lqb_fX12_cut_0l26 hK11 _ h_s22
theorem lqb_fX12_cut_0b11 {u w : Int64} {K11 : Int32 → Int32 → Int32 → ST → ST} (hK11 : ∀ (q0 : Int32) (q1 : Int32) (q2 : Int32) (τ : ST), LQ u w τ → LQ u w (K11 q0 q1 q2 τ)) {l1 : Int32} {l2 : Int32} {l3 : Int32} {σ : ST} (h_σ : LQ u w σ) : LQ u w (fX12_cut_0b11 K11 l1 l2 l3 σ) := by
  unfold fX12_cut_0b11
  exact lqite (lqb_fX12_cut_0b114  h_σ) (lqb_fX12_cut_0b16 hK11 h_σ)
theorem lqb_fX12_cut_0l11 {u w : Int64}  : ∀ (fu : Nat) {q0 : Int32} {q1 : Int32} {q2 : Int32} {τ : ST} (h : LQ u w τ), LQ u w (fX12_cut_0l11 fu q0 q1 q2 τ)
  | 0, _, _, _, _, h => h
  | fu + 1, _, _, _, _, h => lqb_fX12_cut_0b11 (fun _ _ _ _ q => lqb_fX12_cut_0l11  fu q) h
theorem lqb_fX12_cut_0b0 {u w : Int64}  {l1 : Int32} {l2 : Int32} {σ : ST} (h_σ : LQ u w σ) : LQ u w (fX12_cut_0b0 l1 l2 σ) := by
  unfold fX12_cut_0b0
  refine lqbd fun v6 _ => ?_
  refine lqbd fun s8 e_s8 => ?_
  have h_s8 : LQ u w s8 := by rw [e_s8]; exact h_σ
  exact lqb_fX12_cut_0l11  _ h_s8
theorem lq_fX12_cut_0 {u w : Int64} {p1 : Int32} {p2 : Int32} {σ : ST} (h : LQ u w σ) : LQ u w (fX12_cut_0 p1 p2 σ) := lqb_fX12_cut_0b0 h
theorem lqb_fX12_findPieces_0b96 {u w : Int64}  {σ : ST} (h_σ : LQ u w σ) : LQ u w (fX12_findPieces_0b96 σ) := by
  unfold fX12_findPieces_0b96
  exact h_σ
theorem lqb_fX12_findPieces_0b90 {u w : Int64} {K17 : Int32 → ST → ST} (hK17 : ∀ (q0 : Int32) (τ : ST), LQ u w τ → LQ u w (K17 q0 τ)) {l1 : Int32} {σ : ST} (h_σ : LQ u w σ) : LQ u w (fX12_findPieces_0b90 K17 l1 σ) := by
  unfold fX12_findPieces_0b90
  refine lqbd fun v90 _ => ?_
  exact hK17 _ _ h_σ
theorem lqb_fX12_findPieces_0b82 {u w : Int64} {K17 : Int32 → ST → ST} (hK17 : ∀ (q0 : Int32) (τ : ST), LQ u w τ → LQ u w (K17 q0 τ)) {l1 : Int32} {σ : ST} (h_σ : LQ u w σ) : LQ u w (fX12_findPieces_0b82 K17 l1 σ) := by
  unfold fX12_findPieces_0b82
  refine lqbd fun s89 e_s89 => ?_
  have h_s89 : LQ u w s89 := by rw [e_s89]; exact h_σ
  exact lqb_fX12_findPieces_0b90 hK17 h_s89
theorem lqb_fX12_findPieces_0b61 {u w : Int64} {K17 : Int32 → ST → ST} (hK17 : ∀ (q0 : Int32) (τ : ST), LQ u w τ → LQ u w (K17 q0 τ)) {l1 : Int32} {l2 : Int32} {σ : ST} (h_σ : LQ u w σ) : LQ u w (fX12_findPieces_0b61 K17 l1 l2 σ) := by
  unfold fX12_findPieces_0b61
  refine lqbd fun v63 _ => ?_
  refine lqbd fun v67 _ => ?_
  refine lqbd fun s68 e_s68 => ?_
  have h_s68 : LQ u w s68 := by rw [e_s68]; exact h_σ
  refine lqbd fun s74 e_s74 => ?_
  have h_s74 : LQ u w s74 := by rw [e_s74]; exact lq_fX12_cut_0 h_s68
  exact lqb_fX12_findPieces_0b90 hK17 h_s74
theorem lqb_fX12_findPieces_0b55 {u w : Int64} {K17 : Int32 → ST → ST} (hK17 : ∀ (q0 : Int32) (τ : ST), LQ u w τ → LQ u w (K17 q0 τ)) {K35 : Int32 → Int32 → ST → ST} (hK35 : ∀ (q0 : Int32) (q1 : Int32) (τ : ST), LQ u w τ → LQ u w (K35 q0 q1 τ)) {l1 : Int32} {l2 : Int32} {σ : ST} (h_σ : LQ u w σ) : LQ u w (fX12_findPieces_0b55 K17 K35 l1 l2 σ) := by
  unfold fX12_findPieces_0b55
  refine lqbd fun v55 _ => ?_
  exact hK35 _ _ _ h_σ
theorem lqb_fX12_findPieces_0b45 {u w : Int64} {K17 : Int32 → ST → ST} (hK17 : ∀ (q0 : Int32) (τ : ST), LQ u w τ → LQ u w (K17 q0 τ)) {K35 : Int32 → Int32 → ST → ST} (hK35 : ∀ (q0 : Int32) (q1 : Int32) (τ : ST), LQ u w τ → LQ u w (K35 q0 q1 τ)) {l1 : Int32} {l2 : Int32} {σ : ST} (h_σ : LQ u w σ) : LQ u w (fX12_findPieces_0b45 K17 K35 l1 l2 σ) := by
  unfold fX12_findPieces_0b45
  refine lqbd fun v48 _ => ?_
  refine lqbd fun v49 _ => ?_
  exact lqite (lqb_fX12_findPieces_0b61 hK17 h_σ) (lqb_fX12_findPieces_0b55 hK17 hK35 h_σ)
theorem lqb_fX12_findPieces_0b35 {u w : Int64} {K17 : Int32 → ST → ST} (hK17 : ∀ (q0 : Int32) (τ : ST), LQ u w τ → LQ u w (K17 q0 τ)) {K35 : Int32 → Int32 → ST → ST} (hK35 : ∀ (q0 : Int32) (q1 : Int32) (τ : ST), LQ u w τ → LQ u w (K35 q0 q1 τ)) {l1 : Int32} {l2 : Int32} {σ : ST} (h_σ : LQ u w σ) : LQ u w (fX12_findPieces_0b35 K17 K35 l1 l2 σ) := by
  unfold fX12_findPieces_0b35
  refine lqbd fun v37 _ => ?_
  refine lqbd fun v39 _ => ?_
  exact lqite (lqb_fX12_findPieces_0b61 hK17 h_σ) (lqb_fX12_findPieces_0b45 hK17 hK35 h_σ)
theorem lqb_fX12_findPieces_0l35 {u w : Int64} {K17 : Int32 → ST → ST} (hK17 : ∀ (q0 : Int32) (τ : ST), LQ u w τ → LQ u w (K17 q0 τ)) : ∀ (fu : Nat) {q0 : Int32} {q1 : Int32} {τ : ST} (h : LQ u w τ), LQ u w (fX12_findPieces_0l35 K17 fu q0 q1 τ)
  | 0, _, _, _, h => h
  | fu + 1, _, _, _, h => lqb_fX12_findPieces_0b35 hK17 (fun _ _ _ q => lqb_fX12_findPieces_0l35 hK17 fu q) h
theorem lqb_fX12_findPieces_0b33 {u w : Int64} {K17 : Int32 → ST → ST} (hK17 : ∀ (q0 : Int32) (τ : ST), LQ u w τ → LQ u w (K17 q0 τ)) {l1 : Int32} {σ : ST} (h_σ : LQ u w σ) : LQ u w (fX12_findPieces_0b33 K17 l1 σ) := by
  unfold fX12_findPieces_0b33
  exact lqb_fX12_findPieces_0l35 hK17 _ h_σ
theorem lqb_fX12_findPieces_0b25 {u w : Int64} {K17 : Int32 → ST → ST} (hK17 : ∀ (q0 : Int32) (τ : ST), LQ u w τ → LQ u w (K17 q0 τ)) {l1 : Int32} {σ : ST} (h_σ : LQ u w σ) : LQ u w (fX12_findPieces_0b25 K17 l1 σ) := by
  unfold fX12_findPieces_0b25
  refine lqbd fun v27 _ => ?_
  exact lqite (lqb_fX12_findPieces_0b82 hK17 h_σ) (lqb_fX12_findPieces_0b33 hK17 h_σ)
theorem lqb_fX12_findPieces_0b17 {u w : Int64} {K17 : Int32 → ST → ST} (hK17 : ∀ (q0 : Int32) (τ : ST), LQ u w τ → LQ u w (K17 q0 τ)) {l1 : Int32} {σ : ST} (h_σ : LQ u w σ) : LQ u w (fX12_findPieces_0b17 K17 l1 σ) := by
  unfold fX12_findPieces_0b17
  refine lqbd fun v19 _ => ?_
  exact lqite (lqb_fX12_findPieces_0b96  h_σ) (lqb_fX12_findPieces_0b25 hK17 h_σ)
theorem lqb_fX12_findPieces_0l17 {u w : Int64}  : ∀ (fu : Nat) {q0 : Int32} {τ : ST} (h : LQ u w τ), LQ u w (fX12_findPieces_0l17 fu q0 τ)
  | 0, _, _, h => h
  | fu + 1, _, _, h => lqb_fX12_findPieces_0b17 (fun _ _ q => lqb_fX12_findPieces_0l17  fu q) h
theorem lqb_fX12_findPieces_0b0 {u w : Int64}  {σ : ST} (h_σ : LQ u w σ) : LQ u w (fX12_findPieces_0b0 σ) := by
  unfold fX12_findPieces_0b0
  refine lqbd fun s2 e_s2 => ?_
  have h_s2 : LQ u w s2 := by rw [e_s2]; exact h_σ
  refine lqbd fun s7 e_s7 => ?_
  have h_s7 : LQ u w s7 := by rw [e_s7]; exact h_s2
  refine lqbd fun s12 e_s12 => ?_
  have h_s12 : LQ u w s12 := by rw [e_s12]; exact h_s7
  exact lqb_fX12_findPieces_0l17  _ h_s12
theorem lq_fX12_findPieces_0 {u w : Int64} {σ : ST} (h : LQ u w σ) : LQ u w (fX12_findPieces_0 σ) := lqb_fX12_findPieces_0b0 h
theorem lqb_fX12_pieces_0b85 {u w : Int64}  {t0 : Int32} {σ : ST} (h_σ : LQ u w σ) : LQP u w (fX12_pieces_0b85 t0 σ) := by
  unfold fX12_pieces_0b85
  exact h_σ
theorem lqb_fX12_pieces_0b84 {u w : Int64}  {l2 : Int32} {σ : ST} (h_σ : LQ u w σ) : LQP u w (fX12_pieces_0b84 l2 σ) := by
  unfold fX12_pieces_0b84
  exact lqb_fX12_pieces_0b85  h_σ
theorem lqb_fX12_pieces_0b77 {u w : Int64}  {σ : ST} (h_σ : LQ u w σ) : LQP u w (fX12_pieces_0b77 σ) := by
  unfold fX12_pieces_0b77
  refine lqbd2 fun v78 _ => ?_
  exact lqb_fX12_pieces_0b85  h_σ
theorem lqb_fX12_pieces_0b72 {u w : Int64}  {l1 : Int32} {l2 : Int32} {σ : ST} (h_σ : LQ u w σ) : LQP u w (fX12_pieces_0b72 l1 l2 σ) := by
  unfold fX12_pieces_0b72
  exact lqite2 (lqb_fX12_pieces_0b77  h_σ) (lqb_fX12_pieces_0b84  h_σ)
theorem lqb_fX12_pieces_0b65 {u w : Int64}  {σ : ST} (h_σ : LQ u w σ) : LQP u w (fX12_pieces_0b65 σ) := by
  unfold fX12_pieces_0b65
  refine lqbd2 fun v66 _ => ?_
  exact lqb_fX12_pieces_0b85  h_σ
theorem lqb_fX12_pieces_0b60 {u w : Int64}  {l1 : Int32} {l2 : Int32} {σ : ST} (h_σ : LQ u w σ) : LQP u w (fX12_pieces_0b60 l1 l2 σ) := by
  unfold fX12_pieces_0b60
  exact lqite2 (lqb_fX12_pieces_0b65  h_σ) (lqb_fX12_pieces_0b72  h_σ)
theorem lqb_fX12_pieces_0b53 {u w : Int64}  {σ : ST} (h_σ : LQ u w σ) : LQP u w (fX12_pieces_0b53 σ) := by
  unfold fX12_pieces_0b53
  refine lqbd2 fun v54 _ => ?_
  exact lqb_fX12_pieces_0b85  h_σ
theorem lqb_fX12_pieces_0b49 {u w : Int64}  {l1 : Int32} {l2 : Int32} {σ : ST} (h_σ : LQ u w σ) : LQP u w (fX12_pieces_0b49 l1 l2 σ) := by
  unfold fX12_pieces_0b49
  exact lqite2 (lqb_fX12_pieces_0b53  h_σ) (lqb_fX12_pieces_0b60  h_σ)
theorem lqb_fX12_pieces_0b41 {u w : Int64} {K19 : Int32 → Int32 → Int32 → ST → (Int32 × ST)} (hK19 : ∀ (q0 : Int32) (q1 : Int32) (q2 : Int32) (τ : ST), LQ u w τ → LQP u w (K19 q0 q1 q2 τ)) {l1 : Int32} {l3 : Int32} {t0 : Int32} {t1 : Int32} {σ : ST} (h_σ : LQ u w σ) : LQP u w (fX12_pieces_0b41 K19 l1 l3 t0 t1 σ) := by
  unfold fX12_pieces_0b41
  refine lqbd2 fun v41 _ => ?_
  refine lqbd2 fun v43 _ => ?_
  exact hK19 _ _ _ _ h_σ
theorem lqb_fX12_pieces_0b40 {u w : Int64} {K19 : Int32 → Int32 → Int32 → ST → (Int32 × ST)} (hK19 : ∀ (q0 : Int32) (q1 : Int32) (q2 : Int32) (τ : ST), LQ u w τ → LQP u w (K19 q0 q1 q2 τ)) {l1 : Int32} {l3 : Int32} {t0 : Int32} {σ : ST} (h_σ : LQ u w σ) : LQP u w (fX12_pieces_0b40 K19 l1 l3 t0 σ) := by
  unfold fX12_pieces_0b40
  exact lqb_fX12_pieces_0b41 hK19 h_σ
theorem lqb_fX12_pieces_0b36 {u w : Int64} {K19 : Int32 → Int32 → Int32 → ST → (Int32 × ST)} (hK19 : ∀ (q0 : Int32) (q1 : Int32) (q2 : Int32) (τ : ST), LQ u w τ → LQP u w (K19 q0 q1 q2 τ)) {l1 : Int32} {l3 : Int32} {t0 : Int32} {σ : ST} (h_σ : LQ u w σ) : LQP u w (fX12_pieces_0b36 K19 l1 l3 t0 σ) := by
  unfold fX12_pieces_0b36
  exact lqb_fX12_pieces_0b41 hK19 h_σ
theorem lqb_fX12_pieces_0b27 {u w : Int64} {K19 : Int32 → Int32 → Int32 → ST → (Int32 × ST)} (hK19 : ∀ (q0 : Int32) (q1 : Int32) (q2 : Int32) (τ : ST), LQ u w τ → LQP u w (K19 q0 q1 q2 τ)) {l1 : Int32} {l2 : Int32} {l3 : Int32} {σ : ST} (h_σ : LQ u w σ) : LQP u w (fX12_pieces_0b27 K19 l1 l2 l3 σ) := by
  unfold fX12_pieces_0b27
  refine lqbd2 fun v30 _ => ?_
  exact lqite2 (lqb_fX12_pieces_0b40 hK19 h_σ) (lqb_fX12_pieces_0b36 hK19 h_σ)
theorem lqb_fX12_pieces_0b19 {u w : Int64} {K19 : Int32 → Int32 → Int32 → ST → (Int32 × ST)} (hK19 : ∀ (q0 : Int32) (q1 : Int32) (q2 : Int32) (τ : ST), LQ u w τ → LQP u w (K19 q0 q1 q2 τ)) {l1 : Int32} {l2 : Int32} {l3 : Int32} {σ : ST} (h_σ : LQ u w σ) : LQP u w (fX12_pieces_0b19 K19 l1 l2 l3 σ) := by
  unfold fX12_pieces_0b19
  refine lqbd2 fun v21 _ => ?_
  exact lqite2 (lqb_fX12_pieces_0b49  h_σ) (lqb_fX12_pieces_0b27 hK19 h_σ)
theorem lqb_fX12_pieces_0l19 {u w : Int64}  : ∀ (fu : Nat) {q0 : Int32} {q1 : Int32} {q2 : Int32} {τ : ST} (h : LQ u w τ), LQP u w (fX12_pieces_0l19 fu q0 q1 q2 τ)
  | 0, _, _, _, _, h => h
  | fu + 1, _, _, _, _, h => lqb_fX12_pieces_0b19 (fun _ _ _ _ q => lqb_fX12_pieces_0l19  fu q) h
theorem lqb_fX12_pieces_0b11 {u w : Int64}  {l1 : Int32} {σ : ST} (h_σ : LQ u w σ) : LQP u w (fX12_pieces_0b11 l1 σ) := by
  unfold fX12_pieces_0b11
  refine lqbd2 fun s12 e_s12 => ?_
  have h_s12 : LQ u w s12 := by rw [e_s12]; exact lq_fX12_findPieces_0 h_σ
  exact lqb_fX12_pieces_0l19  _ h_s12
theorem lqb_fX12_pieces_0b9 {u w : Int64}  {σ : ST} (h_σ : LQ u w σ) : LQP u w (fX12_pieces_0b9 σ) := by
  unfold fX12_pieces_0b9
  exact h_σ
theorem lqb_fX12_pieces_0b0 {u w : Int64}  {l1 : Int32} {σ : ST} (h_σ : LQ u w σ) : LQP u w (fX12_pieces_0b0 l1 σ) := by
  unfold fX12_pieces_0b0
  refine lqbd2 fun v3 _ => ?_
  exact lqite2 (lqb_fX12_pieces_0b9  h_σ) (lqb_fX12_pieces_0b11  h_σ)
theorem lq_fX12_pieces_0 {u w : Int64} {p1 : Int32} {σ : ST} (h : LQ u w σ) : LQ u w (fX12_pieces_0 p1 σ).2 := lqb_fX12_pieces_0b0 h
theorem lqb_fX12_piece_0b22 {u w : Int64}  {σ : ST} (h_σ : LQ u w σ) : LQP u w (fX12_piece_0b22 σ) := by
  unfold fX12_piece_0b22
  exact h_σ
theorem lqb_fX12_piece_0b77 {u w : Int64}  {t0 : Int32} {σ : ST} (h_σ : LQ u w σ) : LQP u w (fX12_piece_0b77 t0 σ) := by
  unfold fX12_piece_0b77
  exact h_σ
theorem lqb_fX12_piece_0b65 {u w : Int64}  {l1 : Int32} {l2 : Int32} {σ : ST} (h_σ : LQ u w σ) : LQP u w (fX12_piece_0b65 l1 l2 σ) := by
  unfold fX12_piece_0b65
  refine lqbd2 fun v71 _ => ?_
  refine lqbd2 fun v73 _ => ?_
  refine lqbd2 fun v75 _ => ?_
  refine lqbd2 fun v76 _ => ?_
  exact lqb_fX12_piece_0b77  h_σ
theorem lqb_fX12_piece_0b56 {u w : Int64}  {l1 : Int32} {σ : ST} (h_σ : LQ u w σ) : LQP u w (fX12_piece_0b56 l1 σ) := by
  unfold fX12_piece_0b56
  refine lqbd2 fun v61 _ => ?_
  exact lqb_fX12_piece_0b77  h_σ
theorem lqb_fX12_piece_0b51 {u w : Int64}  {l1 : Int32} {l2 : Int32} {σ : ST} (h_σ : LQ u w σ) : LQP u w (fX12_piece_0b51 l1 l2 σ) := by
  unfold fX12_piece_0b51
  exact lqite2 (lqb_fX12_piece_0b56  h_σ) (lqb_fX12_piece_0b65  h_σ)
theorem lqb_fX12_piece_0b42 {u w : Int64}  {l1 : Int32} {σ : ST} (h_σ : LQ u w σ) : LQP u w (fX12_piece_0b42 l1 σ) := by
  unfold fX12_piece_0b42
  refine lqbd2 fun v47 _ => ?_
  exact lqb_fX12_piece_0b77  h_σ
theorem lqb_fX12_piece_0b37 {u w : Int64}  {l1 : Int32} {l2 : Int32} {σ : ST} (h_σ : LQ u w σ) : LQP u w (fX12_piece_0b37 l1 l2 σ) := by
  unfold fX12_piece_0b37
  exact lqite2 (lqb_fX12_piece_0b42  h_σ) (lqb_fX12_piece_0b51  h_σ)
theorem lqb_fX12_piece_0b28 {u w : Int64}  {l1 : Int32} {σ : ST} (h_σ : LQ u w σ) : LQP u w (fX12_piece_0b28 l1 σ) := by
  unfold fX12_piece_0b28
  refine lqbd2 fun v33 _ => ?_
  exact lqb_fX12_piece_0b77  h_σ
theorem lqb_fX12_piece_0b24 {u w : Int64}  {l1 : Int32} {l2 : Int32} {σ : ST} (h_σ : LQ u w σ) : LQP u w (fX12_piece_0b24 l1 l2 σ) := by
  unfold fX12_piece_0b24
  exact lqite2 (lqb_fX12_piece_0b28  h_σ) (lqb_fX12_piece_0b37  h_σ)
theorem lqb_fX12_piece_0b12 {u w : Int64}  {l1 : Int32} {l2 : Int32} {σ : ST} (h_σ : LQ u w σ) : LQP u w (fX12_piece_0b12 l1 l2 σ) := by
  unfold fX12_piece_0b12
  refine lqbd2 fun v16 _ => ?_
  exact lqite2 (lqb_fX12_piece_0b22  h_σ) (lqb_fX12_piece_0b24  h_σ)
theorem lqb_fX12_piece_0b0 {u w : Int64}  {l1 : Int32} {l2 : Int32} {σ : ST} (h_σ : LQ u w σ) : LQP u w (fX12_piece_0b0 l1 l2 σ) := by
  unfold fX12_piece_0b0
  refine lqbd2 fun s1 e_s1 => ?_
  have h_s1 : LQ u w s1 := by rw [e_s1]; exact lq_fX12_findPieces_0 h_σ
  refine lqbd2 fun v6 _ => ?_
  exact lqite2 (lqb_fX12_piece_0b22  h_s1) (lqb_fX12_piece_0b12  h_s1)
theorem lq_fX12_piece_0 {u w : Int64} {p1 : Int32} {p2 : Int32} {σ : ST} (h : LQ u w σ) : LQ u w (fX12_piece_0 p1 p2 σ).2 := lqb_fX12_piece_0b0 h
theorem lqb_fX12_of_0b10 {u w : Int64}  {l1 : Int32} {σ : ST} (h_σ : LQ u w σ) : LQP u w (fX12_of_0b10 l1 σ) := by
  unfold fX12_of_0b10
  refine lqbd2 fun s11 e_s11 => ?_
  have h_s11 : LQ u w s11 := by rw [e_s11]; exact lq_fX12_findPieces_0 h_σ
  refine lqbd2 fun v19 _ => ?_
  exact h_s11
theorem lqb_fX12_of_0b8 {u w : Int64}  {σ : ST} (h_σ : LQ u w σ) : LQP u w (fX12_of_0b8 σ) := by
  unfold fX12_of_0b8
  exact h_σ
theorem lqb_fX12_of_0b0 {u w : Int64}  {l1 : Int32} {σ : ST} (h_σ : LQ u w σ) : LQP u w (fX12_of_0b0 l1 σ) := by
  unfold fX12_of_0b0
  refine lqbd2 fun v2 _ => ?_
  exact lqite2 (lqb_fX12_of_0b8  h_σ) (lqb_fX12_of_0b10  h_σ)
theorem lq_fX12_of_0 {u w : Int64} {p1 : Int32} {σ : ST} (h : LQ u w σ) : LQ u w (fX12_of_0 p1 σ).2 := lqb_fX12_of_0b0 h
theorem lqb_fX12_like_0b36 {u w : Int64}  {t0 : Int32} {σ : ST} (h_σ : LQ u w σ) : LQP u w (fX12_like_0b36 t0 σ) := by
  unfold fX12_like_0b36
  exact h_σ
theorem lqb_fX12_like_0b34 {u w : Int64}  {σ : ST} (h_σ : LQ u w σ) : LQP u w (fX12_like_0b34 σ) := by
  unfold fX12_like_0b34
  exact lqb_fX12_like_0b36  h_σ
theorem lqb_fX12_like_0b25 {u w : Int64}  {l1 : Int32} {l2 : Int32} {σ : ST} (h_σ : LQ u w σ) : LQP u w (fX12_like_0b25 l1 l2 σ) := by
  unfold fX12_like_0b25
  refine lqbd2 fun v28 _ => ?_
  exact lqb_fX12_like_0b36  h_σ
theorem lqb_fX12_like_0b20 {u w : Int64}  {l1 : Int32} {l2 : Int32} {σ : ST} (h_σ : LQ u w σ) : LQP u w (fX12_like_0b20 l1 l2 σ) := by
  unfold fX12_like_0b20
  exact lqite2 (lqb_fX12_like_0b34  h_σ) (lqb_fX12_like_0b25  h_σ)
theorem lqb_fX12_like_0b12 {u w : Int64}  {l1 : Int32} {l2 : Int32} {σ : ST} (h_σ : LQ u w σ) : LQP u w (fX12_like_0b12 l1 l2 σ) := by
  unfold fX12_like_0b12
  refine lqbd2 fun v14 _ => ?_
  exact lqite2 (lqb_fX12_like_0b34  h_σ) (lqb_fX12_like_0b20  h_σ)
theorem lqb_fX12_like_0b0 {u w : Int64}  {l1 : Int32} {l2 : Int32} {σ : ST} (h_σ : LQ u w σ) : LQP u w (fX12_like_0b0 l1 l2 σ) := by
  unfold fX12_like_0b0
  refine lqbd2 fun s1 e_s1 => ?_
  have h_s1 : LQ u w s1 := by rw [e_s1]; exact lq_fX12_findPieces_0 h_σ
  refine lqbd2 fun v6 _ => ?_
  exact lqite2 (lqb_fX12_like_0b34  h_s1) (lqb_fX12_like_0b12  h_s1)
theorem lq_fX12_like_0 {u w : Int64} {p1 : Int32} {p2 : Int32} {σ : ST} (h : LQ u w σ) : LQ u w (fX12_like_0 p1 p2 σ).2 := lqb_fX12_like_0b0 h
theorem lqb_fX12_findGains_0b78 {u w : Int64}  {σ : ST} (h_σ : LQ u w σ) : LQ u w (fX12_findGains_0b78 σ) := by
  unfold fX12_findGains_0b78
  exact h_σ
theorem lqb_fX12_findGains_0b72 {u w : Int64} {K2 : Int32 → ST → ST} (hK2 : ∀ (q0 : Int32) (τ : ST), LQ u w τ → LQ u w (K2 q0 τ)) {l1 : Int32} {σ : ST} (h_σ : LQ u w σ) : LQ u w (fX12_findGains_0b72 K2 l1 σ) := by
  unfold fX12_findGains_0b72
  refine lqbd fun v72 _ => ?_
  exact hK2 _ _ h_σ
theorem lqb_fX12_findGains_0b65 {u w : Int64} {K2 : Int32 → ST → ST} (hK2 : ∀ (q0 : Int32) (τ : ST), LQ u w τ → LQ u w (K2 q0 τ)) {K12 : Int32 → Int32 → ST → ST} (hK12 : ∀ (q0 : Int32) (q1 : Int32) (τ : ST), LQ u w τ → LQ u w (K12 q0 q1 τ)) {l1 : Int32} {l2 : Int32} {t0 : Int32} {t1 : Int32} {σ : ST} (h_σ : LQ u w σ) : LQ u w (fX12_findGains_0b65 K2 K12 l1 l2 t0 t1 σ) := by
  unfold fX12_findGains_0b65
  refine lqbd fun s65 e_s65 => ?_
  have h_s65 : LQ u w s65 := by rw [e_s65]; exact h_σ
  refine lqbd fun v66 _ => ?_
  exact hK12 _ _ _ h_s65
theorem lqb_fX12_findGains_0b64 {u w : Int64} {K2 : Int32 → ST → ST} (hK2 : ∀ (q0 : Int32) (τ : ST), LQ u w τ → LQ u w (K2 q0 τ)) {K12 : Int32 → Int32 → ST → ST} (hK12 : ∀ (q0 : Int32) (q1 : Int32) (τ : ST), LQ u w τ → LQ u w (K12 q0 q1 τ)) {l1 : Int32} {l2 : Int32} {t0 : Int32} {t1 : Int32} {t2 : Int32} {σ : ST} (h_σ : LQ u w σ) : LQ u w (fX12_findGains_0b64 K2 K12 l1 l2 t0 t1 t2 σ) := by
  unfold fX12_findGains_0b64
  refine lqbd fun v64 _ => ?_
  exact lqb_fX12_findGains_0b65 hK2 hK12 h_σ
theorem lqb_fX12_findGains_0b63 {u w : Int64} {K2 : Int32 → ST → ST} (hK2 : ∀ (q0 : Int32) (τ : ST), LQ u w τ → LQ u w (K2 q0 τ)) {K12 : Int32 → Int32 → ST → ST} (hK12 : ∀ (q0 : Int32) (q1 : Int32) (τ : ST), LQ u w τ → LQ u w (K12 q0 q1 τ)) {l1 : Int32} {l2 : Int32} {t0 : Int32} {t1 : Int32} {σ : ST} (h_σ : LQ u w σ) : LQ u w (fX12_findGains_0b63 K2 K12 l1 l2 t0 t1 σ) := by
  unfold fX12_findGains_0b63
  exact lqb_fX12_findGains_0b64 hK2 hK12 h_σ
theorem lqb_fX12_findGains_0b54 {u w : Int64} {K2 : Int32 → ST → ST} (hK2 : ∀ (q0 : Int32) (τ : ST), LQ u w τ → LQ u w (K2 q0 τ)) {K12 : Int32 → Int32 → ST → ST} (hK12 : ∀ (q0 : Int32) (q1 : Int32) (τ : ST), LQ u w τ → LQ u w (K12 q0 q1 τ)) {l1 : Int32} {l2 : Int32} {t0 : Int32} {t1 : Int32} {σ : ST} (h_σ : LQ u w σ) : LQ u w (fX12_findGains_0b54 K2 K12 l1 l2 t0 t1 σ) := by
  unfold fX12_findGains_0b54
  refine lqbd fun v59 _ => ?_
  exact lqb_fX12_findGains_0b64 hK2 hK12 h_σ
theorem lqb_fX12_findGains_0b39 {u w : Int64} {K2 : Int32 → ST → ST} (hK2 : ∀ (q0 : Int32) (τ : ST), LQ u w τ → LQ u w (K2 q0 τ)) {K12 : Int32 → Int32 → ST → ST} (hK12 : ∀ (q0 : Int32) (q1 : Int32) (τ : ST), LQ u w τ → LQ u w (K12 q0 q1 τ)) {l1 : Int32} {l2 : Int32} {t0 : Int32} {σ : ST} (h_σ : LQ u w σ) : LQ u w (fX12_findGains_0b39 K2 K12 l1 l2 t0 σ) := by
  unfold fX12_findGains_0b39
  refine lqbd fun v42 _ => ?_
  refine lqbd fun v48 _ => ?_
  exact lqite (lqb_fX12_findGains_0b63 hK2 hK12 h_σ) (lqb_fX12_findGains_0b54 hK2 hK12 h_σ)
theorem lqb_fX12_findGains_0b35 {u w : Int64} {K2 : Int32 → ST → ST} (hK2 : ∀ (q0 : Int32) (τ : ST), LQ u w τ → LQ u w (K2 q0 τ)) {K12 : Int32 → Int32 → ST → ST} (hK12 : ∀ (q0 : Int32) (q1 : Int32) (τ : ST), LQ u w τ → LQ u w (K12 q0 q1 τ)) {l1 : Int32} {l2 : Int32} {t0 : Int32} {σ : ST} (h_σ : LQ u w σ) : LQ u w (fX12_findGains_0b35 K2 K12 l1 l2 t0 σ) := by
  unfold fX12_findGains_0b35
  exact lqb_fX12_findGains_0b65 hK2 hK12 h_σ
theorem lqb_fX12_findGains_0b20 {u w : Int64} {K2 : Int32 → ST → ST} (hK2 : ∀ (q0 : Int32) (τ : ST), LQ u w τ → LQ u w (K2 q0 τ)) {K12 : Int32 → Int32 → ST → ST} (hK12 : ∀ (q0 : Int32) (q1 : Int32) (τ : ST), LQ u w τ → LQ u w (K12 q0 q1 τ)) {l1 : Int32} {l2 : Int32} {σ : ST} (h_σ : LQ u w σ) : LQ u w (fX12_findGains_0b20 K2 K12 l1 l2 σ) := by
  unfold fX12_findGains_0b20
  refine lqbd fun v27 _ => ?_
  refine lqbd fun v29 _ => ?_
  exact lqite (lqb_fX12_findGains_0b35 hK2 hK12 h_σ) (lqb_fX12_findGains_0b39 hK2 hK12 h_σ)
theorem lqb_fX12_findGains_0b12 {u w : Int64} {K2 : Int32 → ST → ST} (hK2 : ∀ (q0 : Int32) (τ : ST), LQ u w τ → LQ u w (K2 q0 τ)) {K12 : Int32 → Int32 → ST → ST} (hK12 : ∀ (q0 : Int32) (q1 : Int32) (τ : ST), LQ u w τ → LQ u w (K12 q0 q1 τ)) {l1 : Int32} {l2 : Int32} {σ : ST} (h_σ : LQ u w σ) : LQ u w (fX12_findGains_0b12 K2 K12 l1 l2 σ) := by
  unfold fX12_findGains_0b12
  refine lqbd fun v14 _ => ?_
  exact lqite (lqb_fX12_findGains_0b72 hK2 h_σ) (lqb_fX12_findGains_0b20 hK2 hK12 h_σ)
theorem lqb_fX12_findGains_0l12 {u w : Int64} {K2 : Int32 → ST → ST} (hK2 : ∀ (q0 : Int32) (τ : ST), LQ u w τ → LQ u w (K2 q0 τ)) : ∀ (fu : Nat) {q0 : Int32} {q1 : Int32} {τ : ST} (h : LQ u w τ), LQ u w (fX12_findGains_0l12 K2 fu q0 q1 τ)
  | 0, _, _, _, h => h
  | fu + 1, _, _, _, h => lqb_fX12_findGains_0b12 hK2 (fun _ _ _ q => lqb_fX12_findGains_0l12 hK2 fu q) h
theorem lqb_fX12_findGains_0b10 {u w : Int64} {K2 : Int32 → ST → ST} (hK2 : ∀ (q0 : Int32) (τ : ST), LQ u w τ → LQ u w (K2 q0 τ)) {l1 : Int32} {σ : ST} (h_σ : LQ u w σ) : LQ u w (fX12_findGains_0b10 K2 l1 σ) := by
  unfold fX12_findGains_0b10
  exact lqb_fX12_findGains_0l12 hK2 _ h_σ
theorem lqb_fX12_findGains_0b2 {u w : Int64} {K2 : Int32 → ST → ST} (hK2 : ∀ (q0 : Int32) (τ : ST), LQ u w τ → LQ u w (K2 q0 τ)) {l1 : Int32} {σ : ST} (h_σ : LQ u w σ) : LQ u w (fX12_findGains_0b2 K2 l1 σ) := by
  unfold fX12_findGains_0b2
  refine lqbd fun v4 _ => ?_
  exact lqite (lqb_fX12_findGains_0b78  h_σ) (lqb_fX12_findGains_0b10 hK2 h_σ)
theorem lqb_fX12_findGains_0l2 {u w : Int64}  : ∀ (fu : Nat) {q0 : Int32} {τ : ST} (h : LQ u w τ), LQ u w (fX12_findGains_0l2 fu q0 τ)
  | 0, _, _, h => h
  | fu + 1, _, _, h => lqb_fX12_findGains_0b2 (fun _ _ q => lqb_fX12_findGains_0l2  fu q) h
theorem lqb_fX12_findGains_0b0 {u w : Int64}  {σ : ST} (h_σ : LQ u w σ) : LQ u w (fX12_findGains_0b0 σ) := by
  unfold fX12_findGains_0b0
  exact lqb_fX12_findGains_0l2  _ h_σ
theorem lq_fX12_findGains_0 {u w : Int64} {σ : ST} (h : LQ u w σ) : LQ u w (fX12_findGains_0 σ) := lqb_fX12_findGains_0b0 h
theorem lqb_fX12_begin_0b21 {u w : Int64}  {σ : ST} (h_σ : LQ u w σ) : LQ u w (fX12_begin_0b21 σ) := by
  unfold fX12_begin_0b21
  exact h_σ
theorem lqb_fX12_begin_0b8 {u w : Int64} {K2 : Int32 → ST → ST} (hK2 : ∀ (q0 : Int32) (τ : ST), LQ u w τ → LQ u w (K2 q0 τ)) {l1 : Int32} {σ : ST} (h_σ : LQ u w σ) : LQ u w (fX12_begin_0b8 K2 l1 σ) := by
  unfold fX12_begin_0b8
  refine lqbd fun s14 e_s14 => ?_
  have h_s14 : LQ u w s14 := by rw [e_s14]; exact h_σ
  refine lqbd fun v15 _ => ?_
  exact hK2 _ _ h_s14
theorem lqb_fX12_begin_0b2 {u w : Int64} {K2 : Int32 → ST → ST} (hK2 : ∀ (q0 : Int32) (τ : ST), LQ u w τ → LQ u w (K2 q0 τ)) {l1 : Int32} {σ : ST} (h_σ : LQ u w σ) : LQ u w (fX12_begin_0b2 K2 l1 σ) := by
  unfold fX12_begin_0b2
  exact lqite (lqb_fX12_begin_0b21  h_σ) (lqb_fX12_begin_0b8 hK2 h_σ)
theorem lqb_fX12_begin_0l2 {u w : Int64}  : ∀ (fu : Nat) {q0 : Int32} {τ : ST} (h : LQ u w τ), LQ u w (fX12_begin_0l2 fu q0 τ)
  | 0, _, _, h => h
  | fu + 1, _, _, h => lqb_fX12_begin_0b2 (fun _ _ q => lqb_fX12_begin_0l2  fu q) h
theorem lqb_fX12_begin_0b0 {u w : Int64}  {σ : ST} (h_σ : LQ u w σ) : LQ u w (fX12_begin_0b0 σ) := by
  unfold fX12_begin_0b0
  exact lqb_fX12_begin_0l2  _ h_σ
theorem lq_fX12_begin_0 {u w : Int64} {σ : ST} (h : LQ u w σ) : LQ u w (fX12_begin_0 σ) := lqb_fX12_begin_0b0 h
theorem lqb_fX12_goOn_0b71 {u w : Int64}  {σ : ST} (h_σ : LQ u w σ) : LQP u w (fX12_goOn_0b71 σ) := by
  unfold fX12_goOn_0b71
  exact h_σ
theorem lqb_fX12_goOn_0b65 {u w : Int64} {K7 : Int32 → ST → (Int32 × ST)} (hK7 : ∀ (q0 : Int32) (τ : ST), LQ u w τ → LQP u w (K7 q0 τ)) {l1 : Int32} {σ : ST} (h_σ : LQ u w σ) : LQP u w (fX12_goOn_0b65 K7 l1 σ) := by
  unfold fX12_goOn_0b65
  refine lqbd2 fun v65 _ => ?_
  exact hK7 _ _ h_σ
theorem lqb_fX12_goOn_0b63 {u w : Int64} {K7 : Int32 → ST → (Int32 × ST)} (hK7 : ∀ (q0 : Int32) (τ : ST), LQ u w τ → LQP u w (K7 q0 τ)) {σ : ST} (h_σ : LQ u w σ) : LQP u w (fX12_goOn_0b63 K7 σ) := by
  unfold fX12_goOn_0b63
  exact h_σ
theorem lqb_fX12_goOn_0b50 {u w : Int64} {K7 : Int32 → ST → (Int32 × ST)} (hK7 : ∀ (q0 : Int32) (τ : ST), LQ u w τ → LQP u w (K7 q0 τ)) {K42 : Int32 → ST → (Int32 × ST)} (hK42 : ∀ (q0 : Int32) (τ : ST), LQ u w τ → LQP u w (K42 q0 τ)) {l2 : Int32} {σ : ST} (h_σ : LQ u w σ) : LQP u w (fX12_goOn_0b50 K7 K42 l2 σ) := by
  unfold fX12_goOn_0b50
  refine lqbd2 fun s56 e_s56 => ?_
  have h_s56 : LQ u w s56 := by rw [e_s56]; exact h_σ
  refine lqbd2 fun v57 _ => ?_
  exact hK42 _ _ h_s56
theorem lqb_fX12_goOn_0b42 {u w : Int64} {K7 : Int32 → ST → (Int32 × ST)} (hK7 : ∀ (q0 : Int32) (τ : ST), LQ u w τ → LQP u w (K7 q0 τ)) {K42 : Int32 → ST → (Int32 × ST)} (hK42 : ∀ (q0 : Int32) (τ : ST), LQ u w τ → LQP u w (K42 q0 τ)) {l2 : Int32} {σ : ST} (h_σ : LQ u w σ) : LQP u w (fX12_goOn_0b42 K7 K42 l2 σ) := by
  unfold fX12_goOn_0b42
  refine lqbd2 fun v44 _ => ?_
  exact lqite2 (lqb_fX12_goOn_0b63 hK7 h_σ) (lqb_fX12_goOn_0b50 hK7 hK42 h_σ)
theorem lqb_fX12_goOn_0l42 {u w : Int64} {K7 : Int32 → ST → (Int32 × ST)} (hK7 : ∀ (q0 : Int32) (τ : ST), LQ u w τ → LQP u w (K7 q0 τ)) : ∀ (fu : Nat) {q0 : Int32} {τ : ST} (h : LQ u w τ), LQP u w (fX12_goOn_0l42 K7 fu q0 τ)
  | 0, _, _, h => h
  | fu + 1, _, _, h => lqb_fX12_goOn_0b42 hK7 (fun _ _ q => lqb_fX12_goOn_0l42 hK7 fu q) h
theorem lqb_fX12_goOn_0b28 {u w : Int64} {K7 : Int32 → ST → (Int32 × ST)} (hK7 : ∀ (q0 : Int32) (τ : ST), LQ u w τ → LQP u w (K7 q0 τ)) {l1 : Int32} {σ : ST} (h_σ : LQ u w σ) : LQP u w (fX12_goOn_0b28 K7 l1 σ) := by
  unfold fX12_goOn_0b28
  refine lqbd2 fun v34 _ => ?_
  refine lqbd2 fun v36 _ => ?_
  refine lqbd2 fun s37 e_s37 => ?_
  have h_s37 : LQ u w s37 := by rw [e_s37]; exact h_σ
  refine lqbd2 fun v40 _ => ?_
  exact lqb_fX12_goOn_0l42 hK7 _ h_s37
theorem lqb_fX12_goOn_0b11 {u w : Int64} {K7 : Int32 → ST → (Int32 × ST)} (hK7 : ∀ (q0 : Int32) (τ : ST), LQ u w τ → LQP u w (K7 q0 τ)) {l1 : Int32} {σ : ST} (h_σ : LQ u w σ) : LQP u w (fX12_goOn_0b11 K7 l1 σ) := by
  unfold fX12_goOn_0b11
  refine lqbd2 fun v16 _ => ?_
  refine lqbd2 fun v22 _ => ?_
  exact lqite2 (lqb_fX12_goOn_0b65 hK7 h_σ) (lqb_fX12_goOn_0b28 hK7 h_σ)
theorem lqb_fX12_goOn_0b7 {u w : Int64} {K7 : Int32 → ST → (Int32 × ST)} (hK7 : ∀ (q0 : Int32) (τ : ST), LQ u w τ → LQP u w (K7 q0 τ)) {l1 : Int32} {σ : ST} (h_σ : LQ u w σ) : LQP u w (fX12_goOn_0b7 K7 l1 σ) := by
  unfold fX12_goOn_0b7
  exact lqite2 (lqb_fX12_goOn_0b71  h_σ) (lqb_fX12_goOn_0b11 hK7 h_σ)
theorem lqb_fX12_goOn_0l7 {u w : Int64}  : ∀ (fu : Nat) {q0 : Int32} {τ : ST} (h : LQ u w τ), LQP u w (fX12_goOn_0l7 fu q0 τ)
  | 0, _, _, h => h
  | fu + 1, _, _, h => lqb_fX12_goOn_0b7 (fun _ _ q => lqb_fX12_goOn_0l7  fu q) h
theorem lqb_fX12_goOn_0b0 {u w : Int64}  {σ : ST} (h_σ : LQ u w σ) : LQP u w (fX12_goOn_0b0 σ) := by
  unfold fX12_goOn_0b0
  refine lqbd2 fun v1 _ => ?_
  refine lqbd2 fun v5 _ => ?_
  exact lqb_fX12_goOn_0l7  _ h_σ
theorem lq_fX12_goOn_0 {u w : Int64} {σ : ST} (h : LQ u w σ) : LQ u w (fX12_goOn_0 σ).2 := lqb_fX12_goOn_0b0 h
theorem lqb_fX12_findBest_0b99 {u w : Int64}  {σ : ST} (h_σ : LQ u w σ) : LQP u w (fX12_findBest_0b99 σ) := by
  unfold fX12_findBest_0b99
  exact h_σ
theorem lqb_fX12_findBest_0b89 {u w : Int64} {K27 : Int32 → Int32 → ST → (Int32 × ST)} (hK27 : ∀ (q0 : Int32) (q1 : Int32) (τ : ST), LQ u w τ → LQP u w (K27 q0 q1 τ)) {σ : ST} (h_σ : LQ u w σ) : LQP u w (fX12_findBest_0b89 K27 σ) := by
  unfold fX12_findBest_0b89
  refine lqbp2 fun v92 s92 e_s92 => ?_
  have h_s92 : LQ u w s92 := by rw [← e_s92]; exact lq_fX12_goOn_0 h_σ
  exact hK27 _ _ _ h_s92
theorem lqb_fX12_findBest_0b69 {u w : Int64} {K27 : Int32 → Int32 → ST → (Int32 × ST)} (hK27 : ∀ (q0 : Int32) (q1 : Int32) (τ : ST), LQ u w τ → LQP u w (K27 q0 q1 τ)) {K60 : Int32 → ST → (Int32 × ST)} (hK60 : ∀ (q0 : Int32) (τ : ST), LQ u w τ → LQP u w (K60 q0 τ)) {l4 : Int32} {σ : ST} (h_σ : LQ u w σ) : LQP u w (fX12_findBest_0b69 K27 K60 l4 σ) := by
  unfold fX12_findBest_0b69
  refine lqbd2 fun v81 _ => ?_
  refine lqbd2 fun s82 e_s82 => ?_
  have h_s82 : LQ u w s82 := by rw [e_s82]; exact h_σ
  refine lqbd2 fun v83 _ => ?_
  exact hK60 _ _ h_s82
theorem lqb_fX12_findBest_0b60 {u w : Int64} {K27 : Int32 → Int32 → ST → (Int32 × ST)} (hK27 : ∀ (q0 : Int32) (q1 : Int32) (τ : ST), LQ u w τ → LQP u w (K27 q0 q1 τ)) {K60 : Int32 → ST → (Int32 × ST)} (hK60 : ∀ (q0 : Int32) (τ : ST), LQ u w τ → LQP u w (K60 q0 τ)) {l4 : Int32} {σ : ST} (h_σ : LQ u w σ) : LQP u w (fX12_findBest_0b60 K27 K60 l4 σ) := by
  unfold fX12_findBest_0b60
  refine lqbd2 fun v63 _ => ?_
  exact lqite2 (lqb_fX12_findBest_0b89 hK27 h_σ) (lqb_fX12_findBest_0b69 hK27 hK60 h_σ)
theorem lqb_fX12_findBest_0l60 {u w : Int64} {K27 : Int32 → Int32 → ST → (Int32 × ST)} (hK27 : ∀ (q0 : Int32) (q1 : Int32) (τ : ST), LQ u w τ → LQP u w (K27 q0 q1 τ)) : ∀ (fu : Nat) {q0 : Int32} {τ : ST} (h : LQ u w τ), LQP u w (fX12_findBest_0l60 K27 fu q0 τ)
  | 0, _, _, h => h
  | fu + 1, _, _, h => lqb_fX12_findBest_0b60 hK27 (fun _ _ q => lqb_fX12_findBest_0l60 hK27 fu q) h
theorem lqb_fX12_findBest_0b52 {u w : Int64} {K27 : Int32 → Int32 → ST → (Int32 × ST)} (hK27 : ∀ (q0 : Int32) (q1 : Int32) (τ : ST), LQ u w τ → LQP u w (K27 q0 q1 τ)) {l3 : Int32} {σ : ST} (h_σ : LQ u w σ) : LQP u w (fX12_findBest_0b52 K27 l3 σ) := by
  unfold fX12_findBest_0b52
  refine lqbd2 fun s54 e_s54 => ?_
  have h_s54 : LQ u w s54 := by rw [e_s54]; exact h_σ
  exact lqb_fX12_findBest_0l60 hK27 _ h_s54
theorem lqb_fX12_findBest_0b44 {u w : Int64} {K27 : Int32 → Int32 → ST → (Int32 × ST)} (hK27 : ∀ (q0 : Int32) (q1 : Int32) (τ : ST), LQ u w τ → LQP u w (K27 q0 q1 τ)) {l3 : Int32} {σ : ST} (h_σ : LQ u w σ) : LQP u w (fX12_findBest_0b44 K27 l3 σ) := by
  unfold fX12_findBest_0b44
  refine lqbd2 fun v46 _ => ?_
  exact lqite2 (lqb_fX12_findBest_0b89 hK27 h_σ) (lqb_fX12_findBest_0b52 hK27 h_σ)
theorem lqb_fX12_findBest_0b31 {u w : Int64} {K27 : Int32 → Int32 → ST → (Int32 × ST)} (hK27 : ∀ (q0 : Int32) (q1 : Int32) (τ : ST), LQ u w τ → LQP u w (K27 q0 q1 τ)) {l2 : Int32} {σ : ST} (h_σ : LQ u w σ) : LQP u w (fX12_findBest_0b31 K27 l2 σ) := by
  unfold fX12_findBest_0b31
  refine lqbd2 fun v36 _ => ?_
  exact lqite2 (lqb_fX12_findBest_0b52 hK27 h_σ) (lqb_fX12_findBest_0b44 hK27 h_σ)
theorem lqb_fX12_findBest_0b27 {u w : Int64} {K27 : Int32 → Int32 → ST → (Int32 × ST)} (hK27 : ∀ (q0 : Int32) (q1 : Int32) (τ : ST), LQ u w τ → LQP u w (K27 q0 q1 τ)) {l1 : Int32} {l2 : Int32} {σ : ST} (h_σ : LQ u w σ) : LQP u w (fX12_findBest_0b27 K27 l1 l2 σ) := by
  unfold fX12_findBest_0b27
  exact lqite2 (lqb_fX12_findBest_0b99  h_σ) (lqb_fX12_findBest_0b31 hK27 h_σ)
theorem lqb_fX12_findBest_0l27 {u w : Int64}  : ∀ (fu : Nat) {q0 : Int32} {q1 : Int32} {τ : ST} (h : LQ u w τ), LQP u w (fX12_findBest_0l27 fu q0 q1 τ)
  | 0, _, _, _, h => h
  | fu + 1, _, _, _, h => lqb_fX12_findBest_0b27 (fun _ _ _ q => lqb_fX12_findBest_0l27  fu q) h
theorem lqb_fX12_findBest_0b15 {u w : Int64}  {σ : ST} (h_σ : LQ u w σ) : LQP u w (fX12_findBest_0b15 σ) := by
  unfold fX12_findBest_0b15
  refine lqbd2 fun s16 e_s16 => ?_
  have h_s16 : LQ u w s16 := by rw [e_s16]; exact lq_fX12_findGains_0 h_σ
  refine lqbd2 fun s20 e_s20 => ?_
  have h_s20 : LQ u w s20 := by rw [e_s20]; exact lq_fX12_begin_0 h_s16
  exact lqb_fX12_findBest_0l27  _ h_s20
theorem lqb_fX12_findBest_0b13 {u w : Int64}  {σ : ST} (h_σ : LQ u w σ) : LQP u w (fX12_findBest_0b13 σ) := by
  unfold fX12_findBest_0b13
  exact h_σ
theorem lqb_fX12_findBest_0b0 {u w : Int64}  {σ : ST} (h_σ : LQ u w σ) : LQP u w (fX12_findBest_0b0 σ) := by
  unfold fX12_findBest_0b0
  refine lqbd2 fun s1 e_s1 => ?_
  have h_s1 : LQ u w s1 := by rw [e_s1]; exact lq_fX12_findPieces_0 h_σ
  refine lqbd2 fun v5 _ => ?_
  exact lqite2 (lqb_fX12_findBest_0b15  h_s1) (lqb_fX12_findBest_0b13  h_s1)
theorem lq_fX12_findBest_0 {u w : Int64} {σ : ST} (h : LQ u w σ) : LQ u w (fX12_findBest_0 σ).2 := lqb_fX12_findBest_0b0 h
theorem lqb_fX12_join_0b364 {u w : Int64}  {σ : ST} (h_σ : LQ u w σ) : LQ u w (fX12_join_0b364 σ) := by
  unfold fX12_join_0b364
  exact h_σ
theorem lqb_fX12_join_0b346 {u w : Int64} {K338 : Int32 → ST → ST} (hK338 : ∀ (q0 : Int32) (τ : ST), LQ u w τ → LQ u w (K338 q0 τ)) {l3 : Int32} {σ : ST} (h_σ : LQ u w σ) : LQ u w (fX12_join_0b346 K338 l3 σ) := by
  unfold fX12_join_0b346
  refine lqbd fun v356 _ => ?_
  refine lqbd fun s357 e_s357 => ?_
  have h_s357 : LQ u w s357 := by rw [e_s357]; exact h_σ
  refine lqbd fun v358 _ => ?_
  exact hK338 _ _ h_s357
theorem lqb_fX12_join_0b338 {u w : Int64} {K338 : Int32 → ST → ST} (hK338 : ∀ (q0 : Int32) (τ : ST), LQ u w τ → LQ u w (K338 q0 τ)) {l3 : Int32} {σ : ST} (h_σ : LQ u w σ) : LQ u w (fX12_join_0b338 K338 l3 σ) := by
  unfold fX12_join_0b338
  refine lqbd fun v340 _ => ?_
  exact lqite (lqb_fX12_join_0b364  h_σ) (lqb_fX12_join_0b346 hK338 h_σ)
theorem lqb_fX12_join_0l338 {u w : Int64}  : ∀ (fu : Nat) {q0 : Int32} {τ : ST} (h : LQ u w τ), LQ u w (fX12_join_0l338 fu q0 τ)
  | 0, _, _, h => h
  | fu + 1, _, _, h => lqb_fX12_join_0b338 (fun _ _ q => lqb_fX12_join_0l338  fu q) h
theorem lqb_fX12_join_0b336 {u w : Int64}  {σ : ST} (h_σ : LQ u w σ) : LQ u w (fX12_join_0b336 σ) := by
  unfold fX12_join_0b336
  exact lqb_fX12_join_0l338  _ h_σ
theorem lqb_fX12_join_0b328 {u w : Int64} {K273 : Int32 → Int32 → ST → ST} (hK273 : ∀ (q0 : Int32) (q1 : Int32) (τ : ST), LQ u w τ → LQ u w (K273 q0 q1 τ)) {l3 : Int32} {t0 : Int32} {t1 : Int32} {σ : ST} (h_σ : LQ u w σ) : LQ u w (fX12_join_0b328 K273 l3 t0 t1 σ) := by
  unfold fX12_join_0b328
  refine lqbd fun v328 _ => ?_
  refine lqbd fun v330 _ => ?_
  exact hK273 _ _ _ h_σ
theorem lqb_fX12_join_0b327 {u w : Int64} {K273 : Int32 → Int32 → ST → ST} (hK273 : ∀ (q0 : Int32) (q1 : Int32) (τ : ST), LQ u w τ → LQ u w (K273 q0 q1 τ)) {l3 : Int32} {t0 : Int32} {σ : ST} (h_σ : LQ u w σ) : LQ u w (fX12_join_0b327 K273 l3 t0 σ) := by
  unfold fX12_join_0b327
  exact lqb_fX12_join_0b328 hK273 h_σ
theorem lqb_fX12_join_0b323 {u w : Int64} {K273 : Int32 → Int32 → ST → ST} (hK273 : ∀ (q0 : Int32) (q1 : Int32) (τ : ST), LQ u w τ → LQ u w (K273 q0 q1 τ)) {l3 : Int32} {t0 : Int32} {σ : ST} (h_σ : LQ u w σ) : LQ u w (fX12_join_0b323 K273 l3 t0 σ) := by
  unfold fX12_join_0b323
  exact lqb_fX12_join_0b328 hK273 h_σ
theorem lqb_fX12_join_0b311 {u w : Int64} {K273 : Int32 → Int32 → ST → ST} (hK273 : ∀ (q0 : Int32) (q1 : Int32) (τ : ST), LQ u w τ → LQ u w (K273 q0 q1 τ)) {l2 : Int32} {l3 : Int32} {t0 : Int32} {t1 : Int32} {σ : ST} (h_σ : LQ u w σ) : LQ u w (fX12_join_0b311 K273 l2 l3 t0 t1 σ) := by
  unfold fX12_join_0b311
  refine lqbd fun s311 e_s311 => ?_
  have h_s311 : LQ u w s311 := by rw [e_s311]; exact h_σ
  refine lqbd fun v318 _ => ?_
  exact lqite (lqb_fX12_join_0b323 hK273 h_s311) (lqb_fX12_join_0b327 hK273 h_s311)
theorem lqb_fX12_join_0b300 {u w : Int64} {K273 : Int32 → Int32 → ST → ST} (hK273 : ∀ (q0 : Int32) (q1 : Int32) (τ : ST), LQ u w τ → LQ u w (K273 q0 q1 τ)) {l2 : Int32} {l3 : Int32} {t0 : Int32} {σ : ST} (h_σ : LQ u w σ) : LQ u w (fX12_join_0b300 K273 l2 l3 t0 σ) := by
  unfold fX12_join_0b300
  refine lqbd fun v309 _ => ?_
  refine lqbd fun v310 _ => ?_
  exact lqb_fX12_join_0b311 hK273 h_σ
theorem lqb_fX12_join_0b296 {u w : Int64} {K273 : Int32 → Int32 → ST → ST} (hK273 : ∀ (q0 : Int32) (q1 : Int32) (τ : ST), LQ u w τ → LQ u w (K273 q0 q1 τ)) {l2 : Int32} {l3 : Int32} {t0 : Int32} {σ : ST} (h_σ : LQ u w σ) : LQ u w (fX12_join_0b296 K273 l2 l3 t0 σ) := by
  unfold fX12_join_0b296
  exact lqb_fX12_join_0b311 hK273 h_σ
theorem lqb_fX12_join_0b281 {u w : Int64} {K273 : Int32 → Int32 → ST → ST} (hK273 : ∀ (q0 : Int32) (q1 : Int32) (τ : ST), LQ u w τ → LQ u w (K273 q0 q1 τ)) {l2 : Int32} {l3 : Int32} {σ : ST} (h_σ : LQ u w σ) : LQ u w (fX12_join_0b281 K273 l2 l3 σ) := by
  unfold fX12_join_0b281
  refine lqbd fun v291 _ => ?_
  exact lqite (lqb_fX12_join_0b296 hK273 h_σ) (lqb_fX12_join_0b300 hK273 h_σ)
theorem lqb_fX12_join_0b273 {u w : Int64} {K273 : Int32 → Int32 → ST → ST} (hK273 : ∀ (q0 : Int32) (q1 : Int32) (τ : ST), LQ u w τ → LQ u w (K273 q0 q1 τ)) {l2 : Int32} {l3 : Int32} {σ : ST} (h_σ : LQ u w σ) : LQ u w (fX12_join_0b273 K273 l2 l3 σ) := by
  unfold fX12_join_0b273
  refine lqbd fun v275 _ => ?_
  exact lqite (lqb_fX12_join_0b336  h_σ) (lqb_fX12_join_0b281 hK273 h_σ)
theorem lqb_fX12_join_0l273 {u w : Int64}  : ∀ (fu : Nat) {q0 : Int32} {q1 : Int32} {τ : ST} (h : LQ u w τ), LQ u w (fX12_join_0l273 fu q0 q1 τ)
  | 0, _, _, _, h => h
  | fu + 1, _, _, _, h => lqb_fX12_join_0b273 (fun _ _ _ q => lqb_fX12_join_0l273  fu q) h
theorem lqb_fX12_join_0b269 {u w : Int64}  {σ : ST} (h_σ : LQ u w σ) : LQ u w (fX12_join_0b269 σ) := by
  unfold fX12_join_0b269
  exact lqb_fX12_join_0l273  _ h_σ
theorem lqb_fX12_join_0b266 {u w : Int64} {K25 : Int32 → ST → ST} (hK25 : ∀ (q0 : Int32) (τ : ST), LQ u w τ → LQ u w (K25 q0 τ)) {l1 : Int32} {σ : ST} (h_σ : LQ u w σ) : LQ u w (fX12_join_0b266 K25 l1 σ) := by
  unfold fX12_join_0b266
  exact hK25 _ _ h_σ
theorem lqb_fX12_join_0b259 {u w : Int64} {K25 : Int32 → ST → ST} (hK25 : ∀ (q0 : Int32) (τ : ST), LQ u w τ → LQ u w (K25 q0 τ)) {K218 : Int32 → Int32 → Int32 → Int32 → ST → ST} (hK218 : ∀ (q0 : Int32) (q1 : Int32) (q2 : Int32) (q3 : Int32) (τ : ST), LQ u w τ → LQ u w (K218 q0 q1 q2 q3 τ)) {l1 : Int32} {l2 : Int32} {l3 : Int32} {l5 : Int32} {t0 : Int32} {t1 : Int32} {σ : ST} (h_σ : LQ u w σ) : LQ u w (fX12_join_0b259 K25 K218 l1 l2 l3 l5 t0 t1 σ) := by
  unfold fX12_join_0b259
  refine lqbd fun s259 e_s259 => ?_
  have h_s259 : LQ u w s259 := by rw [e_s259]; exact h_σ
  refine lqbd fun v260 _ => ?_
  exact hK218 _ _ _ _ _ h_s259
theorem lqb_fX12_join_0b252 {u w : Int64} {K25 : Int32 → ST → ST} (hK25 : ∀ (q0 : Int32) (τ : ST), LQ u w τ → LQ u w (K25 q0 τ)) {K218 : Int32 → Int32 → Int32 → Int32 → ST → ST} (hK218 : ∀ (q0 : Int32) (q1 : Int32) (q2 : Int32) (q3 : Int32) (τ : ST), LQ u w τ → LQ u w (K218 q0 q1 q2 q3 τ)) {l1 : Int32} {l2 : Int32} {l3 : Int32} {l5 : Int32} {t0 : Int32} {σ : ST} (h_σ : LQ u w σ) : LQ u w (fX12_join_0b252 K25 K218 l1 l2 l3 l5 t0 σ) := by
  unfold fX12_join_0b252
  refine lqbd fun v258 _ => ?_
  exact lqb_fX12_join_0b259 hK25 hK218 h_σ
theorem lqb_fX12_join_0b248 {u w : Int64} {K25 : Int32 → ST → ST} (hK25 : ∀ (q0 : Int32) (τ : ST), LQ u w τ → LQ u w (K25 q0 τ)) {K218 : Int32 → Int32 → Int32 → Int32 → ST → ST} (hK218 : ∀ (q0 : Int32) (q1 : Int32) (q2 : Int32) (q3 : Int32) (τ : ST), LQ u w τ → LQ u w (K218 q0 q1 q2 q3 τ)) {l1 : Int32} {l2 : Int32} {l3 : Int32} {l5 : Int32} {t0 : Int32} {σ : ST} (h_σ : LQ u w σ) : LQ u w (fX12_join_0b248 K25 K218 l1 l2 l3 l5 t0 σ) := by
  unfold fX12_join_0b248
  exact lqb_fX12_join_0b259 hK25 hK218 h_σ
theorem lqb_fX12_join_0b231 {u w : Int64} {K25 : Int32 → ST → ST} (hK25 : ∀ (q0 : Int32) (τ : ST), LQ u w τ → LQ u w (K25 q0 τ)) {K218 : Int32 → Int32 → Int32 → Int32 → ST → ST} (hK218 : ∀ (q0 : Int32) (q1 : Int32) (q2 : Int32) (q3 : Int32) (τ : ST), LQ u w τ → LQ u w (K218 q0 q1 q2 q3 τ)) {l1 : Int32} {l2 : Int32} {l3 : Int32} {l5 : Int32} {σ : ST} (h_σ : LQ u w σ) : LQ u w (fX12_join_0b231 K25 K218 l1 l2 l3 l5 σ) := by
  unfold fX12_join_0b231
  refine lqbd fun v243 _ => ?_
  exact lqite (lqb_fX12_join_0b248 hK25 hK218 h_σ) (lqb_fX12_join_0b252 hK25 hK218 h_σ)
theorem lqb_fX12_join_0b227 {u w : Int64} {K25 : Int32 → ST → ST} (hK25 : ∀ (q0 : Int32) (τ : ST), LQ u w τ → LQ u w (K25 q0 τ)) {K218 : Int32 → Int32 → Int32 → Int32 → ST → ST} (hK218 : ∀ (q0 : Int32) (q1 : Int32) (q2 : Int32) (q3 : Int32) (τ : ST), LQ u w τ → LQ u w (K218 q0 q1 q2 q3 τ)) {l1 : Int32} {l2 : Int32} {l3 : Int32} {l5 : Int32} {σ : ST} (h_σ : LQ u w σ) : LQ u w (fX12_join_0b227 K25 K218 l1 l2 l3 l5 σ) := by
  unfold fX12_join_0b227
  exact lqite (lqb_fX12_join_0b266 hK25 h_σ) (lqb_fX12_join_0b231 hK25 hK218 h_σ)
theorem lqb_fX12_join_0b218 {u w : Int64} {K25 : Int32 → ST → ST} (hK25 : ∀ (q0 : Int32) (τ : ST), LQ u w τ → LQ u w (K25 q0 τ)) {K218 : Int32 → Int32 → Int32 → Int32 → ST → ST} (hK218 : ∀ (q0 : Int32) (q1 : Int32) (q2 : Int32) (q3 : Int32) (τ : ST), LQ u w τ → LQ u w (K218 q0 q1 q2 q3 τ)) {l1 : Int32} {l2 : Int32} {l3 : Int32} {l5 : Int32} {σ : ST} (h_σ : LQ u w σ) : LQ u w (fX12_join_0b218 K25 K218 l1 l2 l3 l5 σ) := by
  unfold fX12_join_0b218
  refine lqbd fun v221 _ => ?_
  exact lqite (lqb_fX12_join_0b266 hK25 h_σ) (lqb_fX12_join_0b227 hK25 hK218 h_σ)
theorem lqb_fX12_join_0l218 {u w : Int64} {K25 : Int32 → ST → ST} (hK25 : ∀ (q0 : Int32) (τ : ST), LQ u w τ → LQ u w (K25 q0 τ)) : ∀ (fu : Nat) {q0 : Int32} {q1 : Int32} {q2 : Int32} {q3 : Int32} {τ : ST} (h : LQ u w τ), LQ u w (fX12_join_0l218 K25 fu q0 q1 q2 q3 τ)
  | 0, _, _, _, _, _, h => h
  | fu + 1, _, _, _, _, _, h => lqb_fX12_join_0b218 hK25 (fun _ _ _ _ _ q => lqb_fX12_join_0l218 hK25 fu q) h
theorem lqb_fX12_join_0b214 {u w : Int64} {K25 : Int32 → ST → ST} (hK25 : ∀ (q0 : Int32) (τ : ST), LQ u w τ → LQ u w (K25 q0 τ)) {l2 : Int32} {l3 : Int32} {t0 : Int32} {σ : ST} (h_σ : LQ u w σ) : LQ u w (fX12_join_0b214 K25 l2 l3 t0 σ) := by
  unfold fX12_join_0b214
  exact lqb_fX12_join_0l218 hK25 _ h_σ
theorem lqb_fX12_join_0b213 {u w : Int64} {K25 : Int32 → ST → ST} (hK25 : ∀ (q0 : Int32) (τ : ST), LQ u w τ → LQ u w (K25 q0 τ)) {l2 : Int32} {l3 : Int32} {σ : ST} (h_σ : LQ u w σ) : LQ u w (fX12_join_0b213 K25 l2 l3 σ) := by
  unfold fX12_join_0b213
  exact lqb_fX12_join_0b214 hK25 h_σ
theorem lqb_fX12_join_0b209 {u w : Int64} {K25 : Int32 → ST → ST} (hK25 : ∀ (q0 : Int32) (τ : ST), LQ u w τ → LQ u w (K25 q0 τ)) {l2 : Int32} {l3 : Int32} {σ : ST} (h_σ : LQ u w σ) : LQ u w (fX12_join_0b209 K25 l2 l3 σ) := by
  unfold fX12_join_0b209
  exact lqb_fX12_join_0b214 hK25 h_σ
theorem lqb_fX12_join_0b203 {u w : Int64} {K25 : Int32 → ST → ST} (hK25 : ∀ (q0 : Int32) (τ : ST), LQ u w τ → LQ u w (K25 q0 τ)) {l2 : Int32} {l3 : Int32} {σ : ST} (h_σ : LQ u w σ) : LQ u w (fX12_join_0b203 K25 l2 l3 σ) := by
  unfold fX12_join_0b203
  exact lqite (lqb_fX12_join_0b213 hK25 h_σ) (lqb_fX12_join_0b209 hK25 h_σ)
theorem lqb_fX12_join_0b197 {u w : Int64} {K25 : Int32 → ST → ST} (hK25 : ∀ (q0 : Int32) (τ : ST), LQ u w τ → LQ u w (K25 q0 τ)) {K41 : Int32 → Int32 → Int32 → Int32 → ST → ST} (hK41 : ∀ (q0 : Int32) (q1 : Int32) (q2 : Int32) (q3 : Int32) (τ : ST), LQ u w τ → LQ u w (K41 q0 q1 q2 q3 τ)) {l2 : Int32} {l3 : Int32} {l4 : Int32} {l5 : Int32} {σ : ST} (h_σ : LQ u w σ) : LQ u w (fX12_join_0b197 K25 K41 l2 l3 l4 l5 σ) := by
  unfold fX12_join_0b197
  refine lqbd fun v197 _ => ?_
  exact hK41 _ _ _ _ _ h_σ
theorem lqb_fX12_join_0b191 {u w : Int64} {K25 : Int32 → ST → ST} (hK25 : ∀ (q0 : Int32) (τ : ST), LQ u w τ → LQ u w (K25 q0 τ)) {K41 : Int32 → Int32 → Int32 → Int32 → ST → ST} (hK41 : ∀ (q0 : Int32) (q1 : Int32) (q2 : Int32) (q3 : Int32) (τ : ST), LQ u w τ → LQ u w (K41 q0 q1 q2 q3 τ)) {K56 : Int32 → Int32 → Int32 → Int32 → Int32 → ST → ST} (hK56 : ∀ (q0 : Int32) (q1 : Int32) (q2 : Int32) (q3 : Int32) (q4 : Int32) (τ : ST), LQ u w τ → LQ u w (K56 q0 q1 q2 q3 q4 τ)) {l2 : Int32} {l3 : Int32} {l4 : Int32} {l5 : Int32} {l6 : Int32} {σ : ST} (h_σ : LQ u w σ) : LQ u w (fX12_join_0b191 K25 K41 K56 l2 l3 l4 l5 l6 σ) := by
  unfold fX12_join_0b191
  refine lqbd fun v191 _ => ?_
  exact hK56 _ _ _ _ _ _ h_σ
theorem lqb_fX12_join_0b181 {u w : Int64} {K25 : Int32 → ST → ST} (hK25 : ∀ (q0 : Int32) (τ : ST), LQ u w τ → LQ u w (K25 q0 τ)) {K41 : Int32 → Int32 → Int32 → Int32 → ST → ST} (hK41 : ∀ (q0 : Int32) (q1 : Int32) (q2 : Int32) (q3 : Int32) (τ : ST), LQ u w τ → LQ u w (K41 q0 q1 q2 q3 τ)) {K56 : Int32 → Int32 → Int32 → Int32 → Int32 → ST → ST} (hK56 : ∀ (q0 : Int32) (q1 : Int32) (q2 : Int32) (q3 : Int32) (q4 : Int32) (τ : ST), LQ u w τ → LQ u w (K56 q0 q1 q2 q3 q4 τ)) {l5 : Int32} {l6 : Int32} {l7 : Int32} {σ : ST} (h_σ : LQ u w σ) : LQ u w (fX12_join_0b181 K25 K41 K56 l5 l6 l7 σ) := by
  unfold fX12_join_0b181
  exact lqb_fX12_join_0b191 hK25 hK41 hK56 h_σ
theorem lqb_fX12_join_0b174 {u w : Int64} {K25 : Int32 → ST → ST} (hK25 : ∀ (q0 : Int32) (τ : ST), LQ u w τ → LQ u w (K25 q0 τ)) {K41 : Int32 → Int32 → Int32 → Int32 → ST → ST} (hK41 : ∀ (q0 : Int32) (q1 : Int32) (q2 : Int32) (q3 : Int32) (τ : ST), LQ u w τ → LQ u w (K41 q0 q1 q2 q3 τ)) {K56 : Int32 → Int32 → Int32 → Int32 → Int32 → ST → ST} (hK56 : ∀ (q0 : Int32) (q1 : Int32) (q2 : Int32) (q3 : Int32) (q4 : Int32) (τ : ST), LQ u w τ → LQ u w (K56 q0 q1 q2 q3 q4 τ)) {l2 : Int32} {l3 : Int32} {l4 : Int32} {l5 : Int32} {l6 : Int32} {l7 : Int32} {σ : ST} (h_σ : LQ u w σ) : LQ u w (fX12_join_0b174 K25 K41 K56 l2 l3 l4 l5 l6 l7 σ) := by
  unfold fX12_join_0b174
  exact lqite (lqb_fX12_join_0b191 hK25 hK41 hK56 h_σ) (lqb_fX12_join_0b181 hK25 hK41 hK56 h_σ)
theorem lqb_fX12_join_0b168 {u w : Int64} {K25 : Int32 → ST → ST} (hK25 : ∀ (q0 : Int32) (τ : ST), LQ u w τ → LQ u w (K25 q0 τ)) {K41 : Int32 → Int32 → Int32 → Int32 → ST → ST} (hK41 : ∀ (q0 : Int32) (q1 : Int32) (q2 : Int32) (q3 : Int32) (τ : ST), LQ u w τ → LQ u w (K41 q0 q1 q2 q3 τ)) {K56 : Int32 → Int32 → Int32 → Int32 → Int32 → ST → ST} (hK56 : ∀ (q0 : Int32) (q1 : Int32) (q2 : Int32) (q3 : Int32) (q4 : Int32) (τ : ST), LQ u w τ → LQ u w (K56 q0 q1 q2 q3 q4 τ)) {K95 : Int32 → Int32 → Int32 → Int32 → Int32 → Int32 → Int32 → ST → ST} (hK95 : ∀ (q0 : Int32) (q1 : Int32) (q2 : Int32) (q3 : Int32) (q4 : Int32) (q5 : Int32) (q6 : Int32) (τ : ST), LQ u w τ → LQ u w (K95 q0 q1 q2 q3 q4 q5 q6 τ)) {l2 : Int32} {l3 : Int32} {l4 : Int32} {l5 : Int32} {l6 : Int32} {l7 : Int32} {l8 : Int32} {σ : ST} (h_σ : LQ u w σ) : LQ u w (fX12_join_0b168 K25 K41 K56 K95 l2 l3 l4 l5 l6 l7 l8 σ) := by
  unfold fX12_join_0b168
  refine lqbd fun v168 _ => ?_
  exact hK95 _ _ _ _ _ _ _ _ h_σ
theorem lqb_fX12_join_0b159 {u w : Int64} {K25 : Int32 → ST → ST} (hK25 : ∀ (q0 : Int32) (τ : ST), LQ u w τ → LQ u w (K25 q0 τ)) {K41 : Int32 → Int32 → Int32 → Int32 → ST → ST} (hK41 : ∀ (q0 : Int32) (q1 : Int32) (q2 : Int32) (q3 : Int32) (τ : ST), LQ u w τ → LQ u w (K41 q0 q1 q2 q3 τ)) {K56 : Int32 → Int32 → Int32 → Int32 → Int32 → ST → ST} (hK56 : ∀ (q0 : Int32) (q1 : Int32) (q2 : Int32) (q3 : Int32) (q4 : Int32) (τ : ST), LQ u w τ → LQ u w (K56 q0 q1 q2 q3 q4 τ)) {K95 : Int32 → Int32 → Int32 → Int32 → Int32 → Int32 → Int32 → ST → ST} (hK95 : ∀ (q0 : Int32) (q1 : Int32) (q2 : Int32) (q3 : Int32) (q4 : Int32) (q5 : Int32) (q6 : Int32) (τ : ST), LQ u w τ → LQ u w (K95 q0 q1 q2 q3 q4 q5 q6 τ)) {K107 : Int32 → Int32 → Int32 → Int32 → Int32 → Int32 → Int32 → Int32 → ST → ST} (hK107 : ∀ (q0 : Int32) (q1 : Int32) (q2 : Int32) (q3 : Int32) (q4 : Int32) (q5 : Int32) (q6 : Int32) (q7 : Int32) (τ : ST), LQ u w τ → LQ u w (K107 q0 q1 q2 q3 q4 q5 q6 q7 τ)) {l2 : Int32} {l3 : Int32} {l4 : Int32} {l5 : Int32} {l6 : Int32} {l8 : Int32} {l9 : Int32} {t0 : Int32} {t1 : Int32} {σ : ST} (h_σ : LQ u w σ) : LQ u w (fX12_join_0b159 K25 K41 K56 K95 K107 l2 l3 l4 l5 l6 l8 l9 t0 t1 σ) := by
  unfold fX12_join_0b159
  refine lqbd fun v159 _ => ?_
  refine lqbd fun v162 _ => ?_
  exact hK107 _ _ _ _ _ _ _ _ _ h_σ
theorem lqb_fX12_join_0b158 {u w : Int64} {K25 : Int32 → ST → ST} (hK25 : ∀ (q0 : Int32) (τ : ST), LQ u w τ → LQ u w (K25 q0 τ)) {K41 : Int32 → Int32 → Int32 → Int32 → ST → ST} (hK41 : ∀ (q0 : Int32) (q1 : Int32) (q2 : Int32) (q3 : Int32) (τ : ST), LQ u w τ → LQ u w (K41 q0 q1 q2 q3 τ)) {K56 : Int32 → Int32 → Int32 → Int32 → Int32 → ST → ST} (hK56 : ∀ (q0 : Int32) (q1 : Int32) (q2 : Int32) (q3 : Int32) (q4 : Int32) (τ : ST), LQ u w τ → LQ u w (K56 q0 q1 q2 q3 q4 τ)) {K95 : Int32 → Int32 → Int32 → Int32 → Int32 → Int32 → Int32 → ST → ST} (hK95 : ∀ (q0 : Int32) (q1 : Int32) (q2 : Int32) (q3 : Int32) (q4 : Int32) (q5 : Int32) (q6 : Int32) (τ : ST), LQ u w τ → LQ u w (K95 q0 q1 q2 q3 q4 q5 q6 τ)) {K107 : Int32 → Int32 → Int32 → Int32 → Int32 → Int32 → Int32 → Int32 → ST → ST} (hK107 : ∀ (q0 : Int32) (q1 : Int32) (q2 : Int32) (q3 : Int32) (q4 : Int32) (q5 : Int32) (q6 : Int32) (q7 : Int32) (τ : ST), LQ u w τ → LQ u w (K107 q0 q1 q2 q3 q4 q5 q6 q7 τ)) {l2 : Int32} {l3 : Int32} {l4 : Int32} {l5 : Int32} {l6 : Int32} {l8 : Int32} {l9 : Int32} {t0 : Int32} {σ : ST} (h_σ : LQ u w σ) : LQ u w (fX12_join_0b158 K25 K41 K56 K95 K107 l2 l3 l4 l5 l6 l8 l9 t0 σ) := by
  unfold fX12_join_0b158
  exact lqb_fX12_join_0b159 hK25 hK41 hK56 hK95 hK107 h_σ
theorem lqb_fX12_join_0b142 {u w : Int64} {K25 : Int32 → ST → ST} (hK25 : ∀ (q0 : Int32) (τ : ST), LQ u w τ → LQ u w (K25 q0 τ)) {K41 : Int32 → Int32 → Int32 → Int32 → ST → ST} (hK41 : ∀ (q0 : Int32) (q1 : Int32) (q2 : Int32) (q3 : Int32) (τ : ST), LQ u w τ → LQ u w (K41 q0 q1 q2 q3 τ)) {K56 : Int32 → Int32 → Int32 → Int32 → Int32 → ST → ST} (hK56 : ∀ (q0 : Int32) (q1 : Int32) (q2 : Int32) (q3 : Int32) (q4 : Int32) (τ : ST), LQ u w τ → LQ u w (K56 q0 q1 q2 q3 q4 τ)) {K95 : Int32 → Int32 → Int32 → Int32 → Int32 → Int32 → Int32 → ST → ST} (hK95 : ∀ (q0 : Int32) (q1 : Int32) (q2 : Int32) (q3 : Int32) (q4 : Int32) (q5 : Int32) (q6 : Int32) (τ : ST), LQ u w τ → LQ u w (K95 q0 q1 q2 q3 q4 q5 q6 τ)) {K107 : Int32 → Int32 → Int32 → Int32 → Int32 → Int32 → Int32 → Int32 → ST → ST} (hK107 : ∀ (q0 : Int32) (q1 : Int32) (q2 : Int32) (q3 : Int32) (q4 : Int32) (q5 : Int32) (q6 : Int32) (q7 : Int32) (τ : ST), LQ u w τ → LQ u w (K107 q0 q1 q2 q3 q4 q5 q6 q7 τ)) {l2 : Int32} {l3 : Int32} {l4 : Int32} {l5 : Int32} {l6 : Int32} {l8 : Int32} {l9 : Int32} {t0 : Int32} {σ : ST} (h_σ : LQ u w σ) : LQ u w (fX12_join_0b142 K25 K41 K56 K95 K107 l2 l3 l4 l5 l6 l8 l9 t0 σ) := by
  unfold fX12_join_0b142
  refine lqbd fun v150 _ => ?_
  refine lqbd fun v153 _ => ?_
  refine lqbd fun v154 _ => ?_
  exact lqb_fX12_join_0b159 hK25 hK41 hK56 hK95 hK107 h_σ
theorem lqb_fX12_join_0b130 {u w : Int64} {K25 : Int32 → ST → ST} (hK25 : ∀ (q0 : Int32) (τ : ST), LQ u w τ → LQ u w (K25 q0 τ)) {K41 : Int32 → Int32 → Int32 → Int32 → ST → ST} (hK41 : ∀ (q0 : Int32) (q1 : Int32) (q2 : Int32) (q3 : Int32) (τ : ST), LQ u w τ → LQ u w (K41 q0 q1 q2 q3 τ)) {K56 : Int32 → Int32 → Int32 → Int32 → Int32 → ST → ST} (hK56 : ∀ (q0 : Int32) (q1 : Int32) (q2 : Int32) (q3 : Int32) (q4 : Int32) (τ : ST), LQ u w τ → LQ u w (K56 q0 q1 q2 q3 q4 τ)) {K95 : Int32 → Int32 → Int32 → Int32 → Int32 → Int32 → Int32 → ST → ST} (hK95 : ∀ (q0 : Int32) (q1 : Int32) (q2 : Int32) (q3 : Int32) (q4 : Int32) (q5 : Int32) (q6 : Int32) (τ : ST), LQ u w τ → LQ u w (K95 q0 q1 q2 q3 q4 q5 q6 τ)) {K107 : Int32 → Int32 → Int32 → Int32 → Int32 → Int32 → Int32 → Int32 → ST → ST} (hK107 : ∀ (q0 : Int32) (q1 : Int32) (q2 : Int32) (q3 : Int32) (q4 : Int32) (q5 : Int32) (q6 : Int32) (q7 : Int32) (τ : ST), LQ u w τ → LQ u w (K107 q0 q1 q2 q3 q4 q5 q6 q7 τ)) {l2 : Int32} {l3 : Int32} {l4 : Int32} {l5 : Int32} {l6 : Int32} {l8 : Int32} {l9 : Int32} {t0 : Int32} {σ : ST} (h_σ : LQ u w σ) : LQ u w (fX12_join_0b130 K25 K41 K56 K95 K107 l2 l3 l4 l5 l6 l8 l9 t0 σ) := by
  unfold fX12_join_0b130
  refine lqbd fun v136 _ => ?_
  exact lqite (lqb_fX12_join_0b142 hK25 hK41 hK56 hK95 hK107 h_σ) (lqb_fX12_join_0b158 hK25 hK41 hK56 hK95 hK107 h_σ)
theorem lqb_fX12_join_0b116 {u w : Int64} {K25 : Int32 → ST → ST} (hK25 : ∀ (q0 : Int32) (τ : ST), LQ u w τ → LQ u w (K25 q0 τ)) {K41 : Int32 → Int32 → Int32 → Int32 → ST → ST} (hK41 : ∀ (q0 : Int32) (q1 : Int32) (q2 : Int32) (q3 : Int32) (τ : ST), LQ u w τ → LQ u w (K41 q0 q1 q2 q3 τ)) {K56 : Int32 → Int32 → Int32 → Int32 → Int32 → ST → ST} (hK56 : ∀ (q0 : Int32) (q1 : Int32) (q2 : Int32) (q3 : Int32) (q4 : Int32) (τ : ST), LQ u w τ → LQ u w (K56 q0 q1 q2 q3 q4 τ)) {K95 : Int32 → Int32 → Int32 → Int32 → Int32 → Int32 → Int32 → ST → ST} (hK95 : ∀ (q0 : Int32) (q1 : Int32) (q2 : Int32) (q3 : Int32) (q4 : Int32) (q5 : Int32) (q6 : Int32) (τ : ST), LQ u w τ → LQ u w (K95 q0 q1 q2 q3 q4 q5 q6 τ)) {K107 : Int32 → Int32 → Int32 → Int32 → Int32 → Int32 → Int32 → Int32 → ST → ST} (hK107 : ∀ (q0 : Int32) (q1 : Int32) (q2 : Int32) (q3 : Int32) (q4 : Int32) (q5 : Int32) (q6 : Int32) (q7 : Int32) (τ : ST), LQ u w τ → LQ u w (K107 q0 q1 q2 q3 q4 q5 q6 q7 τ)) {l2 : Int32} {l3 : Int32} {l4 : Int32} {l5 : Int32} {l6 : Int32} {l7 : Int32} {l8 : Int32} {l9 : Int32} {σ : ST} (h_σ : LQ u w σ) : LQ u w (fX12_join_0b116 K25 K41 K56 K95 K107 l2 l3 l4 l5 l6 l7 l8 l9 σ) := by
  unfold fX12_join_0b116
  refine lqbd fun v124 _ => ?_
  exact lqite (lqb_fX12_join_0b130 hK25 hK41 hK56 hK95 hK107 h_σ) (lqb_fX12_join_0b158 hK25 hK41 hK56 hK95 hK107 h_σ)
theorem lqb_fX12_join_0b107 {u w : Int64} {K25 : Int32 → ST → ST} (hK25 : ∀ (q0 : Int32) (τ : ST), LQ u w τ → LQ u w (K25 q0 τ)) {K41 : Int32 → Int32 → Int32 → Int32 → ST → ST} (hK41 : ∀ (q0 : Int32) (q1 : Int32) (q2 : Int32) (q3 : Int32) (τ : ST), LQ u w τ → LQ u w (K41 q0 q1 q2 q3 τ)) {K56 : Int32 → Int32 → Int32 → Int32 → Int32 → ST → ST} (hK56 : ∀ (q0 : Int32) (q1 : Int32) (q2 : Int32) (q3 : Int32) (q4 : Int32) (τ : ST), LQ u w τ → LQ u w (K56 q0 q1 q2 q3 q4 τ)) {K95 : Int32 → Int32 → Int32 → Int32 → Int32 → Int32 → Int32 → ST → ST} (hK95 : ∀ (q0 : Int32) (q1 : Int32) (q2 : Int32) (q3 : Int32) (q4 : Int32) (q5 : Int32) (q6 : Int32) (τ : ST), LQ u w τ → LQ u w (K95 q0 q1 q2 q3 q4 q5 q6 τ)) {K107 : Int32 → Int32 → Int32 → Int32 → Int32 → Int32 → Int32 → Int32 → ST → ST} (hK107 : ∀ (q0 : Int32) (q1 : Int32) (q2 : Int32) (q3 : Int32) (q4 : Int32) (q5 : Int32) (q6 : Int32) (q7 : Int32) (τ : ST), LQ u w τ → LQ u w (K107 q0 q1 q2 q3 q4 q5 q6 q7 τ)) {l2 : Int32} {l3 : Int32} {l4 : Int32} {l5 : Int32} {l6 : Int32} {l7 : Int32} {l8 : Int32} {l9 : Int32} {σ : ST} (h_σ : LQ u w σ) : LQ u w (fX12_join_0b107 K25 K41 K56 K95 K107 l2 l3 l4 l5 l6 l7 l8 l9 σ) := by
  unfold fX12_join_0b107
  refine lqbd fun v110 _ => ?_
  exact lqite (lqb_fX12_join_0b168 hK25 hK41 hK56 hK95 h_σ) (lqb_fX12_join_0b116 hK25 hK41 hK56 hK95 hK107 h_σ)
theorem lqb_fX12_join_0l107 {u w : Int64} {K25 : Int32 → ST → ST} (hK25 : ∀ (q0 : Int32) (τ : ST), LQ u w τ → LQ u w (K25 q0 τ)) {K41 : Int32 → Int32 → Int32 → Int32 → ST → ST} (hK41 : ∀ (q0 : Int32) (q1 : Int32) (q2 : Int32) (q3 : Int32) (τ : ST), LQ u w τ → LQ u w (K41 q0 q1 q2 q3 τ)) {K56 : Int32 → Int32 → Int32 → Int32 → Int32 → ST → ST} (hK56 : ∀ (q0 : Int32) (q1 : Int32) (q2 : Int32) (q3 : Int32) (q4 : Int32) (τ : ST), LQ u w τ → LQ u w (K56 q0 q1 q2 q3 q4 τ)) {K95 : Int32 → Int32 → Int32 → Int32 → Int32 → Int32 → Int32 → ST → ST} (hK95 : ∀ (q0 : Int32) (q1 : Int32) (q2 : Int32) (q3 : Int32) (q4 : Int32) (q5 : Int32) (q6 : Int32) (τ : ST), LQ u w τ → LQ u w (K95 q0 q1 q2 q3 q4 q5 q6 τ)) : ∀ (fu : Nat) {q0 : Int32} {q1 : Int32} {q2 : Int32} {q3 : Int32} {q4 : Int32} {q5 : Int32} {q6 : Int32} {q7 : Int32} {τ : ST} (h : LQ u w τ), LQ u w (fX12_join_0l107 K25 K41 K56 K95 fu q0 q1 q2 q3 q4 q5 q6 q7 τ)
  | 0, _, _, _, _, _, _, _, _, _, h => h
  | fu + 1, _, _, _, _, _, _, _, _, _, h => lqb_fX12_join_0b107 hK25 hK41 hK56 hK95 (fun _ _ _ _ _ _ _ _ _ q => lqb_fX12_join_0l107 hK25 hK41 hK56 hK95 fu q) h
theorem lqb_fX12_join_0b104 {u w : Int64} {K25 : Int32 → ST → ST} (hK25 : ∀ (q0 : Int32) (τ : ST), LQ u w τ → LQ u w (K25 q0 τ)) {K41 : Int32 → Int32 → Int32 → Int32 → ST → ST} (hK41 : ∀ (q0 : Int32) (q1 : Int32) (q2 : Int32) (q3 : Int32) (τ : ST), LQ u w τ → LQ u w (K41 q0 q1 q2 q3 τ)) {K56 : Int32 → Int32 → Int32 → Int32 → Int32 → ST → ST} (hK56 : ∀ (q0 : Int32) (q1 : Int32) (q2 : Int32) (q3 : Int32) (q4 : Int32) (τ : ST), LQ u w τ → LQ u w (K56 q0 q1 q2 q3 q4 τ)) {K95 : Int32 → Int32 → Int32 → Int32 → Int32 → Int32 → Int32 → ST → ST} (hK95 : ∀ (q0 : Int32) (q1 : Int32) (q2 : Int32) (q3 : Int32) (q4 : Int32) (q5 : Int32) (q6 : Int32) (τ : ST), LQ u w τ → LQ u w (K95 q0 q1 q2 q3 q4 q5 q6 τ)) {l2 : Int32} {l3 : Int32} {l4 : Int32} {l5 : Int32} {l6 : Int32} {l7 : Int32} {l8 : Int32} {σ : ST} (h_σ : LQ u w σ) : LQ u w (fX12_join_0b104 K25 K41 K56 K95 l2 l3 l4 l5 l6 l7 l8 σ) := by
  unfold fX12_join_0b104
  exact lqb_fX12_join_0l107 hK25 hK41 hK56 hK95 _ h_σ
theorem lqb_fX12_join_0b95 {u w : Int64} {K25 : Int32 → ST → ST} (hK25 : ∀ (q0 : Int32) (τ : ST), LQ u w τ → LQ u w (K25 q0 τ)) {K41 : Int32 → Int32 → Int32 → Int32 → ST → ST} (hK41 : ∀ (q0 : Int32) (q1 : Int32) (q2 : Int32) (q3 : Int32) (τ : ST), LQ u w τ → LQ u w (K41 q0 q1 q2 q3 τ)) {K56 : Int32 → Int32 → Int32 → Int32 → Int32 → ST → ST} (hK56 : ∀ (q0 : Int32) (q1 : Int32) (q2 : Int32) (q3 : Int32) (q4 : Int32) (τ : ST), LQ u w τ → LQ u w (K56 q0 q1 q2 q3 q4 τ)) {K95 : Int32 → Int32 → Int32 → Int32 → Int32 → Int32 → Int32 → ST → ST} (hK95 : ∀ (q0 : Int32) (q1 : Int32) (q2 : Int32) (q3 : Int32) (q4 : Int32) (q5 : Int32) (q6 : Int32) (τ : ST), LQ u w τ → LQ u w (K95 q0 q1 q2 q3 q4 q5 q6 τ)) {l2 : Int32} {l3 : Int32} {l4 : Int32} {l5 : Int32} {l6 : Int32} {l7 : Int32} {l8 : Int32} {σ : ST} (h_σ : LQ u w σ) : LQ u w (fX12_join_0b95 K25 K41 K56 K95 l2 l3 l4 l5 l6 l7 l8 σ) := by
  unfold fX12_join_0b95
  refine lqbd fun v98 _ => ?_
  exact lqite (lqb_fX12_join_0b174 hK25 hK41 hK56 h_σ) (lqb_fX12_join_0b104 hK25 hK41 hK56 hK95 h_σ)
theorem lqb_fX12_join_0l95 {u w : Int64} {K25 : Int32 → ST → ST} (hK25 : ∀ (q0 : Int32) (τ : ST), LQ u w τ → LQ u w (K25 q0 τ)) {K41 : Int32 → Int32 → Int32 → Int32 → ST → ST} (hK41 : ∀ (q0 : Int32) (q1 : Int32) (q2 : Int32) (q3 : Int32) (τ : ST), LQ u w τ → LQ u w (K41 q0 q1 q2 q3 τ)) {K56 : Int32 → Int32 → Int32 → Int32 → Int32 → ST → ST} (hK56 : ∀ (q0 : Int32) (q1 : Int32) (q2 : Int32) (q3 : Int32) (q4 : Int32) (τ : ST), LQ u w τ → LQ u w (K56 q0 q1 q2 q3 q4 τ)) : ∀ (fu : Nat) {q0 : Int32} {q1 : Int32} {q2 : Int32} {q3 : Int32} {q4 : Int32} {q5 : Int32} {q6 : Int32} {τ : ST} (h : LQ u w τ), LQ u w (fX12_join_0l95 K25 K41 K56 fu q0 q1 q2 q3 q4 q5 q6 τ)
  | 0, _, _, _, _, _, _, _, _, h => h
  | fu + 1, _, _, _, _, _, _, _, _, h => lqb_fX12_join_0b95 hK25 hK41 hK56 (fun _ _ _ _ _ _ _ _ q => lqb_fX12_join_0l95 hK25 hK41 hK56 fu q) h
theorem lqb_fX12_join_0b89 {u w : Int64} {K25 : Int32 → ST → ST} (hK25 : ∀ (q0 : Int32) (τ : ST), LQ u w τ → LQ u w (K25 q0 τ)) {K41 : Int32 → Int32 → Int32 → Int32 → ST → ST} (hK41 : ∀ (q0 : Int32) (q1 : Int32) (q2 : Int32) (q3 : Int32) (τ : ST), LQ u w τ → LQ u w (K41 q0 q1 q2 q3 τ)) {K56 : Int32 → Int32 → Int32 → Int32 → Int32 → ST → ST} (hK56 : ∀ (q0 : Int32) (q1 : Int32) (q2 : Int32) (q3 : Int32) (q4 : Int32) (τ : ST), LQ u w τ → LQ u w (K56 q0 q1 q2 q3 q4 τ)) {l2 : Int32} {l3 : Int32} {l4 : Int32} {l5 : Int32} {l6 : Int32} {σ : ST} (h_σ : LQ u w σ) : LQ u w (fX12_join_0b89 K25 K41 K56 l2 l3 l4 l5 l6 σ) := by
  unfold fX12_join_0b89
  exact lqb_fX12_join_0l95 hK25 hK41 hK56 _ h_σ
theorem lqb_fX12_join_0b77 {u w : Int64} {K25 : Int32 → ST → ST} (hK25 : ∀ (q0 : Int32) (τ : ST), LQ u w τ → LQ u w (K25 q0 τ)) {K41 : Int32 → Int32 → Int32 → Int32 → ST → ST} (hK41 : ∀ (q0 : Int32) (q1 : Int32) (q2 : Int32) (q3 : Int32) (τ : ST), LQ u w τ → LQ u w (K41 q0 q1 q2 q3 τ)) {K56 : Int32 → Int32 → Int32 → Int32 → Int32 → ST → ST} (hK56 : ∀ (q0 : Int32) (q1 : Int32) (q2 : Int32) (q3 : Int32) (q4 : Int32) (τ : ST), LQ u w τ → LQ u w (K56 q0 q1 q2 q3 q4 τ)) {l2 : Int32} {l3 : Int32} {l4 : Int32} {l5 : Int32} {l6 : Int32} {σ : ST} (h_σ : LQ u w σ) : LQ u w (fX12_join_0b77 K25 K41 K56 l2 l3 l4 l5 l6 σ) := by
  unfold fX12_join_0b77
  refine lqbd fun v83 _ => ?_
  exact lqite (lqb_fX12_join_0b89 hK25 hK41 hK56 h_σ) (lqb_fX12_join_0b191 hK25 hK41 hK56 h_σ)
theorem lqb_fX12_join_0b65 {u w : Int64} {K25 : Int32 → ST → ST} (hK25 : ∀ (q0 : Int32) (τ : ST), LQ u w τ → LQ u w (K25 q0 τ)) {K41 : Int32 → Int32 → Int32 → Int32 → ST → ST} (hK41 : ∀ (q0 : Int32) (q1 : Int32) (q2 : Int32) (q3 : Int32) (τ : ST), LQ u w τ → LQ u w (K41 q0 q1 q2 q3 τ)) {K56 : Int32 → Int32 → Int32 → Int32 → Int32 → ST → ST} (hK56 : ∀ (q0 : Int32) (q1 : Int32) (q2 : Int32) (q3 : Int32) (q4 : Int32) (τ : ST), LQ u w τ → LQ u w (K56 q0 q1 q2 q3 q4 τ)) {l2 : Int32} {l3 : Int32} {l4 : Int32} {l5 : Int32} {l6 : Int32} {σ : ST} (h_σ : LQ u w σ) : LQ u w (fX12_join_0b65 K25 K41 K56 l2 l3 l4 l5 l6 σ) := by
  unfold fX12_join_0b65
  refine lqbd fun v71 _ => ?_
  exact lqite (lqb_fX12_join_0b77 hK25 hK41 hK56 h_σ) (lqb_fX12_join_0b191 hK25 hK41 hK56 h_σ)
theorem lqb_fX12_join_0b56 {u w : Int64} {K25 : Int32 → ST → ST} (hK25 : ∀ (q0 : Int32) (τ : ST), LQ u w τ → LQ u w (K25 q0 τ)) {K41 : Int32 → Int32 → Int32 → Int32 → ST → ST} (hK41 : ∀ (q0 : Int32) (q1 : Int32) (q2 : Int32) (q3 : Int32) (τ : ST), LQ u w τ → LQ u w (K41 q0 q1 q2 q3 τ)) {K56 : Int32 → Int32 → Int32 → Int32 → Int32 → ST → ST} (hK56 : ∀ (q0 : Int32) (q1 : Int32) (q2 : Int32) (q3 : Int32) (q4 : Int32) (τ : ST), LQ u w τ → LQ u w (K56 q0 q1 q2 q3 q4 τ)) {l2 : Int32} {l3 : Int32} {l4 : Int32} {l5 : Int32} {l6 : Int32} {σ : ST} (h_σ : LQ u w σ) : LQ u w (fX12_join_0b56 K25 K41 K56 l2 l3 l4 l5 l6 σ) := by
  unfold fX12_join_0b56
  refine lqbd fun v59 _ => ?_
  exact lqite (lqb_fX12_join_0b197 hK25 hK41 h_σ) (lqb_fX12_join_0b65 hK25 hK41 hK56 h_σ)
theorem lqb_fX12_join_0l56 {u w : Int64} {K25 : Int32 → ST → ST} (hK25 : ∀ (q0 : Int32) (τ : ST), LQ u w τ → LQ u w (K25 q0 τ)) {K41 : Int32 → Int32 → Int32 → Int32 → ST → ST} (hK41 : ∀ (q0 : Int32) (q1 : Int32) (q2 : Int32) (q3 : Int32) (τ : ST), LQ u w τ → LQ u w (K41 q0 q1 q2 q3 τ)) : ∀ (fu : Nat) {q0 : Int32} {q1 : Int32} {q2 : Int32} {q3 : Int32} {q4 : Int32} {τ : ST} (h : LQ u w τ), LQ u w (fX12_join_0l56 K25 K41 fu q0 q1 q2 q3 q4 τ)
  | 0, _, _, _, _, _, _, h => h
  | fu + 1, _, _, _, _, _, _, h => lqb_fX12_join_0b56 hK25 hK41 (fun _ _ _ _ _ _ q => lqb_fX12_join_0l56 hK25 hK41 fu q) h
theorem lqb_fX12_join_0b50 {u w : Int64} {K25 : Int32 → ST → ST} (hK25 : ∀ (q0 : Int32) (τ : ST), LQ u w τ → LQ u w (K25 q0 τ)) {K41 : Int32 → Int32 → Int32 → Int32 → ST → ST} (hK41 : ∀ (q0 : Int32) (q1 : Int32) (q2 : Int32) (q3 : Int32) (τ : ST), LQ u w τ → LQ u w (K41 q0 q1 q2 q3 τ)) {l2 : Int32} {l3 : Int32} {l4 : Int32} {l5 : Int32} {σ : ST} (h_σ : LQ u w σ) : LQ u w (fX12_join_0b50 K25 K41 l2 l3 l4 l5 σ) := by
  unfold fX12_join_0b50
  refine lqbd fun v53 _ => ?_
  exact lqb_fX12_join_0l56 hK25 hK41 _ h_σ
theorem lqb_fX12_join_0b41 {u w : Int64} {K25 : Int32 → ST → ST} (hK25 : ∀ (q0 : Int32) (τ : ST), LQ u w τ → LQ u w (K25 q0 τ)) {K41 : Int32 → Int32 → Int32 → Int32 → ST → ST} (hK41 : ∀ (q0 : Int32) (q1 : Int32) (q2 : Int32) (q3 : Int32) (τ : ST), LQ u w τ → LQ u w (K41 q0 q1 q2 q3 τ)) {l2 : Int32} {l3 : Int32} {l4 : Int32} {l5 : Int32} {σ : ST} (h_σ : LQ u w σ) : LQ u w (fX12_join_0b41 K25 K41 l2 l3 l4 l5 σ) := by
  unfold fX12_join_0b41
  refine lqbd fun v44 _ => ?_
  exact lqite (lqb_fX12_join_0b203 hK25 h_σ) (lqb_fX12_join_0b50 hK25 hK41 h_σ)
theorem lqb_fX12_join_0l41 {u w : Int64} {K25 : Int32 → ST → ST} (hK25 : ∀ (q0 : Int32) (τ : ST), LQ u w τ → LQ u w (K25 q0 τ)) : ∀ (fu : Nat) {q0 : Int32} {q1 : Int32} {q2 : Int32} {q3 : Int32} {τ : ST} (h : LQ u w τ), LQ u w (fX12_join_0l41 K25 fu q0 q1 q2 q3 τ)
  | 0, _, _, _, _, _, h => h
  | fu + 1, _, _, _, _, _, h => lqb_fX12_join_0b41 hK25 (fun _ _ _ _ _ q => lqb_fX12_join_0l41 hK25 fu q) h
theorem lqb_fX12_join_0b29 {u w : Int64} {K25 : Int32 → ST → ST} (hK25 : ∀ (q0 : Int32) (τ : ST), LQ u w τ → LQ u w (K25 q0 τ)) {σ : ST} (h_σ : LQ u w σ) : LQ u w (fX12_join_0b29 K25 σ) := by
  unfold fX12_join_0b29
  exact lqb_fX12_join_0l41 hK25 _ h_σ
theorem lqb_fX12_join_0b25 {u w : Int64} {K25 : Int32 → ST → ST} (hK25 : ∀ (q0 : Int32) (τ : ST), LQ u w τ → LQ u w (K25 q0 τ)) {l1 : Int32} {σ : ST} (h_σ : LQ u w σ) : LQ u w (fX12_join_0b25 K25 l1 σ) := by
  unfold fX12_join_0b25
  exact lqite (lqb_fX12_join_0b269  h_σ) (lqb_fX12_join_0b29 hK25 h_σ)
theorem lqb_fX12_join_0l25 {u w : Int64}  : ∀ (fu : Nat) {q0 : Int32} {τ : ST} (h : LQ u w τ), LQ u w (fX12_join_0l25 fu q0 τ)
  | 0, _, _, h => h
  | fu + 1, _, _, h => lqb_fX12_join_0b25 (fun _ _ q => lqb_fX12_join_0l25  fu q) h
theorem lqb_fX12_join_0b23 {u w : Int64}  {σ : ST} (h_σ : LQ u w σ) : LQ u w (fX12_join_0b23 σ) := by
  unfold fX12_join_0b23
  exact lqb_fX12_join_0l25  _ h_σ
theorem lqb_fX12_join_0b10 {u w : Int64} {K2 : Int32 → ST → ST} (hK2 : ∀ (q0 : Int32) (τ : ST), LQ u w τ → LQ u w (K2 q0 τ)) {l1 : Int32} {σ : ST} (h_σ : LQ u w σ) : LQ u w (fX12_join_0b10 K2 l1 σ) := by
  unfold fX12_join_0b10
  refine lqbd fun s16 e_s16 => ?_
  have h_s16 : LQ u w s16 := by rw [e_s16]; exact h_σ
  refine lqbd fun v17 _ => ?_
  exact hK2 _ _ h_s16
theorem lqb_fX12_join_0b2 {u w : Int64} {K2 : Int32 → ST → ST} (hK2 : ∀ (q0 : Int32) (τ : ST), LQ u w τ → LQ u w (K2 q0 τ)) {l1 : Int32} {σ : ST} (h_σ : LQ u w σ) : LQ u w (fX12_join_0b2 K2 l1 σ) := by
  unfold fX12_join_0b2
  refine lqbd fun v4 _ => ?_
  exact lqite (lqb_fX12_join_0b23  h_σ) (lqb_fX12_join_0b10 hK2 h_σ)
theorem lqb_fX12_join_0l2 {u w : Int64}  : ∀ (fu : Nat) {q0 : Int32} {τ : ST} (h : LQ u w τ), LQ u w (fX12_join_0l2 fu q0 τ)
  | 0, _, _, h => h
  | fu + 1, _, _, h => lqb_fX12_join_0b2 (fun _ _ q => lqb_fX12_join_0l2  fu q) h
theorem lqb_fX12_join_0b0 {u w : Int64}  {σ : ST} (h_σ : LQ u w σ) : LQ u w (fX12_join_0b0 σ) := by
  unfold fX12_join_0b0
  exact lqb_fX12_join_0l2  _ h_σ
theorem lq_fX12_join_0 {u w : Int64} {σ : ST} (h : LQ u w σ) : LQ u w (fX12_join_0 σ) := lqb_fX12_join_0b0 h
theorem lqb_fX12_heap_0b21 {u w : Int64}  {σ : ST} (h_σ : LQ u w σ) : LQP u w (fX12_heap_0b21 σ) := by
  unfold fX12_heap_0b21
  exact h_σ
theorem lqb_fX12_heap_0b56 {u w : Int64}  {t0 : Int32} {σ : ST} (h_σ : LQ u w σ) : LQP u w (fX12_heap_0b56 t0 σ) := by
  unfold fX12_heap_0b56
  exact h_σ
theorem lqb_fX12_heap_0b50 {u w : Int64}  {l1 : Int32} {σ : ST} (h_σ : LQ u w σ) : LQP u w (fX12_heap_0b50 l1 σ) := by
  unfold fX12_heap_0b50
  refine lqbd2 fun v55 _ => ?_
  exact lqb_fX12_heap_0b56  h_σ
theorem lqb_fX12_heap_0b41 {u w : Int64}  {l1 : Int32} {σ : ST} (h_σ : LQ u w σ) : LQP u w (fX12_heap_0b41 l1 σ) := by
  unfold fX12_heap_0b41
  refine lqbd2 fun v46 _ => ?_
  exact lqb_fX12_heap_0b56  h_σ
theorem lqb_fX12_heap_0b33 {u w : Int64}  {l1 : Int32} {l2 : Int32} {σ : ST} (h_σ : LQ u w σ) : LQP u w (fX12_heap_0b33 l1 l2 σ) := by
  unfold fX12_heap_0b33
  refine lqbd2 fun s34 e_s34 => ?_
  have h_s34 : LQ u w s34 := by rw [e_s34]; exact lq_fX12_join_0 h_σ
  exact lqite2 (lqb_fX12_heap_0b41  h_s34) (lqb_fX12_heap_0b50  h_s34)
theorem lqb_fX12_heap_0b30 {u w : Int64}  {σ : ST} (h_σ : LQ u w σ) : LQP u w (fX12_heap_0b30 σ) := by
  unfold fX12_heap_0b30
  exact h_σ
theorem lqb_fX12_heap_0b23 {u w : Int64}  {l1 : Int32} {l2 : Int32} {σ : ST} (h_σ : LQ u w σ) : LQP u w (fX12_heap_0b23 l1 l2 σ) := by
  unfold fX12_heap_0b23
  refine lqbp2 fun v24 s24 e_s24 => ?_
  have h_s24 : LQ u w s24 := by rw [← e_s24]; exact lq_fX12_findBest_0 h_σ
  exact lqite2 (lqb_fX12_heap_0b30  h_s24) (lqb_fX12_heap_0b33  h_s24)
theorem lqb_fX12_heap_0b12 {u w : Int64}  {l1 : Int32} {l2 : Int32} {σ : ST} (h_σ : LQ u w σ) : LQP u w (fX12_heap_0b12 l1 l2 σ) := by
  unfold fX12_heap_0b12
  refine lqbd2 fun v15 _ => ?_
  exact lqite2 (lqb_fX12_heap_0b21  h_σ) (lqb_fX12_heap_0b23  h_σ)
theorem lqb_fX12_heap_0b0 {u w : Int64}  {l1 : Int32} {l2 : Int32} {σ : ST} (h_σ : LQ u w σ) : LQP u w (fX12_heap_0b0 l1 l2 σ) := by
  unfold fX12_heap_0b0
  refine lqbd2 fun s1 e_s1 => ?_
  have h_s1 : LQ u w s1 := by rw [e_s1]; exact lq_fX12_findPieces_0 h_σ
  refine lqbd2 fun v6 _ => ?_
  exact lqite2 (lqb_fX12_heap_0b21  h_s1) (lqb_fX12_heap_0b12  h_s1)
theorem lq_fX12_heap_0 {u w : Int64} {p1 : Int32} {p2 : Int32} {σ : ST} (h : LQ u w σ) : LQ u w (fX12_heap_0 p1 p2 σ).2 := lqb_fX12_heap_0b0 h
theorem lqb_fX12_worth_0b16 {u w : Int64}  {σ : ST} (h_σ : LQ u w σ) : LQP u w (fX12_worth_0b16 σ) := by
  unfold fX12_worth_0b16
  exact h_σ
theorem lqb_fX12_worth_0b42 {u w : Int64}  {t0 : Int32} {σ : ST} (h_σ : LQ u w σ) : LQP u w (fX12_worth_0b42 t0 σ) := by
  unfold fX12_worth_0b42
  exact h_σ
theorem lqb_fX12_worth_0b34 {u w : Int64}  {σ : ST} (h_σ : LQ u w σ) : LQP u w (fX12_worth_0b34 σ) := by
  unfold fX12_worth_0b34
  refine lqbd2 fun v39 _ => ?_
  exact lqb_fX12_worth_0b42  h_σ
theorem lqb_fX12_worth_0b27 {u w : Int64}  {σ : ST} (h_σ : LQ u w σ) : LQP u w (fX12_worth_0b27 σ) := by
  unfold fX12_worth_0b27
  refine lqbd2 fun v28 _ => ?_
  exact lqb_fX12_worth_0b42  h_σ
theorem lqb_fX12_worth_0b19 {u w : Int64}  {l1 : Int32} {σ : ST} (h_σ : LQ u w σ) : LQP u w (fX12_worth_0b19 l1 σ) := by
  unfold fX12_worth_0b19
  refine lqbd2 fun s20 e_s20 => ?_
  have h_s20 : LQ u w s20 := by rw [e_s20]; exact lq_fX12_join_0 h_σ
  exact lqite2 (lqb_fX12_worth_0b27  h_s20) (lqb_fX12_worth_0b34  h_s20)
theorem lqb_fX12_worth_0b9 {u w : Int64}  {l1 : Int32} {σ : ST} (h_σ : LQ u w σ) : LQP u w (fX12_worth_0b9 l1 σ) := by
  unfold fX12_worth_0b9
  refine lqbp2 fun v10 s10 e_s10 => ?_
  have h_s10 : LQ u w s10 := by rw [← e_s10]; exact lq_fX12_findBest_0 h_σ
  exact lqite2 (lqb_fX12_worth_0b16  h_s10) (lqb_fX12_worth_0b19  h_s10)
theorem lqb_fX12_worth_0b0 {u w : Int64}  {l1 : Int32} {σ : ST} (h_σ : LQ u w σ) : LQP u w (fX12_worth_0b0 l1 σ) := by
  unfold fX12_worth_0b0
  refine lqbd2 fun v3 _ => ?_
  exact lqite2 (lqb_fX12_worth_0b16  h_σ) (lqb_fX12_worth_0b9  h_σ)
theorem lq_fX12_worth_0 {u w : Int64} {p1 : Int32} {σ : ST} (h : LQ u w σ) : LQ u w (fX12_worth_0 p1 σ).2 := lqb_fX12_worth_0b0 h
theorem lqb_fX12_near_0b176 {u w : Int64}  {t0 : Int32} {σ : ST} (h_σ : LQ u w σ) : LQP u w (fX12_near_0b176 t0 σ) := by
  unfold fX12_near_0b176
  exact h_σ
theorem lqb_fX12_near_0b174 {u w : Int64}  {l4 : Int32} {σ : ST} (h_σ : LQ u w σ) : LQP u w (fX12_near_0b174 l4 σ) := by
  unfold fX12_near_0b174
  exact lqb_fX12_near_0b176  h_σ
theorem lqb_fX12_near_0b170 {u w : Int64}  {l3 : Int32} {σ : ST} (h_σ : LQ u w σ) : LQP u w (fX12_near_0b170 l3 σ) := by
  unfold fX12_near_0b170
  exact lqb_fX12_near_0b176  h_σ
theorem lqb_fX12_near_0b165 {u w : Int64}  {l1 : Int32} {l3 : Int32} {l4 : Int32} {σ : ST} (h_σ : LQ u w σ) : LQP u w (fX12_near_0b165 l1 l3 l4 σ) := by
  unfold fX12_near_0b165
  exact lqite2 (lqb_fX12_near_0b170  h_σ) (lqb_fX12_near_0b174  h_σ)
theorem lqb_fX12_near_0b161 {u w : Int64}  {l2 : Int32} {σ : ST} (h_σ : LQ u w σ) : LQP u w (fX12_near_0b161 l2 σ) := by
  unfold fX12_near_0b161
  exact lqb_fX12_near_0b176  h_σ
theorem lqb_fX12_near_0b157 {u w : Int64}  {l1 : Int32} {l2 : Int32} {l3 : Int32} {l4 : Int32} {σ : ST} (h_σ : LQ u w σ) : LQP u w (fX12_near_0b157 l1 l2 l3 l4 σ) := by
  unfold fX12_near_0b157
  exact lqite2 (lqb_fX12_near_0b161  h_σ) (lqb_fX12_near_0b165  h_σ)
theorem lqb_fX12_near_0b148 {u w : Int64} {K76 : Int32 → Int32 → Int32 → Int32 → Int32 → ST → (Int32 × ST)} (hK76 : ∀ (q0 : Int32) (q1 : Int32) (q2 : Int32) (q3 : Int32) (q4 : Int32) (τ : ST), LQ u w τ → LQP u w (K76 q0 q1 q2 q3 q4 τ)) {l1 : Int32} {l2 : Int32} {l3 : Int32} {l4 : Int32} {σ : ST} (h_σ : LQ u w σ) : LQP u w (fX12_near_0b148 K76 l1 l2 l3 l4 σ) := by
  unfold fX12_near_0b148
  refine lqbp2 fun v149 s149 e_s149 => ?_
  have h_s149 : LQ u w s149 := by rw [← e_s149]; exact lq_fX12_goOn_0 h_σ
  exact hK76 _ _ _ _ _ _ h_s149
theorem lqb_fX12_near_0b146 {u w : Int64} {K76 : Int32 → Int32 → Int32 → Int32 → Int32 → ST → (Int32 × ST)} (hK76 : ∀ (q0 : Int32) (q1 : Int32) (q2 : Int32) (q3 : Int32) (q4 : Int32) (τ : ST), LQ u w τ → LQP u w (K76 q0 q1 q2 q3 q4 τ)) {l1 : Int32} {l2 : Int32} {l3 : Int32} {t0 : Int32} {σ : ST} (h_σ : LQ u w σ) : LQP u w (fX12_near_0b146 K76 l1 l2 l3 t0 σ) := by
  unfold fX12_near_0b146
  exact lqb_fX12_near_0b148 hK76 h_σ
theorem lqb_fX12_near_0b144 {u w : Int64} {K76 : Int32 → Int32 → Int32 → Int32 → Int32 → ST → (Int32 × ST)} (hK76 : ∀ (q0 : Int32) (q1 : Int32) (q2 : Int32) (q3 : Int32) (q4 : Int32) (τ : ST), LQ u w τ → LQP u w (K76 q0 q1 q2 q3 q4 τ)) {l1 : Int32} {l2 : Int32} {l3 : Int32} {l4 : Int32} {σ : ST} (h_σ : LQ u w σ) : LQP u w (fX12_near_0b144 K76 l1 l2 l3 l4 σ) := by
  unfold fX12_near_0b144
  exact lqb_fX12_near_0b146 hK76 h_σ
theorem lqb_fX12_near_0b139 {u w : Int64} {K76 : Int32 → Int32 → Int32 → Int32 → Int32 → ST → (Int32 × ST)} (hK76 : ∀ (q0 : Int32) (q1 : Int32) (q2 : Int32) (q3 : Int32) (q4 : Int32) (τ : ST), LQ u w τ → LQP u w (K76 q0 q1 q2 q3 q4 τ)) {l1 : Int32} {l2 : Int32} {l3 : Int32} {l6 : Int32} {σ : ST} (h_σ : LQ u w σ) : LQP u w (fX12_near_0b139 K76 l1 l2 l3 l6 σ) := by
  unfold fX12_near_0b139
  exact lqb_fX12_near_0b146 hK76 h_σ
theorem lqb_fX12_near_0b131 {u w : Int64} {K76 : Int32 → Int32 → Int32 → Int32 → Int32 → ST → (Int32 × ST)} (hK76 : ∀ (q0 : Int32) (q1 : Int32) (q2 : Int32) (q3 : Int32) (q4 : Int32) (τ : ST), LQ u w τ → LQP u w (K76 q0 q1 q2 q3 q4 τ)) {l1 : Int32} {l2 : Int32} {l4 : Int32} {l6 : Int32} {t0 : Int32} {σ : ST} (h_σ : LQ u w σ) : LQP u w (fX12_near_0b131 K76 l1 l2 l4 l6 t0 σ) := by
  unfold fX12_near_0b131
  exact lqite2 (lqb_fX12_near_0b144 hK76 h_σ) (lqb_fX12_near_0b139 hK76 h_σ)
theorem lqb_fX12_near_0b130 {u w : Int64} {K76 : Int32 → Int32 → Int32 → Int32 → Int32 → ST → (Int32 × ST)} (hK76 : ∀ (q0 : Int32) (q1 : Int32) (q2 : Int32) (q3 : Int32) (q4 : Int32) (τ : ST), LQ u w τ → LQP u w (K76 q0 q1 q2 q3 q4 τ)) {l1 : Int32} {l2 : Int32} {l3 : Int32} {l4 : Int32} {l6 : Int32} {σ : ST} (h_σ : LQ u w σ) : LQP u w (fX12_near_0b130 K76 l1 l2 l3 l4 l6 σ) := by
  unfold fX12_near_0b130
  exact lqb_fX12_near_0b131 hK76 h_σ
theorem lqb_fX12_near_0b125 {u w : Int64} {K76 : Int32 → Int32 → Int32 → Int32 → Int32 → ST → (Int32 × ST)} (hK76 : ∀ (q0 : Int32) (q1 : Int32) (q2 : Int32) (q3 : Int32) (q4 : Int32) (τ : ST), LQ u w τ → LQP u w (K76 q0 q1 q2 q3 q4 τ)) {l1 : Int32} {l2 : Int32} {l4 : Int32} {l6 : Int32} {σ : ST} (h_σ : LQ u w σ) : LQP u w (fX12_near_0b125 K76 l1 l2 l4 l6 σ) := by
  unfold fX12_near_0b125
  exact lqb_fX12_near_0b131 hK76 h_σ
theorem lqb_fX12_near_0b103 {u w : Int64} {K76 : Int32 → Int32 → Int32 → Int32 → Int32 → ST → (Int32 × ST)} (hK76 : ∀ (q0 : Int32) (q1 : Int32) (q2 : Int32) (q3 : Int32) (q4 : Int32) (τ : ST), LQ u w τ → LQP u w (K76 q0 q1 q2 q3 q4 τ)) {l1 : Int32} {l2 : Int32} {l3 : Int32} {l4 : Int32} {σ : ST} (h_σ : LQ u w σ) : LQP u w (fX12_near_0b103 K76 l1 l2 l3 l4 σ) := by
  unfold fX12_near_0b103
  refine lqbd2 fun v108 _ => ?_
  refine lqbd2 fun v111 _ => ?_
  refine lqbd2 fun v116 _ => ?_
  exact lqite2 (lqb_fX12_near_0b130 hK76 h_σ) (lqb_fX12_near_0b125 hK76 h_σ)
theorem lqb_fX12_near_0b81 {u w : Int64} {K76 : Int32 → Int32 → Int32 → Int32 → Int32 → ST → (Int32 × ST)} (hK76 : ∀ (q0 : Int32) (q1 : Int32) (q2 : Int32) (q3 : Int32) (q4 : Int32) (τ : ST), LQ u w τ → LQP u w (K76 q0 q1 q2 q3 q4 τ)) {l1 : Int32} {l2 : Int32} {l3 : Int32} {l4 : Int32} {σ : ST} (h_σ : LQ u w σ) : LQP u w (fX12_near_0b81 K76 l1 l2 l3 l4 σ) := by
  unfold fX12_near_0b81
  refine lqbd2 fun v86 _ => ?_
  refine lqbd2 fun v90 _ => ?_
  refine lqbd2 fun v98 _ => ?_
  refine lqbd2 fun v99 _ => ?_
  exact lqite2 (lqb_fX12_near_0b148 hK76 h_σ) (lqb_fX12_near_0b103 hK76 h_σ)
theorem lqb_fX12_near_0b76 {u w : Int64} {K76 : Int32 → Int32 → Int32 → Int32 → Int32 → ST → (Int32 × ST)} (hK76 : ∀ (q0 : Int32) (q1 : Int32) (q2 : Int32) (q3 : Int32) (q4 : Int32) (τ : ST), LQ u w τ → LQP u w (K76 q0 q1 q2 q3 q4 τ)) {l1 : Int32} {l2 : Int32} {l3 : Int32} {l4 : Int32} {l5 : Int32} {σ : ST} (h_σ : LQ u w σ) : LQP u w (fX12_near_0b76 K76 l1 l2 l3 l4 l5 σ) := by
  unfold fX12_near_0b76
  exact lqite2 (lqb_fX12_near_0b157  h_σ) (lqb_fX12_near_0b81 hK76 h_σ)
theorem lqb_fX12_near_0l76 {u w : Int64}  : ∀ (fu : Nat) {q0 : Int32} {q1 : Int32} {q2 : Int32} {q3 : Int32} {q4 : Int32} {τ : ST} (h : LQ u w τ), LQP u w (fX12_near_0l76 fu q0 q1 q2 q3 q4 τ)
  | 0, _, _, _, _, _, _, h => h
  | fu + 1, _, _, _, _, _, _, h => lqb_fX12_near_0b76 (fun _ _ _ _ _ _ q => lqb_fX12_near_0l76  fu q) h
theorem lqb_fX12_near_0b61 {u w : Int64}  {l1 : Int32} {σ : ST} (h_σ : LQ u w σ) : LQP u w (fX12_near_0b61 l1 σ) := by
  unfold fX12_near_0b61
  refine lqbd2 fun s70 e_s70 => ?_
  have h_s70 : LQ u w s70 := by rw [e_s70]; exact lq_fX12_begin_0 h_σ
  exact lqb_fX12_near_0l76  _ h_s70
theorem lqb_fX12_near_0b60 {u w : Int64}  {t0 : Int32} {σ : ST} (h_σ : LQ u w σ) : LQP u w (fX12_near_0b60 t0 σ) := by
  unfold fX12_near_0b60
  exact h_σ
theorem lqb_fX12_near_0b49 {u w : Int64}  {σ : ST} (h_σ : LQ u w σ) : LQP u w (fX12_near_0b49 σ) := by
  unfold fX12_near_0b49
  refine lqbd2 fun v54 _ => ?_
  refine lqbd2 fun v57 _ => ?_
  exact lqb_fX12_near_0b60  h_σ
theorem lqb_fX12_near_0b35 {u w : Int64}  {σ : ST} (h_σ : LQ u w σ) : LQP u w (fX12_near_0b35 σ) := by
  unfold fX12_near_0b35
  refine lqbd2 fun v40 _ => ?_
  refine lqbd2 fun v43 _ => ?_
  exact lqb_fX12_near_0b60  h_σ
theorem lqb_fX12_near_0b26 {u w : Int64}  {l1 : Int32} {σ : ST} (h_σ : LQ u w σ) : LQP u w (fX12_near_0b26 l1 σ) := by
  unfold fX12_near_0b26
  refine lqbd2 fun s27 e_s27 => ?_
  have h_s27 : LQ u w s27 := by rw [e_s27]; exact lq_fX12_join_0 h_σ
  exact lqite2 (lqb_fX12_near_0b35  h_s27) (lqb_fX12_near_0b49  h_s27)
theorem lqb_fX12_near_0b21 {u w : Int64}  {l1 : Int32} {σ : ST} (h_σ : LQ u w σ) : LQP u w (fX12_near_0b21 l1 σ) := by
  unfold fX12_near_0b21
  exact lqite2 (lqb_fX12_near_0b61  h_σ) (lqb_fX12_near_0b26  h_σ)
theorem lqb_fX12_near_0b18 {u w : Int64}  {σ : ST} (h_σ : LQ u w σ) : LQP u w (fX12_near_0b18 σ) := by
  unfold fX12_near_0b18
  exact h_σ
theorem lqb_fX12_near_0b11 {u w : Int64}  {l1 : Int32} {σ : ST} (h_σ : LQ u w σ) : LQP u w (fX12_near_0b11 l1 σ) := by
  unfold fX12_near_0b11
  refine lqbp2 fun v12 s12 e_s12 => ?_
  have h_s12 : LQ u w s12 := by rw [← e_s12]; exact lq_fX12_findBest_0 h_σ
  exact lqite2 (lqb_fX12_near_0b18  h_s12) (lqb_fX12_near_0b21  h_s12)
theorem lqb_fX12_near_0b9 {u w : Int64}  {σ : ST} (h_σ : LQ u w σ) : LQP u w (fX12_near_0b9 σ) := by
  unfold fX12_near_0b9
  exact h_σ
theorem lqb_fX12_near_0b0 {u w : Int64}  {l1 : Int32} {σ : ST} (h_σ : LQ u w σ) : LQP u w (fX12_near_0b0 l1 σ) := by
  unfold fX12_near_0b0
  refine lqbd2 fun v3 _ => ?_
  exact lqite2 (lqb_fX12_near_0b9  h_σ) (lqb_fX12_near_0b11  h_σ)
theorem lq_fX12_near_0 {u w : Int64} {p1 : Int32} {σ : ST} (h : LQ u w σ) : LQ u w (fX12_near_0 p1 σ).2 := lqb_fX12_near_0b0 h
theorem lqb_fX12_sure_0b25 {u w : Int64}  {σ : ST} (h_σ : LQ u w σ) : LQP u w (fX12_sure_0b25 σ) := by
  unfold fX12_sure_0b25
  exact h_σ
theorem lqb_fX12_sure_0b155 {u w : Int64}  {t0 : Int32} {σ : ST} (h_σ : LQ u w σ) : LQP u w (fX12_sure_0b155 t0 σ) := by
  unfold fX12_sure_0b155
  exact h_σ
theorem lqb_fX12_sure_0b154 {u w : Int64}  {σ : ST} (h_σ : LQ u w σ) : LQP u w (fX12_sure_0b154 σ) := by
  unfold fX12_sure_0b154
  exact lqb_fX12_sure_0b155  h_σ
theorem lqb_fX12_sure_0b150 {u w : Int64}  {σ : ST} (h_σ : LQ u w σ) : LQP u w (fX12_sure_0b150 σ) := by
  unfold fX12_sure_0b150
  exact lqb_fX12_sure_0b155  h_σ
theorem lqb_fX12_sure_0b146 {u w : Int64}  {l3 : Int32} {σ : ST} (h_σ : LQ u w σ) : LQP u w (fX12_sure_0b146 l3 σ) := by
  unfold fX12_sure_0b146
  exact lqite2 (lqb_fX12_sure_0b150  h_σ) (lqb_fX12_sure_0b154  h_σ)
theorem lqb_fX12_sure_0b142 {u w : Int64}  {σ : ST} (h_σ : LQ u w σ) : LQP u w (fX12_sure_0b142 σ) := by
  unfold fX12_sure_0b142
  exact lqb_fX12_sure_0b155  h_σ
theorem lqb_fX12_sure_0b137 {u w : Int64}  {l3 : Int32} {l4 : Int32} {σ : ST} (h_σ : LQ u w σ) : LQP u w (fX12_sure_0b137 l3 l4 σ) := by
  unfold fX12_sure_0b137
  exact lqite2 (lqb_fX12_sure_0b142  h_σ) (lqb_fX12_sure_0b146  h_σ)
theorem lqb_fX12_sure_0b128 {u w : Int64} {K49 : Int32 → Int32 → Int32 → Int32 → Int32 → ST → (Int32 × ST)} (hK49 : ∀ (q0 : Int32) (q1 : Int32) (q2 : Int32) (q3 : Int32) (q4 : Int32) (τ : ST), LQ u w τ → LQP u w (K49 q0 q1 q2 q3 q4 τ)) {l1 : Int32} {l2 : Int32} {l3 : Int32} {l4 : Int32} {σ : ST} (h_σ : LQ u w σ) : LQP u w (fX12_sure_0b128 K49 l1 l2 l3 l4 σ) := by
  unfold fX12_sure_0b128
  refine lqbp2 fun v129 s129 e_s129 => ?_
  have h_s129 : LQ u w s129 := by rw [← e_s129]; exact lq_fX12_goOn_0 h_σ
  exact hK49 _ _ _ _ _ _ h_s129
theorem lqb_fX12_sure_0b126 {u w : Int64} {K49 : Int32 → Int32 → Int32 → Int32 → Int32 → ST → (Int32 × ST)} (hK49 : ∀ (q0 : Int32) (q1 : Int32) (q2 : Int32) (q3 : Int32) (q4 : Int32) (τ : ST), LQ u w τ → LQP u w (K49 q0 q1 q2 q3 q4 τ)) {l1 : Int32} {l2 : Int32} {l3 : Int32} {t0 : Int32} {σ : ST} (h_σ : LQ u w σ) : LQP u w (fX12_sure_0b126 K49 l1 l2 l3 t0 σ) := by
  unfold fX12_sure_0b126
  exact lqb_fX12_sure_0b128 hK49 h_σ
theorem lqb_fX12_sure_0b121 {u w : Int64} {K49 : Int32 → Int32 → Int32 → Int32 → Int32 → ST → (Int32 × ST)} (hK49 : ∀ (q0 : Int32) (q1 : Int32) (q2 : Int32) (q3 : Int32) (q4 : Int32) (τ : ST), LQ u w τ → LQP u w (K49 q0 q1 q2 q3 q4 τ)) {l1 : Int32} {l2 : Int32} {l3 : Int32} {σ : ST} (h_σ : LQ u w σ) : LQP u w (fX12_sure_0b121 K49 l1 l2 l3 σ) := by
  unfold fX12_sure_0b121
  exact lqb_fX12_sure_0b126 hK49 h_σ
theorem lqb_fX12_sure_0b125 {u w : Int64} {K49 : Int32 → Int32 → Int32 → Int32 → Int32 → ST → (Int32 × ST)} (hK49 : ∀ (q0 : Int32) (q1 : Int32) (q2 : Int32) (q3 : Int32) (q4 : Int32) (τ : ST), LQ u w τ → LQP u w (K49 q0 q1 q2 q3 q4 τ)) {l1 : Int32} {l2 : Int32} {l3 : Int32} {σ : ST} (h_σ : LQ u w σ) : LQP u w (fX12_sure_0b125 K49 l1 l2 l3 σ) := by
  unfold fX12_sure_0b125
  exact lqb_fX12_sure_0b126 hK49 h_σ
theorem lqb_fX12_sure_0b106 {u w : Int64} {K49 : Int32 → Int32 → Int32 → Int32 → Int32 → ST → (Int32 × ST)} (hK49 : ∀ (q0 : Int32) (q1 : Int32) (q2 : Int32) (q3 : Int32) (q4 : Int32) (τ : ST), LQ u w τ → LQP u w (K49 q0 q1 q2 q3 q4 τ)) {l1 : Int32} {l2 : Int32} {l3 : Int32} {σ : ST} (h_σ : LQ u w σ) : LQP u w (fX12_sure_0b106 K49 l1 l2 l3 σ) := by
  unfold fX12_sure_0b106
  refine lqbd2 fun v111 _ => ?_
  refine lqbd2 fun v117 _ => ?_
  exact lqite2 (lqb_fX12_sure_0b125 hK49 h_σ) (lqb_fX12_sure_0b121 hK49 h_σ)
theorem lqb_fX12_sure_0b100 {u w : Int64} {K49 : Int32 → Int32 → Int32 → Int32 → Int32 → ST → (Int32 × ST)} (hK49 : ∀ (q0 : Int32) (q1 : Int32) (q2 : Int32) (q3 : Int32) (q4 : Int32) (τ : ST), LQ u w τ → LQP u w (K49 q0 q1 q2 q3 q4 τ)) {l1 : Int32} {l2 : Int32} {l4 : Int32} {t0 : Int32} {σ : ST} (h_σ : LQ u w σ) : LQP u w (fX12_sure_0b100 K49 l1 l2 l4 t0 σ) := by
  unfold fX12_sure_0b100
  exact lqite2 (lqb_fX12_sure_0b106 hK49 h_σ) (lqb_fX12_sure_0b121 hK49 h_σ)
theorem lqb_fX12_sure_0b95 {u w : Int64} {K49 : Int32 → Int32 → Int32 → Int32 → Int32 → ST → (Int32 × ST)} (hK49 : ∀ (q0 : Int32) (q1 : Int32) (q2 : Int32) (q3 : Int32) (q4 : Int32) (τ : ST), LQ u w τ → LQP u w (K49 q0 q1 q2 q3 q4 τ)) {l1 : Int32} {l2 : Int32} {l4 : Int32} {σ : ST} (h_σ : LQ u w σ) : LQP u w (fX12_sure_0b95 K49 l1 l2 l4 σ) := by
  unfold fX12_sure_0b95
  exact lqb_fX12_sure_0b100 hK49 h_σ
theorem lqb_fX12_sure_0b99 {u w : Int64} {K49 : Int32 → Int32 → Int32 → Int32 → Int32 → ST → (Int32 × ST)} (hK49 : ∀ (q0 : Int32) (q1 : Int32) (q2 : Int32) (q3 : Int32) (q4 : Int32) (τ : ST), LQ u w τ → LQP u w (K49 q0 q1 q2 q3 q4 τ)) {l1 : Int32} {l2 : Int32} {l4 : Int32} {σ : ST} (h_σ : LQ u w σ) : LQP u w (fX12_sure_0b99 K49 l1 l2 l4 σ) := by
  unfold fX12_sure_0b99
  exact lqb_fX12_sure_0b100 hK49 h_σ
theorem lqb_fX12_sure_0b80 {u w : Int64} {K49 : Int32 → Int32 → Int32 → Int32 → Int32 → ST → (Int32 × ST)} (hK49 : ∀ (q0 : Int32) (q1 : Int32) (q2 : Int32) (q3 : Int32) (q4 : Int32) (τ : ST), LQ u w τ → LQP u w (K49 q0 q1 q2 q3 q4 τ)) {l1 : Int32} {l2 : Int32} {l4 : Int32} {σ : ST} (h_σ : LQ u w σ) : LQP u w (fX12_sure_0b80 K49 l1 l2 l4 σ) := by
  unfold fX12_sure_0b80
  refine lqbd2 fun v85 _ => ?_
  refine lqbd2 fun v91 _ => ?_
  exact lqite2 (lqb_fX12_sure_0b95 hK49 h_σ) (lqb_fX12_sure_0b99 hK49 h_σ)
theorem lqb_fX12_sure_0b76 {u w : Int64} {K49 : Int32 → Int32 → Int32 → Int32 → Int32 → ST → (Int32 × ST)} (hK49 : ∀ (q0 : Int32) (q1 : Int32) (q2 : Int32) (q3 : Int32) (q4 : Int32) (τ : ST), LQ u w τ → LQP u w (K49 q0 q1 q2 q3 q4 τ)) {l1 : Int32} {l2 : Int32} {l3 : Int32} {l4 : Int32} {σ : ST} (h_σ : LQ u w σ) : LQP u w (fX12_sure_0b76 K49 l1 l2 l3 l4 σ) := by
  unfold fX12_sure_0b76
  exact lqite2 (lqb_fX12_sure_0b80 hK49 h_σ) (lqb_fX12_sure_0b95 hK49 h_σ)
theorem lqb_fX12_sure_0b54 {u w : Int64} {K49 : Int32 → Int32 → Int32 → Int32 → Int32 → ST → (Int32 × ST)} (hK49 : ∀ (q0 : Int32) (q1 : Int32) (q2 : Int32) (q3 : Int32) (q4 : Int32) (τ : ST), LQ u w τ → LQP u w (K49 q0 q1 q2 q3 q4 τ)) {l1 : Int32} {l2 : Int32} {l3 : Int32} {l4 : Int32} {σ : ST} (h_σ : LQ u w σ) : LQP u w (fX12_sure_0b54 K49 l1 l2 l3 l4 σ) := by
  unfold fX12_sure_0b54
  refine lqbd2 fun v59 _ => ?_
  refine lqbd2 fun v63 _ => ?_
  refine lqbd2 fun v71 _ => ?_
  refine lqbd2 fun v72 _ => ?_
  exact lqite2 (lqb_fX12_sure_0b128 hK49 h_σ) (lqb_fX12_sure_0b76 hK49 h_σ)
theorem lqb_fX12_sure_0b49 {u w : Int64} {K49 : Int32 → Int32 → Int32 → Int32 → Int32 → ST → (Int32 × ST)} (hK49 : ∀ (q0 : Int32) (q1 : Int32) (q2 : Int32) (q3 : Int32) (q4 : Int32) (τ : ST), LQ u w τ → LQP u w (K49 q0 q1 q2 q3 q4 τ)) {l1 : Int32} {l2 : Int32} {l3 : Int32} {l4 : Int32} {l5 : Int32} {σ : ST} (h_σ : LQ u w σ) : LQP u w (fX12_sure_0b49 K49 l1 l2 l3 l4 l5 σ) := by
  unfold fX12_sure_0b49
  exact lqite2 (lqb_fX12_sure_0b137  h_σ) (lqb_fX12_sure_0b54 hK49 h_σ)
theorem lqb_fX12_sure_0l49 {u w : Int64}  : ∀ (fu : Nat) {q0 : Int32} {q1 : Int32} {q2 : Int32} {q3 : Int32} {q4 : Int32} {τ : ST} (h : LQ u w τ), LQP u w (fX12_sure_0l49 fu q0 q1 q2 q3 q4 τ)
  | 0, _, _, _, _, _, _, h => h
  | fu + 1, _, _, _, _, _, _, h => lqb_fX12_sure_0b49 (fun _ _ _ _ _ _ q => lqb_fX12_sure_0l49  fu q) h
theorem lqb_fX12_sure_0b37 {u w : Int64}  {l1 : Int32} {l2 : Int32} {σ : ST} (h_σ : LQ u w σ) : LQP u w (fX12_sure_0b37 l1 l2 σ) := by
  unfold fX12_sure_0b37
  refine lqbd2 fun s43 e_s43 => ?_
  have h_s43 : LQ u w s43 := by rw [e_s43]; exact lq_fX12_begin_0 h_σ
  exact lqb_fX12_sure_0l49  _ h_s43
theorem lqb_fX12_sure_0b34 {u w : Int64}  {σ : ST} (h_σ : LQ u w σ) : LQP u w (fX12_sure_0b34 σ) := by
  unfold fX12_sure_0b34
  exact h_σ
theorem lqb_fX12_sure_0b27 {u w : Int64}  {l1 : Int32} {l2 : Int32} {σ : ST} (h_σ : LQ u w σ) : LQP u w (fX12_sure_0b27 l1 l2 σ) := by
  unfold fX12_sure_0b27
  refine lqbp2 fun v28 s28 e_s28 => ?_
  have h_s28 : LQ u w s28 := by rw [← e_s28]; exact lq_fX12_findBest_0 h_σ
  exact lqite2 (lqb_fX12_sure_0b34  h_s28) (lqb_fX12_sure_0b37  h_s28)
theorem lqb_fX12_sure_0b20 {u w : Int64}  {l1 : Int32} {l2 : Int32} {σ : ST} (h_σ : LQ u w σ) : LQP u w (fX12_sure_0b20 l1 l2 σ) := by
  unfold fX12_sure_0b20
  exact lqite2 (lqb_fX12_sure_0b25  h_σ) (lqb_fX12_sure_0b27  h_σ)
theorem lqb_fX12_sure_0b12 {u w : Int64}  {l1 : Int32} {l2 : Int32} {σ : ST} (h_σ : LQ u w σ) : LQP u w (fX12_sure_0b12 l1 l2 σ) := by
  unfold fX12_sure_0b12
  refine lqbd2 fun v14 _ => ?_
  exact lqite2 (lqb_fX12_sure_0b25  h_σ) (lqb_fX12_sure_0b20  h_σ)
theorem lqb_fX12_sure_0b0 {u w : Int64}  {l1 : Int32} {l2 : Int32} {σ : ST} (h_σ : LQ u w σ) : LQP u w (fX12_sure_0b0 l1 l2 σ) := by
  unfold fX12_sure_0b0
  refine lqbd2 fun s1 e_s1 => ?_
  have h_s1 : LQ u w s1 := by rw [e_s1]; exact lq_fX12_findPieces_0 h_σ
  refine lqbd2 fun v6 _ => ?_
  exact lqite2 (lqb_fX12_sure_0b25  h_s1) (lqb_fX12_sure_0b12  h_s1)
theorem lq_fX12_sure_0 {u w : Int64} {p1 : Int32} {p2 : Int32} {σ : ST} (h : LQ u w σ) : LQ u w (fX12_sure_0 p1 p2 σ).2 := lqb_fX12_sure_0b0 h
theorem lqb_fX12_findHeapMiddles_0b109 {u w : Int64}  {σ : ST} (h_σ : LQ u w σ) : LQ u w (fX12_findHeapMiddles_0b109 σ) := by
  unfold fX12_findHeapMiddles_0b109
  exact h_σ
theorem lqb_fX12_findHeapMiddles_0b103 {u w : Int64} {K2 : Int32 → ST → ST} (hK2 : ∀ (q0 : Int32) (τ : ST), LQ u w τ → LQ u w (K2 q0 τ)) {l1 : Int32} {σ : ST} (h_σ : LQ u w σ) : LQ u w (fX12_findHeapMiddles_0b103 K2 l1 σ) := by
  unfold fX12_findHeapMiddles_0b103
  refine lqbd fun v103 _ => ?_
  exact hK2 _ _ h_σ
theorem lqb_fX12_findHeapMiddles_0b81 {u w : Int64} {K2 : Int32 → ST → ST} (hK2 : ∀ (q0 : Int32) (τ : ST), LQ u w τ → LQ u w (K2 q0 τ)) {K76 : Int32 → Int32 → ST → ST} (hK76 : ∀ (q0 : Int32) (q1 : Int32) (τ : ST), LQ u w τ → LQ u w (K76 q0 q1 τ)) {l1 : Int32} {l2 : Int32} {σ : ST} (h_σ : LQ u w σ) : LQ u w (fX12_findHeapMiddles_0b81 K2 K76 l1 l2 σ) := by
  unfold fX12_findHeapMiddles_0b81
  refine lqbd fun v87 _ => ?_
  refine lqbd fun v89 _ => ?_
  refine lqbd fun v95 _ => ?_
  refine lqbd fun s96 e_s96 => ?_
  have h_s96 : LQ u w s96 := by rw [e_s96]; exact h_σ
  refine lqbd fun v97 _ => ?_
  exact hK76 _ _ _ h_s96
theorem lqb_fX12_findHeapMiddles_0b76 {u w : Int64} {K2 : Int32 → ST → ST} (hK2 : ∀ (q0 : Int32) (τ : ST), LQ u w τ → LQ u w (K2 q0 τ)) {K76 : Int32 → Int32 → ST → ST} (hK76 : ∀ (q0 : Int32) (q1 : Int32) (τ : ST), LQ u w τ → LQ u w (K76 q0 q1 τ)) {l1 : Int32} {l2 : Int32} {σ : ST} (h_σ : LQ u w σ) : LQ u w (fX12_findHeapMiddles_0b76 K2 K76 l1 l2 σ) := by
  unfold fX12_findHeapMiddles_0b76
  exact lqite (lqb_fX12_findHeapMiddles_0b103 hK2 h_σ) (lqb_fX12_findHeapMiddles_0b81 hK2 hK76 h_σ)
theorem lqb_fX12_findHeapMiddles_0l76 {u w : Int64} {K2 : Int32 → ST → ST} (hK2 : ∀ (q0 : Int32) (τ : ST), LQ u w τ → LQ u w (K2 q0 τ)) : ∀ (fu : Nat) {q0 : Int32} {q1 : Int32} {τ : ST} (h : LQ u w τ), LQ u w (fX12_findHeapMiddles_0l76 K2 fu q0 q1 τ)
  | 0, _, _, _, h => h
  | fu + 1, _, _, _, h => lqb_fX12_findHeapMiddles_0b76 hK2 (fun _ _ _ q => lqb_fX12_findHeapMiddles_0l76 hK2 fu q) h
theorem lqb_fX12_findHeapMiddles_0b70 {u w : Int64} {K2 : Int32 → ST → ST} (hK2 : ∀ (q0 : Int32) (τ : ST), LQ u w τ → LQ u w (K2 q0 τ)) {l1 : Int32} {σ : ST} (h_σ : LQ u w σ) : LQ u w (fX12_findHeapMiddles_0b70 K2 l1 σ) := by
  unfold fX12_findHeapMiddles_0b70
  refine lqbd fun s71 e_s71 => ?_
  have h_s71 : LQ u w s71 := by rw [e_s71]; exact lq_fX12_findMiddle_0 h_σ
  exact lqb_fX12_findHeapMiddles_0l76 hK2 _ h_s71
theorem lqb_fX12_findHeapMiddles_0b63 {u w : Int64} {K2 : Int32 → ST → ST} (hK2 : ∀ (q0 : Int32) (τ : ST), LQ u w τ → LQ u w (K2 q0 τ)) {K19 : Int32 → Int32 → ST → ST} (hK19 : ∀ (q0 : Int32) (q1 : Int32) (τ : ST), LQ u w τ → LQ u w (K19 q0 q1 τ)) {l1 : Int32} {l2 : Int32} {t0 : Int32} {t1 : Int32} {σ : ST} (h_σ : LQ u w σ) : LQ u w (fX12_findHeapMiddles_0b63 K2 K19 l1 l2 t0 t1 σ) := by
  unfold fX12_findHeapMiddles_0b63
  refine lqbd fun s63 e_s63 => ?_
  have h_s63 : LQ u w s63 := by rw [e_s63]; exact h_σ
  refine lqbd fun v64 _ => ?_
  exact hK19 _ _ _ h_s63
theorem lqb_fX12_findHeapMiddles_0b62 {u w : Int64} {K2 : Int32 → ST → ST} (hK2 : ∀ (q0 : Int32) (τ : ST), LQ u w τ → LQ u w (K2 q0 τ)) {K19 : Int32 → Int32 → ST → ST} (hK19 : ∀ (q0 : Int32) (q1 : Int32) (τ : ST), LQ u w τ → LQ u w (K19 q0 q1 τ)) {l1 : Int32} {l2 : Int32} {t0 : Int32} {σ : ST} (h_σ : LQ u w σ) : LQ u w (fX12_findHeapMiddles_0b62 K2 K19 l1 l2 t0 σ) := by
  unfold fX12_findHeapMiddles_0b62
  exact lqb_fX12_findHeapMiddles_0b63 hK2 hK19 h_σ
theorem lqb_fX12_findHeapMiddles_0b58 {u w : Int64} {K2 : Int32 → ST → ST} (hK2 : ∀ (q0 : Int32) (τ : ST), LQ u w τ → LQ u w (K2 q0 τ)) {K19 : Int32 → Int32 → ST → ST} (hK19 : ∀ (q0 : Int32) (q1 : Int32) (τ : ST), LQ u w τ → LQ u w (K19 q0 q1 τ)) {l1 : Int32} {l2 : Int32} {t0 : Int32} {σ : ST} (h_σ : LQ u w σ) : LQ u w (fX12_findHeapMiddles_0b58 K2 K19 l1 l2 t0 σ) := by
  unfold fX12_findHeapMiddles_0b58
  exact lqb_fX12_findHeapMiddles_0b63 hK2 hK19 h_σ
theorem lqb_fX12_findHeapMiddles_0b43 {u w : Int64} {K2 : Int32 → ST → ST} (hK2 : ∀ (q0 : Int32) (τ : ST), LQ u w τ → LQ u w (K2 q0 τ)) {K19 : Int32 → Int32 → ST → ST} (hK19 : ∀ (q0 : Int32) (q1 : Int32) (τ : ST), LQ u w τ → LQ u w (K19 q0 q1 τ)) {l1 : Int32} {l2 : Int32} {t0 : Int32} {σ : ST} (h_σ : LQ u w σ) : LQ u w (fX12_findHeapMiddles_0b43 K2 K19 l1 l2 t0 σ) := by
  unfold fX12_findHeapMiddles_0b43
  refine lqbd fun v52 _ => ?_
  refine lqbd fun v53 _ => ?_
  exact lqite (lqb_fX12_findHeapMiddles_0b58 hK2 hK19 h_σ) (lqb_fX12_findHeapMiddles_0b62 hK2 hK19 h_σ)
theorem lqb_fX12_findHeapMiddles_0b27 {u w : Int64} {K2 : Int32 → ST → ST} (hK2 : ∀ (q0 : Int32) (τ : ST), LQ u w τ → LQ u w (K2 q0 τ)) {K19 : Int32 → Int32 → ST → ST} (hK19 : ∀ (q0 : Int32) (q1 : Int32) (τ : ST), LQ u w τ → LQ u w (K19 q0 q1 τ)) {l1 : Int32} {l2 : Int32} {σ : ST} (h_σ : LQ u w σ) : LQ u w (fX12_findHeapMiddles_0b27 K2 K19 l1 l2 σ) := by
  unfold fX12_findHeapMiddles_0b27
  refine lqbd fun v37 _ => ?_
  exact lqite (lqb_fX12_findHeapMiddles_0b62 hK2 hK19 h_σ) (lqb_fX12_findHeapMiddles_0b43 hK2 hK19 h_σ)
theorem lqb_fX12_findHeapMiddles_0b19 {u w : Int64} {K2 : Int32 → ST → ST} (hK2 : ∀ (q0 : Int32) (τ : ST), LQ u w τ → LQ u w (K2 q0 τ)) {K19 : Int32 → Int32 → ST → ST} (hK19 : ∀ (q0 : Int32) (q1 : Int32) (τ : ST), LQ u w τ → LQ u w (K19 q0 q1 τ)) {l1 : Int32} {l2 : Int32} {σ : ST} (h_σ : LQ u w σ) : LQ u w (fX12_findHeapMiddles_0b19 K2 K19 l1 l2 σ) := by
  unfold fX12_findHeapMiddles_0b19
  refine lqbd fun v21 _ => ?_
  exact lqite (lqb_fX12_findHeapMiddles_0b70 hK2 h_σ) (lqb_fX12_findHeapMiddles_0b27 hK2 hK19 h_σ)
theorem lqb_fX12_findHeapMiddles_0l19 {u w : Int64} {K2 : Int32 → ST → ST} (hK2 : ∀ (q0 : Int32) (τ : ST), LQ u w τ → LQ u w (K2 q0 τ)) : ∀ (fu : Nat) {q0 : Int32} {q1 : Int32} {τ : ST} (h : LQ u w τ), LQ u w (fX12_findHeapMiddles_0l19 K2 fu q0 q1 τ)
  | 0, _, _, _, h => h
  | fu + 1, _, _, _, h => lqb_fX12_findHeapMiddles_0b19 hK2 (fun _ _ _ q => lqb_fX12_findHeapMiddles_0l19 hK2 fu q) h
theorem lqb_fX12_findHeapMiddles_0b17 {u w : Int64} {K2 : Int32 → ST → ST} (hK2 : ∀ (q0 : Int32) (τ : ST), LQ u w τ → LQ u w (K2 q0 τ)) {l1 : Int32} {σ : ST} (h_σ : LQ u w σ) : LQ u w (fX12_findHeapMiddles_0b17 K2 l1 σ) := by
  unfold fX12_findHeapMiddles_0b17
  exact lqb_fX12_findHeapMiddles_0l19 hK2 _ h_σ
theorem lqb_fX12_findHeapMiddles_0b2 {u w : Int64} {K2 : Int32 → ST → ST} (hK2 : ∀ (q0 : Int32) (τ : ST), LQ u w τ → LQ u w (K2 q0 τ)) {l1 : Int32} {σ : ST} (h_σ : LQ u w σ) : LQ u w (fX12_findHeapMiddles_0b2 K2 l1 σ) := by
  unfold fX12_findHeapMiddles_0b2
  refine lqbd fun v8 _ => ?_
  refine lqbd fun v11 _ => ?_
  exact lqite (lqb_fX12_findHeapMiddles_0b109  h_σ) (lqb_fX12_findHeapMiddles_0b17 hK2 h_σ)
theorem lqb_fX12_findHeapMiddles_0l2 {u w : Int64}  : ∀ (fu : Nat) {q0 : Int32} {τ : ST} (h : LQ u w τ), LQ u w (fX12_findHeapMiddles_0l2 fu q0 τ)
  | 0, _, _, h => h
  | fu + 1, _, _, h => lqb_fX12_findHeapMiddles_0b2 (fun _ _ q => lqb_fX12_findHeapMiddles_0l2  fu q) h
theorem lqb_fX12_findHeapMiddles_0b0 {u w : Int64}  {σ : ST} (h_σ : LQ u w σ) : LQ u w (fX12_findHeapMiddles_0b0 σ) := by
  unfold fX12_findHeapMiddles_0b0
  exact lqb_fX12_findHeapMiddles_0l2  _ h_σ
theorem lq_fX12_findHeapMiddles_0 {u w : Int64} {σ : ST} (h : LQ u w σ) : LQ u w (fX12_findHeapMiddles_0 σ) := lqb_fX12_findHeapMiddles_0b0 h
theorem lqb_fX12_wrong_0b46 {u w : Int64}  {t0 : Int32} {σ : ST} (h_σ : LQ u w σ) : LQP u w (fX12_wrong_0b46 t0 σ) := by
  unfold fX12_wrong_0b46
  exact h_σ
theorem lqb_fX12_wrong_0b45 {u w : Int64}  {σ : ST} (h_σ : LQ u w σ) : LQP u w (fX12_wrong_0b45 σ) := by
  unfold fX12_wrong_0b45
  exact lqb_fX12_wrong_0b46  h_σ
theorem lqb_fX12_wrong_0b41 {u w : Int64}  {σ : ST} (h_σ : LQ u w σ) : LQP u w (fX12_wrong_0b41 σ) := by
  unfold fX12_wrong_0b41
  exact lqb_fX12_wrong_0b46  h_σ
theorem lqb_fX12_wrong_0b22 {u w : Int64}  {l1 : Int32} {σ : ST} (h_σ : LQ u w σ) : LQP u w (fX12_wrong_0b22 l1 σ) := by
  unfold fX12_wrong_0b22
  refine lqbd2 fun s23 e_s23 => ?_
  have h_s23 : LQ u w s23 := by rw [e_s23]; exact lq_fX12_findHeapMiddles_0 h_σ
  refine lqbd2 fun v32 _ => ?_
  refine lqbd2 fun v35 _ => ?_
  exact lqite2 (lqb_fX12_wrong_0b45  h_s23) (lqb_fX12_wrong_0b41  h_s23)
theorem lqb_fX12_wrong_0b19 {u w : Int64}  {σ : ST} (h_σ : LQ u w σ) : LQP u w (fX12_wrong_0b19 σ) := by
  unfold fX12_wrong_0b19
  exact h_σ
theorem lqb_fX12_wrong_0b12 {u w : Int64}  {l1 : Int32} {σ : ST} (h_σ : LQ u w σ) : LQP u w (fX12_wrong_0b12 l1 σ) := by
  unfold fX12_wrong_0b12
  refine lqbp2 fun v13 s13 e_s13 => ?_
  have h_s13 : LQ u w s13 := by rw [← e_s13]; exact lq_fX12_findBest_0 h_σ
  exact lqite2 (lqb_fX12_wrong_0b19  h_s13) (lqb_fX12_wrong_0b22  h_s13)
theorem lqb_fX12_wrong_0b10 {u w : Int64}  {σ : ST} (h_σ : LQ u w σ) : LQP u w (fX12_wrong_0b10 σ) := by
  unfold fX12_wrong_0b10
  exact h_σ
theorem lqb_fX12_wrong_0b0 {u w : Int64}  {l1 : Int32} {σ : ST} (h_σ : LQ u w σ) : LQP u w (fX12_wrong_0b0 l1 σ) := by
  unfold fX12_wrong_0b0
  refine lqbd2 fun v4 _ => ?_
  exact lqite2 (lqb_fX12_wrong_0b10  h_σ) (lqb_fX12_wrong_0b12  h_σ)
theorem lq_fX12_wrong_0 {u w : Int64} {p1 : Int32} {σ : ST} (h : LQ u w σ) : LQ u w (fX12_wrong_0 p1 σ).2 := lqb_fX12_wrong_0b0 h
theorem lqb_fX12_middle_0b37 {u w : Int64}  {t0 : Int32} {σ : ST} (h_σ : LQ u w σ) : LQP u w (fX12_middle_0b37 t0 σ) := by
  unfold fX12_middle_0b37
  exact h_σ
theorem lqb_fX12_middle_0b36 {u w : Int64}  {l3 : Int32} {σ : ST} (h_σ : LQ u w σ) : LQP u w (fX12_middle_0b36 l3 σ) := by
  unfold fX12_middle_0b36
  exact lqb_fX12_middle_0b37  h_σ
theorem lqb_fX12_middle_0b23 {u w : Int64}  {l1 : Int32} {l2 : Int32} {σ : ST} (h_σ : LQ u w σ) : LQP u w (fX12_middle_0b23 l1 l2 σ) := by
  unfold fX12_middle_0b23
  refine lqbd2 fun v29 _ => ?_
  refine lqbd2 fun v31 _ => ?_
  refine lqbd2 fun v32 _ => ?_
  exact lqb_fX12_middle_0b37  h_σ
theorem lqb_fX12_middle_0b18 {u w : Int64}  {l1 : Int32} {l2 : Int32} {t0 : Int32} {σ : ST} (h_σ : LQ u w σ) : LQP u w (fX12_middle_0b18 l1 l2 t0 σ) := by
  unfold fX12_middle_0b18
  exact lqite2 (lqb_fX12_middle_0b23  h_σ) (lqb_fX12_middle_0b36  h_σ)
theorem lqb_fX12_middle_0b17 {u w : Int64}  {l1 : Int32} {l2 : Int32} {σ : ST} (h_σ : LQ u w σ) : LQP u w (fX12_middle_0b17 l1 l2 σ) := by
  unfold fX12_middle_0b17
  exact lqb_fX12_middle_0b18  h_σ
theorem lqb_fX12_middle_0b9 {u w : Int64}  {l1 : Int32} {l2 : Int32} {σ : ST} (h_σ : LQ u w σ) : LQP u w (fX12_middle_0b9 l1 l2 σ) := by
  unfold fX12_middle_0b9
  refine lqbp2 fun v11 s11 e_s11 => ?_
  have h_s11 : LQ u w s11 := by rw [← e_s11]; exact lq_fX12_wrong_0 h_σ
  exact lqb_fX12_middle_0b18  h_s11
theorem lqb_fX12_middle_0b0 {u w : Int64}  {l1 : Int32} {l2 : Int32} {σ : ST} (h_σ : LQ u w σ) : LQP u w (fX12_middle_0b0 l1 l2 σ) := by
  unfold fX12_middle_0b0
  refine lqbd2 fun v3 _ => ?_
  exact lqite2 (lqb_fX12_middle_0b17  h_σ) (lqb_fX12_middle_0b9  h_σ)
theorem lq_fX12_middle_0 {u w : Int64} {p1 : Int32} {p2 : Int32} {σ : ST} (h : LQ u w σ) : LQ u w (fX12_middle_0 p1 p2 σ).2 := lqb_fX12_middle_0b0 h
theorem lqb_fX12_twice_0b21 {u w : Int64}  {σ : ST} (h_σ : LQ u w σ) : LQP u w (fX12_twice_0b21 σ) := by
  unfold fX12_twice_0b21
  exact h_σ
theorem lqb_fX12_twice_0b287 {u w : Int64}  {t0 : Int32} {σ : ST} (h_σ : LQ u w σ) : LQP u w (fX12_twice_0b287 t0 σ) := by
  unfold fX12_twice_0b287
  exact h_σ
theorem lqb_fX12_twice_0b285 {u w : Int64}  {l5 : Int32} {σ : ST} (h_σ : LQ u w σ) : LQP u w (fX12_twice_0b285 l5 σ) := by
  unfold fX12_twice_0b285
  exact lqb_fX12_twice_0b287  h_σ
theorem lqb_fX12_twice_0b280 {u w : Int64}  {l4 : Int32} {σ : ST} (h_σ : LQ u w σ) : LQP u w (fX12_twice_0b280 l4 σ) := by
  unfold fX12_twice_0b280
  exact lqb_fX12_twice_0b287  h_σ
theorem lqb_fX12_twice_0b276 {u w : Int64}  {l2 : Int32} {l4 : Int32} {l5 : Int32} {σ : ST} (h_σ : LQ u w σ) : LQP u w (fX12_twice_0b276 l2 l4 l5 σ) := by
  unfold fX12_twice_0b276
  exact lqite2 (lqb_fX12_twice_0b280  h_σ) (lqb_fX12_twice_0b285  h_σ)
theorem lqb_fX12_twice_0b270 {u w : Int64} {K124 : Int32 → Int32 → Int32 → Int32 → Int32 → Int32 → Int32 → ST → (Int32 × ST)} (hK124 : ∀ (q0 : Int32) (q1 : Int32) (q2 : Int32) (q3 : Int32) (q4 : Int32) (q5 : Int32) (q6 : Int32) (τ : ST), LQ u w τ → LQP u w (K124 q0 q1 q2 q3 q4 q5 q6 τ)) {l1 : Int32} {l2 : Int32} {l4 : Int32} {l5 : Int32} {l6 : Int32} {l7 : Int32} {l8 : Int32} {σ : ST} (h_σ : LQ u w σ) : LQP u w (fX12_twice_0b270 K124 l1 l2 l4 l5 l6 l7 l8 σ) := by
  unfold fX12_twice_0b270
  refine lqbd2 fun v270 _ => ?_
  exact hK124 _ _ _ _ _ _ _ _ h_σ
theorem lqb_fX12_twice_0b264 {u w : Int64} {K124 : Int32 → Int32 → Int32 → Int32 → Int32 → Int32 → Int32 → ST → (Int32 × ST)} (hK124 : ∀ (q0 : Int32) (q1 : Int32) (q2 : Int32) (q3 : Int32) (q4 : Int32) (q5 : Int32) (q6 : Int32) (τ : ST), LQ u w τ → LQP u w (K124 q0 q1 q2 q3 q4 q5 q6 τ)) {K137 : Int32 → Int32 → Int32 → Int32 → Int32 → Int32 → Int32 → Int32 → ST → (Int32 × ST)} (hK137 : ∀ (q0 : Int32) (q1 : Int32) (q2 : Int32) (q3 : Int32) (q4 : Int32) (q5 : Int32) (q6 : Int32) (q7 : Int32) (τ : ST), LQ u w τ → LQP u w (K137 q0 q1 q2 q3 q4 q5 q6 q7 τ)) {l1 : Int32} {l2 : Int32} {l4 : Int32} {l5 : Int32} {l6 : Int32} {l7 : Int32} {l8 : Int32} {l9 : Int32} {σ : ST} (h_σ : LQ u w σ) : LQP u w (fX12_twice_0b264 K124 K137 l1 l2 l4 l5 l6 l7 l8 l9 σ) := by
  unfold fX12_twice_0b264
  refine lqbd2 fun v264 _ => ?_
  exact hK137 _ _ _ _ _ _ _ _ _ h_σ
theorem lqb_fX12_twice_0b252 {u w : Int64} {K124 : Int32 → Int32 → Int32 → Int32 → Int32 → Int32 → Int32 → ST → (Int32 × ST)} (hK124 : ∀ (q0 : Int32) (q1 : Int32) (q2 : Int32) (q3 : Int32) (q4 : Int32) (q5 : Int32) (q6 : Int32) (τ : ST), LQ u w τ → LQP u w (K124 q0 q1 q2 q3 q4 q5 q6 τ)) {K137 : Int32 → Int32 → Int32 → Int32 → Int32 → Int32 → Int32 → Int32 → ST → (Int32 × ST)} (hK137 : ∀ (q0 : Int32) (q1 : Int32) (q2 : Int32) (q3 : Int32) (q4 : Int32) (q5 : Int32) (q6 : Int32) (q7 : Int32) (τ : ST), LQ u w τ → LQP u w (K137 q0 q1 q2 q3 q4 q5 q6 q7 τ)) {l1 : Int32} {l2 : Int32} {l7 : Int32} {l8 : Int32} {l9 : Int32} {l10 : Int32} {σ : ST} (h_σ : LQ u w σ) : LQP u w (fX12_twice_0b252 K124 K137 l1 l2 l7 l8 l9 l10 σ) := by
  unfold fX12_twice_0b252
  exact lqb_fX12_twice_0b264 hK124 hK137 h_σ
theorem lqb_fX12_twice_0b245 {u w : Int64} {K124 : Int32 → Int32 → Int32 → Int32 → Int32 → Int32 → Int32 → ST → (Int32 × ST)} (hK124 : ∀ (q0 : Int32) (q1 : Int32) (q2 : Int32) (q3 : Int32) (q4 : Int32) (q5 : Int32) (q6 : Int32) (τ : ST), LQ u w τ → LQP u w (K124 q0 q1 q2 q3 q4 q5 q6 τ)) {K137 : Int32 → Int32 → Int32 → Int32 → Int32 → Int32 → Int32 → Int32 → ST → (Int32 × ST)} (hK137 : ∀ (q0 : Int32) (q1 : Int32) (q2 : Int32) (q3 : Int32) (q4 : Int32) (q5 : Int32) (q6 : Int32) (q7 : Int32) (τ : ST), LQ u w τ → LQP u w (K137 q0 q1 q2 q3 q4 q5 q6 q7 τ)) {l1 : Int32} {l2 : Int32} {l4 : Int32} {l5 : Int32} {l6 : Int32} {l7 : Int32} {l8 : Int32} {l9 : Int32} {l10 : Int32} {σ : ST} (h_σ : LQ u w σ) : LQP u w (fX12_twice_0b245 K124 K137 l1 l2 l4 l5 l6 l7 l8 l9 l10 σ) := by
  unfold fX12_twice_0b245
  exact lqite2 (lqb_fX12_twice_0b264 hK124 hK137 h_σ) (lqb_fX12_twice_0b252 hK124 hK137 h_σ)
theorem lqb_fX12_twice_0b234 {u w : Int64} {K124 : Int32 → Int32 → Int32 → Int32 → Int32 → Int32 → Int32 → ST → (Int32 × ST)} (hK124 : ∀ (q0 : Int32) (q1 : Int32) (q2 : Int32) (q3 : Int32) (q4 : Int32) (q5 : Int32) (q6 : Int32) (τ : ST), LQ u w τ → LQP u w (K124 q0 q1 q2 q3 q4 q5 q6 τ)) {K137 : Int32 → Int32 → Int32 → Int32 → Int32 → Int32 → Int32 → Int32 → ST → (Int32 × ST)} (hK137 : ∀ (q0 : Int32) (q1 : Int32) (q2 : Int32) (q3 : Int32) (q4 : Int32) (q5 : Int32) (q6 : Int32) (q7 : Int32) (τ : ST), LQ u w τ → LQP u w (K137 q0 q1 q2 q3 q4 q5 q6 q7 τ)) {l1 : Int32} {l2 : Int32} {l4 : Int32} {l5 : Int32} {l6 : Int32} {l7 : Int32} {l8 : Int32} {l9 : Int32} {l10 : Int32} {σ : ST} (h_σ : LQ u w σ) : LQP u w (fX12_twice_0b234 K124 K137 l1 l2 l4 l5 l6 l7 l8 l9 l10 σ) := by
  unfold fX12_twice_0b234
  refine lqbd2 fun v241 _ => ?_
  exact lqite2 (lqb_fX12_twice_0b264 hK124 hK137 h_σ) (lqb_fX12_twice_0b245 hK124 hK137 h_σ)
theorem lqb_fX12_twice_0b223 {u w : Int64} {K124 : Int32 → Int32 → Int32 → Int32 → Int32 → Int32 → Int32 → ST → (Int32 × ST)} (hK124 : ∀ (q0 : Int32) (q1 : Int32) (q2 : Int32) (q3 : Int32) (q4 : Int32) (q5 : Int32) (q6 : Int32) (τ : ST), LQ u w τ → LQP u w (K124 q0 q1 q2 q3 q4 q5 q6 τ)) {K137 : Int32 → Int32 → Int32 → Int32 → Int32 → Int32 → Int32 → Int32 → ST → (Int32 × ST)} (hK137 : ∀ (q0 : Int32) (q1 : Int32) (q2 : Int32) (q3 : Int32) (q4 : Int32) (q5 : Int32) (q6 : Int32) (q7 : Int32) (τ : ST), LQ u w τ → LQP u w (K137 q0 q1 q2 q3 q4 q5 q6 q7 τ)) {l1 : Int32} {l2 : Int32} {l4 : Int32} {l5 : Int32} {l6 : Int32} {l7 : Int32} {l8 : Int32} {l9 : Int32} {l10 : Int32} {σ : ST} (h_σ : LQ u w σ) : LQP u w (fX12_twice_0b223 K124 K137 l1 l2 l4 l5 l6 l7 l8 l9 l10 σ) := by
  unfold fX12_twice_0b223
  refine lqbd2 fun v230 _ => ?_
  exact lqite2 (lqb_fX12_twice_0b264 hK124 hK137 h_σ) (lqb_fX12_twice_0b234 hK124 hK137 h_σ)
theorem lqb_fX12_twice_0b210 {u w : Int64} {K124 : Int32 → Int32 → Int32 → Int32 → Int32 → Int32 → Int32 → ST → (Int32 × ST)} (hK124 : ∀ (q0 : Int32) (q1 : Int32) (q2 : Int32) (q3 : Int32) (q4 : Int32) (q5 : Int32) (q6 : Int32) (τ : ST), LQ u w τ → LQP u w (K124 q0 q1 q2 q3 q4 q5 q6 τ)) {K137 : Int32 → Int32 → Int32 → Int32 → Int32 → Int32 → Int32 → Int32 → ST → (Int32 × ST)} (hK137 : ∀ (q0 : Int32) (q1 : Int32) (q2 : Int32) (q3 : Int32) (q4 : Int32) (q5 : Int32) (q6 : Int32) (q7 : Int32) (τ : ST), LQ u w τ → LQP u w (K137 q0 q1 q2 q3 q4 q5 q6 q7 τ)) {K150 : Int32 → Int32 → Int32 → Int32 → Int32 → Int32 → Int32 → Int32 → Int32 → Int32 → ST → (Int32 × ST)} (hK150 : ∀ (q0 : Int32) (q1 : Int32) (q2 : Int32) (q3 : Int32) (q4 : Int32) (q5 : Int32) (q6 : Int32) (q7 : Int32) (q8 : Int32) (q9 : Int32) (τ : ST), LQ u w τ → LQP u w (K150 q0 q1 q2 q3 q4 q5 q6 q7 q8 q9 τ)) {l1 : Int32} {l2 : Int32} {l4 : Int32} {l5 : Int32} {l6 : Int32} {l7 : Int32} {l8 : Int32} {l9 : Int32} {l11 : Int32} {t0 : Int32} {t1 : Int32} {t2 : Int32} {σ : ST} (h_σ : LQ u w σ) : LQP u w (fX12_twice_0b210 K124 K137 K150 l1 l2 l4 l5 l6 l7 l8 l9 l11 t0 t1 t2 σ) := by
  unfold fX12_twice_0b210
  refine lqbd2 fun v210 _ => ?_
  refine lqbd2 fun v211 _ => ?_
  refine lqbd2 fun v214 _ => ?_
  refine lqbd2 fun v217 _ => ?_
  exact hK150 _ _ _ _ _ _ _ _ _ _ _ h_σ
theorem lqb_fX12_twice_0b208 {u w : Int64} {K124 : Int32 → Int32 → Int32 → Int32 → Int32 → Int32 → Int32 → ST → (Int32 × ST)} (hK124 : ∀ (q0 : Int32) (q1 : Int32) (q2 : Int32) (q3 : Int32) (q4 : Int32) (q5 : Int32) (q6 : Int32) (τ : ST), LQ u w τ → LQP u w (K124 q0 q1 q2 q3 q4 q5 q6 τ)) {K137 : Int32 → Int32 → Int32 → Int32 → Int32 → Int32 → Int32 → Int32 → ST → (Int32 × ST)} (hK137 : ∀ (q0 : Int32) (q1 : Int32) (q2 : Int32) (q3 : Int32) (q4 : Int32) (q5 : Int32) (q6 : Int32) (q7 : Int32) (τ : ST), LQ u w τ → LQP u w (K137 q0 q1 q2 q3 q4 q5 q6 q7 τ)) {K150 : Int32 → Int32 → Int32 → Int32 → Int32 → Int32 → Int32 → Int32 → Int32 → Int32 → ST → (Int32 × ST)} (hK150 : ∀ (q0 : Int32) (q1 : Int32) (q2 : Int32) (q3 : Int32) (q4 : Int32) (q5 : Int32) (q6 : Int32) (q7 : Int32) (q8 : Int32) (q9 : Int32) (τ : ST), LQ u w τ → LQP u w (K150 q0 q1 q2 q3 q4 q5 q6 q7 q8 q9 τ)) {l1 : Int32} {l2 : Int32} {l4 : Int32} {l5 : Int32} {l6 : Int32} {l7 : Int32} {l8 : Int32} {l9 : Int32} {l11 : Int32} {l12 : Int32} {t0 : Int32} {t1 : Int32} {σ : ST} (h_σ : LQ u w σ) : LQP u w (fX12_twice_0b208 K124 K137 K150 l1 l2 l4 l5 l6 l7 l8 l9 l11 l12 t0 t1 σ) := by
  unfold fX12_twice_0b208
  exact lqb_fX12_twice_0b210 hK124 hK137 hK150 h_σ
theorem lqb_fX12_twice_0b203 {u w : Int64} {K124 : Int32 → Int32 → Int32 → Int32 → Int32 → Int32 → Int32 → ST → (Int32 × ST)} (hK124 : ∀ (q0 : Int32) (q1 : Int32) (q2 : Int32) (q3 : Int32) (q4 : Int32) (q5 : Int32) (q6 : Int32) (τ : ST), LQ u w τ → LQP u w (K124 q0 q1 q2 q3 q4 q5 q6 τ)) {K137 : Int32 → Int32 → Int32 → Int32 → Int32 → Int32 → Int32 → Int32 → ST → (Int32 × ST)} (hK137 : ∀ (q0 : Int32) (q1 : Int32) (q2 : Int32) (q3 : Int32) (q4 : Int32) (q5 : Int32) (q6 : Int32) (q7 : Int32) (τ : ST), LQ u w τ → LQP u w (K137 q0 q1 q2 q3 q4 q5 q6 q7 τ)) {K150 : Int32 → Int32 → Int32 → Int32 → Int32 → Int32 → Int32 → Int32 → Int32 → Int32 → ST → (Int32 × ST)} (hK150 : ∀ (q0 : Int32) (q1 : Int32) (q2 : Int32) (q3 : Int32) (q4 : Int32) (q5 : Int32) (q6 : Int32) (q7 : Int32) (q8 : Int32) (q9 : Int32) (τ : ST), LQ u w τ → LQP u w (K150 q0 q1 q2 q3 q4 q5 q6 q7 q8 q9 τ)) {l1 : Int32} {l2 : Int32} {l4 : Int32} {l5 : Int32} {l6 : Int32} {l7 : Int32} {l8 : Int32} {l9 : Int32} {l11 : Int32} {t0 : Int32} {t1 : Int32} {σ : ST} (h_σ : LQ u w σ) : LQP u w (fX12_twice_0b203 K124 K137 K150 l1 l2 l4 l5 l6 l7 l8 l9 l11 t0 t1 σ) := by
  unfold fX12_twice_0b203
  exact lqb_fX12_twice_0b210 hK124 hK137 hK150 h_σ
theorem lqb_fX12_twice_0b156 {u w : Int64} {K124 : Int32 → Int32 → Int32 → Int32 → Int32 → Int32 → Int32 → ST → (Int32 × ST)} (hK124 : ∀ (q0 : Int32) (q1 : Int32) (q2 : Int32) (q3 : Int32) (q4 : Int32) (q5 : Int32) (q6 : Int32) (τ : ST), LQ u w τ → LQP u w (K124 q0 q1 q2 q3 q4 q5 q6 τ)) {K137 : Int32 → Int32 → Int32 → Int32 → Int32 → Int32 → Int32 → Int32 → ST → (Int32 × ST)} (hK137 : ∀ (q0 : Int32) (q1 : Int32) (q2 : Int32) (q3 : Int32) (q4 : Int32) (q5 : Int32) (q6 : Int32) (q7 : Int32) (τ : ST), LQ u w τ → LQP u w (K137 q0 q1 q2 q3 q4 q5 q6 q7 τ)) {K150 : Int32 → Int32 → Int32 → Int32 → Int32 → Int32 → Int32 → Int32 → Int32 → Int32 → ST → (Int32 × ST)} (hK150 : ∀ (q0 : Int32) (q1 : Int32) (q2 : Int32) (q3 : Int32) (q4 : Int32) (q5 : Int32) (q6 : Int32) (q7 : Int32) (q8 : Int32) (q9 : Int32) (τ : ST), LQ u w τ → LQP u w (K150 q0 q1 q2 q3 q4 q5 q6 q7 q8 q9 τ)) {l1 : Int32} {l2 : Int32} {l4 : Int32} {l5 : Int32} {l6 : Int32} {l7 : Int32} {l8 : Int32} {l9 : Int32} {l10 : Int32} {l11 : Int32} {σ : ST} (h_σ : LQ u w σ) : LQP u w (fX12_twice_0b156 K124 K137 K150 l1 l2 l4 l5 l6 l7 l8 l9 l10 l11 σ) := by
  unfold fX12_twice_0b156
  refine lqbd2 fun v163 _ => ?_
  refine lqbd2 fun v166 _ => ?_
  refine lqbd2 fun v167 _ => ?_
  refine lqbd2 fun v175 _ => ?_
  refine lqbd2 fun v178 _ => ?_
  refine lqbd2 fun v179 _ => ?_
  refine lqbd2 fun v180 _ => ?_
  refine lqbd2 fun v191 _ => ?_
  refine lqbd2 fun v194 _ => ?_
  refine lqbd2 fun v195 _ => ?_
  exact lqite2 (lqb_fX12_twice_0b208 hK124 hK137 hK150 h_σ) (lqb_fX12_twice_0b203 hK124 hK137 hK150 h_σ)
theorem lqb_fX12_twice_0b150 {u w : Int64} {K124 : Int32 → Int32 → Int32 → Int32 → Int32 → Int32 → Int32 → ST → (Int32 × ST)} (hK124 : ∀ (q0 : Int32) (q1 : Int32) (q2 : Int32) (q3 : Int32) (q4 : Int32) (q5 : Int32) (q6 : Int32) (τ : ST), LQ u w τ → LQP u w (K124 q0 q1 q2 q3 q4 q5 q6 τ)) {K137 : Int32 → Int32 → Int32 → Int32 → Int32 → Int32 → Int32 → Int32 → ST → (Int32 × ST)} (hK137 : ∀ (q0 : Int32) (q1 : Int32) (q2 : Int32) (q3 : Int32) (q4 : Int32) (q5 : Int32) (q6 : Int32) (q7 : Int32) (τ : ST), LQ u w τ → LQP u w (K137 q0 q1 q2 q3 q4 q5 q6 q7 τ)) {K150 : Int32 → Int32 → Int32 → Int32 → Int32 → Int32 → Int32 → Int32 → Int32 → Int32 → ST → (Int32 × ST)} (hK150 : ∀ (q0 : Int32) (q1 : Int32) (q2 : Int32) (q3 : Int32) (q4 : Int32) (q5 : Int32) (q6 : Int32) (q7 : Int32) (q8 : Int32) (q9 : Int32) (τ : ST), LQ u w τ → LQP u w (K150 q0 q1 q2 q3 q4 q5 q6 q7 q8 q9 τ)) {l1 : Int32} {l2 : Int32} {l4 : Int32} {l5 : Int32} {l6 : Int32} {l7 : Int32} {l8 : Int32} {l9 : Int32} {l10 : Int32} {l11 : Int32} {σ : ST} (h_σ : LQ u w σ) : LQP u w (fX12_twice_0b150 K124 K137 K150 l1 l2 l4 l5 l6 l7 l8 l9 l10 l11 σ) := by
  unfold fX12_twice_0b150
  exact lqite2 (lqb_fX12_twice_0b223 hK124 hK137 h_σ) (lqb_fX12_twice_0b156 hK124 hK137 hK150 h_σ)
theorem lqb_fX12_twice_0l150 {u w : Int64} {K124 : Int32 → Int32 → Int32 → Int32 → Int32 → Int32 → Int32 → ST → (Int32 × ST)} (hK124 : ∀ (q0 : Int32) (q1 : Int32) (q2 : Int32) (q3 : Int32) (q4 : Int32) (q5 : Int32) (q6 : Int32) (τ : ST), LQ u w τ → LQP u w (K124 q0 q1 q2 q3 q4 q5 q6 τ)) {K137 : Int32 → Int32 → Int32 → Int32 → Int32 → Int32 → Int32 → Int32 → ST → (Int32 × ST)} (hK137 : ∀ (q0 : Int32) (q1 : Int32) (q2 : Int32) (q3 : Int32) (q4 : Int32) (q5 : Int32) (q6 : Int32) (q7 : Int32) (τ : ST), LQ u w τ → LQP u w (K137 q0 q1 q2 q3 q4 q5 q6 q7 τ)) : ∀ (fu : Nat) {q0 : Int32} {q1 : Int32} {q2 : Int32} {q3 : Int32} {q4 : Int32} {q5 : Int32} {q6 : Int32} {q7 : Int32} {q8 : Int32} {q9 : Int32} {τ : ST} (h : LQ u w τ), LQP u w (fX12_twice_0l150 K124 K137 fu q0 q1 q2 q3 q4 q5 q6 q7 q8 q9 τ)
  | 0, _, _, _, _, _, _, _, _, _, _, _, h => h
  | fu + 1, _, _, _, _, _, _, _, _, _, _, _, h => lqb_fX12_twice_0b150 hK124 hK137 (fun _ _ _ _ _ _ _ _ _ _ _ q => lqb_fX12_twice_0l150 hK124 hK137 fu q) h
theorem lqb_fX12_twice_0b144 {u w : Int64} {K124 : Int32 → Int32 → Int32 → Int32 → Int32 → Int32 → Int32 → ST → (Int32 × ST)} (hK124 : ∀ (q0 : Int32) (q1 : Int32) (q2 : Int32) (q3 : Int32) (q4 : Int32) (q5 : Int32) (q6 : Int32) (τ : ST), LQ u w τ → LQP u w (K124 q0 q1 q2 q3 q4 q5 q6 τ)) {K137 : Int32 → Int32 → Int32 → Int32 → Int32 → Int32 → Int32 → Int32 → ST → (Int32 × ST)} (hK137 : ∀ (q0 : Int32) (q1 : Int32) (q2 : Int32) (q3 : Int32) (q4 : Int32) (q5 : Int32) (q6 : Int32) (q7 : Int32) (τ : ST), LQ u w τ → LQP u w (K137 q0 q1 q2 q3 q4 q5 q6 q7 τ)) {l1 : Int32} {l2 : Int32} {l4 : Int32} {l5 : Int32} {l6 : Int32} {l7 : Int32} {l8 : Int32} {l9 : Int32} {σ : ST} (h_σ : LQ u w σ) : LQP u w (fX12_twice_0b144 K124 K137 l1 l2 l4 l5 l6 l7 l8 l9 σ) := by
  unfold fX12_twice_0b144
  exact lqb_fX12_twice_0l150 hK124 hK137 _ h_σ
theorem lqb_fX12_twice_0b137 {u w : Int64} {K124 : Int32 → Int32 → Int32 → Int32 → Int32 → Int32 → Int32 → ST → (Int32 × ST)} (hK124 : ∀ (q0 : Int32) (q1 : Int32) (q2 : Int32) (q3 : Int32) (q4 : Int32) (q5 : Int32) (q6 : Int32) (τ : ST), LQ u w τ → LQP u w (K124 q0 q1 q2 q3 q4 q5 q6 τ)) {K137 : Int32 → Int32 → Int32 → Int32 → Int32 → Int32 → Int32 → Int32 → ST → (Int32 × ST)} (hK137 : ∀ (q0 : Int32) (q1 : Int32) (q2 : Int32) (q3 : Int32) (q4 : Int32) (q5 : Int32) (q6 : Int32) (q7 : Int32) (τ : ST), LQ u w τ → LQP u w (K137 q0 q1 q2 q3 q4 q5 q6 q7 τ)) {l1 : Int32} {l2 : Int32} {l4 : Int32} {l5 : Int32} {l6 : Int32} {l7 : Int32} {l8 : Int32} {l9 : Int32} {σ : ST} (h_σ : LQ u w σ) : LQP u w (fX12_twice_0b137 K124 K137 l1 l2 l4 l5 l6 l7 l8 l9 σ) := by
  unfold fX12_twice_0b137
  exact lqite2 (lqb_fX12_twice_0b270 hK124 h_σ) (lqb_fX12_twice_0b144 hK124 hK137 h_σ)
theorem lqb_fX12_twice_0l137 {u w : Int64} {K124 : Int32 → Int32 → Int32 → Int32 → Int32 → Int32 → Int32 → ST → (Int32 × ST)} (hK124 : ∀ (q0 : Int32) (q1 : Int32) (q2 : Int32) (q3 : Int32) (q4 : Int32) (q5 : Int32) (q6 : Int32) (τ : ST), LQ u w τ → LQP u w (K124 q0 q1 q2 q3 q4 q5 q6 τ)) : ∀ (fu : Nat) {q0 : Int32} {q1 : Int32} {q2 : Int32} {q3 : Int32} {q4 : Int32} {q5 : Int32} {q6 : Int32} {q7 : Int32} {τ : ST} (h : LQ u w τ), LQP u w (fX12_twice_0l137 K124 fu q0 q1 q2 q3 q4 q5 q6 q7 τ)
  | 0, _, _, _, _, _, _, _, _, _, h => h
  | fu + 1, _, _, _, _, _, _, _, _, _, h => lqb_fX12_twice_0b137 hK124 (fun _ _ _ _ _ _ _ _ _ q => lqb_fX12_twice_0l137 hK124 fu q) h
theorem lqb_fX12_twice_0b131 {u w : Int64} {K124 : Int32 → Int32 → Int32 → Int32 → Int32 → Int32 → Int32 → ST → (Int32 × ST)} (hK124 : ∀ (q0 : Int32) (q1 : Int32) (q2 : Int32) (q3 : Int32) (q4 : Int32) (q5 : Int32) (q6 : Int32) (τ : ST), LQ u w τ → LQP u w (K124 q0 q1 q2 q3 q4 q5 q6 τ)) {l1 : Int32} {l2 : Int32} {l4 : Int32} {l5 : Int32} {l6 : Int32} {l7 : Int32} {l8 : Int32} {σ : ST} (h_σ : LQ u w σ) : LQP u w (fX12_twice_0b131 K124 l1 l2 l4 l5 l6 l7 l8 σ) := by
  unfold fX12_twice_0b131
  refine lqbd2 fun v134 _ => ?_
  exact lqb_fX12_twice_0l137 hK124 _ h_σ
theorem lqb_fX12_twice_0b124 {u w : Int64} {K124 : Int32 → Int32 → Int32 → Int32 → Int32 → Int32 → Int32 → ST → (Int32 × ST)} (hK124 : ∀ (q0 : Int32) (q1 : Int32) (q2 : Int32) (q3 : Int32) (q4 : Int32) (q5 : Int32) (q6 : Int32) (τ : ST), LQ u w τ → LQP u w (K124 q0 q1 q2 q3 q4 q5 q6 τ)) {l1 : Int32} {l2 : Int32} {l4 : Int32} {l5 : Int32} {l6 : Int32} {l7 : Int32} {l8 : Int32} {σ : ST} (h_σ : LQ u w σ) : LQP u w (fX12_twice_0b124 K124 l1 l2 l4 l5 l6 l7 l8 σ) := by
  unfold fX12_twice_0b124
  exact lqite2 (lqb_fX12_twice_0b276  h_σ) (lqb_fX12_twice_0b131 hK124 h_σ)
theorem lqb_fX12_twice_0l124 {u w : Int64}  : ∀ (fu : Nat) {q0 : Int32} {q1 : Int32} {q2 : Int32} {q3 : Int32} {q4 : Int32} {q5 : Int32} {q6 : Int32} {τ : ST} (h : LQ u w τ), LQP u w (fX12_twice_0l124 fu q0 q1 q2 q3 q4 q5 q6 τ)
  | 0, _, _, _, _, _, _, _, _, h => h
  | fu + 1, _, _, _, _, _, _, _, _, h => lqb_fX12_twice_0b124 (fun _ _ _ _ _ _ _ _ q => lqb_fX12_twice_0l124  fu q) h
theorem lqb_fX12_twice_0b88 {u w : Int64}  {l1 : Int32} {l2 : Int32} {l3 : Int32} {σ : ST} (h_σ : LQ u w σ) : LQP u w (fX12_twice_0b88 l1 l2 l3 σ) := by
  unfold fX12_twice_0b88
  refine lqbd2 fun v102 _ => ?_
  refine lqbd2 fun v103 _ => ?_
  refine lqbd2 fun v105 _ => ?_
  refine lqbd2 fun v113 _ => ?_
  refine lqbd2 fun v116 _ => ?_
  exact lqb_fX12_twice_0l124  _ h_σ
theorem lqb_fX12_twice_0b48 {u w : Int64} {K42 : Int32 → Int32 → Int32 → Int32 → ST → (Int32 × ST)} (hK42 : ∀ (q0 : Int32) (q1 : Int32) (q2 : Int32) (q3 : Int32) (τ : ST), LQ u w τ → LQP u w (K42 q0 q1 q2 q3 τ)) {l1 : Int32} {l2 : Int32} {l3 : Int32} {l4 : Int32} {σ : ST} (h_σ : LQ u w σ) : LQP u w (fX12_twice_0b48 K42 l1 l2 l3 l4 σ) := by
  unfold fX12_twice_0b48
  refine lqbd2 fun v55 _ => ?_
  refine lqbd2 fun v58 _ => ?_
  refine lqbd2 fun v59 _ => ?_
  refine lqbd2 fun v70 _ => ?_
  refine lqbd2 fun v71 _ => ?_
  refine lqbd2 fun v74 _ => ?_
  refine lqbd2 fun v75 _ => ?_
  refine lqbd2 fun v76 _ => ?_
  refine lqbd2 fun v77 _ => ?_
  refine lqbd2 fun v80 _ => ?_
  refine lqbd2 fun v82 _ => ?_
  exact hK42 _ _ _ _ _ h_σ
theorem lqb_fX12_twice_0b42 {u w : Int64} {K42 : Int32 → Int32 → Int32 → Int32 → ST → (Int32 × ST)} (hK42 : ∀ (q0 : Int32) (q1 : Int32) (q2 : Int32) (q3 : Int32) (τ : ST), LQ u w τ → LQP u w (K42 q0 q1 q2 q3 τ)) {l1 : Int32} {l2 : Int32} {l3 : Int32} {l4 : Int32} {σ : ST} (h_σ : LQ u w σ) : LQP u w (fX12_twice_0b42 K42 l1 l2 l3 l4 σ) := by
  unfold fX12_twice_0b42
  exact lqite2 (lqb_fX12_twice_0b88  h_σ) (lqb_fX12_twice_0b48 hK42 h_σ)
theorem lqb_fX12_twice_0l42 {u w : Int64}  : ∀ (fu : Nat) {q0 : Int32} {q1 : Int32} {q2 : Int32} {q3 : Int32} {τ : ST} (h : LQ u w τ), LQP u w (fX12_twice_0l42 fu q0 q1 q2 q3 τ)
  | 0, _, _, _, _, _, h => h
  | fu + 1, _, _, _, _, _, h => lqb_fX12_twice_0b42 (fun _ _ _ _ _ q => lqb_fX12_twice_0l42  fu q) h
theorem lqb_fX12_twice_0b33 {u w : Int64}  {l1 : Int32} {l2 : Int32} {σ : ST} (h_σ : LQ u w σ) : LQP u w (fX12_twice_0b33 l1 l2 σ) := by
  unfold fX12_twice_0b33
  refine lqbd2 fun s34 e_s34 => ?_
  have h_s34 : LQ u w s34 := by rw [e_s34]; exact lq_fX12_findHeapMiddles_0 h_σ
  exact lqb_fX12_twice_0l42  _ h_s34
theorem lqb_fX12_twice_0b30 {u w : Int64}  {σ : ST} (h_σ : LQ u w σ) : LQP u w (fX12_twice_0b30 σ) := by
  unfold fX12_twice_0b30
  exact h_σ
theorem lqb_fX12_twice_0b23 {u w : Int64}  {l1 : Int32} {l2 : Int32} {σ : ST} (h_σ : LQ u w σ) : LQP u w (fX12_twice_0b23 l1 l2 σ) := by
  unfold fX12_twice_0b23
  refine lqbp2 fun v24 s24 e_s24 => ?_
  have h_s24 : LQ u w s24 := by rw [← e_s24]; exact lq_fX12_findBest_0 h_σ
  exact lqite2 (lqb_fX12_twice_0b30  h_s24) (lqb_fX12_twice_0b33  h_s24)
theorem lqb_fX12_twice_0b12 {u w : Int64}  {l1 : Int32} {l2 : Int32} {σ : ST} (h_σ : LQ u w σ) : LQP u w (fX12_twice_0b12 l1 l2 σ) := by
  unfold fX12_twice_0b12
  refine lqbd2 fun v15 _ => ?_
  exact lqite2 (lqb_fX12_twice_0b21  h_σ) (lqb_fX12_twice_0b23  h_σ)
theorem lqb_fX12_twice_0b0 {u w : Int64}  {l1 : Int32} {l2 : Int32} {σ : ST} (h_σ : LQ u w σ) : LQP u w (fX12_twice_0b0 l1 l2 σ) := by
  unfold fX12_twice_0b0
  refine lqbd2 fun s1 e_s1 => ?_
  have h_s1 : LQ u w s1 := by rw [e_s1]; exact lq_fX12_findPieces_0 h_σ
  refine lqbd2 fun v6 _ => ?_
  exact lqite2 (lqb_fX12_twice_0b21  h_s1) (lqb_fX12_twice_0b12  h_s1)
theorem lq_fX12_twice_0 {u w : Int64} {p1 : Int32} {p2 : Int32} {σ : ST} (h : LQ u w σ) : LQ u w (fX12_twice_0 p1 p2 σ).2 := lqb_fX12_twice_0b0 h
theorem lqb_fX12_keep_0b88 {u w : Int64}  {σ : ST} (h_σ : LQ u w σ) : LQP u w (fX12_keep_0b88 σ) := by
  unfold fX12_keep_0b88
  refine lqbd2 fun v90 _ => ?_
  refine lqbd2 fun v94 _ => ?_
  refine lqbd2 fun s95 e_s95 => ?_
  have h_s95 : LQ u w s95 := by rw [e_s95]; exact h_σ
  refine lqbd2 fun v99 _ => ?_
  refine lqbd2 fun v103 _ => ?_
  exact h_s95
theorem lqb_fX12_keep_0b57 {u w : Int64} {K51 : Int32 → Int32 → ST → (Int32 × ST)} (hK51 : ∀ (q0 : Int32) (q1 : Int32) (τ : ST), LQ u w τ → LQP u w (K51 q0 q1 τ)) {l1 : Int32} {l4 : Int32} {σ : ST} (h_σ : LQ u w σ) : LQP u w (fX12_keep_0b57 K51 l1 l4 σ) := by
  unfold fX12_keep_0b57
  refine lqbd2 fun v63 _ => ?_
  refine lqbd2 fun v66 _ => ?_
  refine lqbd2 fun v69 _ => ?_
  refine lqbd2 fun v76 _ => ?_
  refine lqbd2 fun v79 _ => ?_
  refine lqbd2 fun v80 _ => ?_
  refine lqbd2 fun s81 e_s81 => ?_
  have h_s81 : LQ u w s81 := by rw [e_s81]; exact h_σ
  refine lqbd2 fun v82 _ => ?_
  exact hK51 _ _ _ h_s81
theorem lqb_fX12_keep_0b51 {u w : Int64} {K51 : Int32 → Int32 → ST → (Int32 × ST)} (hK51 : ∀ (q0 : Int32) (q1 : Int32) (τ : ST), LQ u w τ → LQP u w (K51 q0 q1 τ)) {l1 : Int32} {l4 : Int32} {σ : ST} (h_σ : LQ u w σ) : LQP u w (fX12_keep_0b51 K51 l1 l4 σ) := by
  unfold fX12_keep_0b51
  exact lqite2 (lqb_fX12_keep_0b88  h_σ) (lqb_fX12_keep_0b57 hK51 h_σ)
theorem lqb_fX12_keep_0l51 {u w : Int64}  : ∀ (fu : Nat) {q0 : Int32} {q1 : Int32} {τ : ST} (h : LQ u w τ), LQP u w (fX12_keep_0l51 fu q0 q1 τ)
  | 0, _, _, _, h => h
  | fu + 1, _, _, _, h => lqb_fX12_keep_0b51 (fun _ _ _ q => lqb_fX12_keep_0l51  fu q) h
theorem lqb_fX12_keep_0b38 {u w : Int64}  {l1 : Int32} {l2 : Int32} {σ : ST} (h_σ : LQ u w σ) : LQP u w (fX12_keep_0b38 l1 l2 σ) := by
  unfold fX12_keep_0b38
  refine lqbd2 fun v43 _ => ?_
  refine lqbd2 fun s47 e_s47 => ?_
  have h_s47 : LQ u w s47 := by rw [e_s47]; exact h_σ
  exact lqb_fX12_keep_0l51  _ h_s47
theorem lqb_fX12_keep_0b35 {u w : Int64}  {σ : ST} (h_σ : LQ u w σ) : LQP u w (fX12_keep_0b35 σ) := by
  unfold fX12_keep_0b35
  exact h_σ
theorem lqb_fX12_keep_0b26 {u w : Int64}  {l1 : Int32} {l2 : Int32} {σ : ST} (h_σ : LQ u w σ) : LQP u w (fX12_keep_0b26 l1 l2 σ) := by
  unfold fX12_keep_0b26
  refine lqbd2 fun v27 _ => ?_
  exact lqite2 (lqb_fX12_keep_0b35  h_σ) (lqb_fX12_keep_0b38  h_σ)
theorem lqb_fX12_keep_0b24 {u w : Int64}  {l3 : Int32} {σ : ST} (h_σ : LQ u w σ) : LQP u w (fX12_keep_0b24 l3 σ) := by
  unfold fX12_keep_0b24
  exact h_σ
theorem lqb_fX12_keep_0b19 {u w : Int64}  {l1 : Int32} {l2 : Int32} {t0 : Int32} {σ : ST} (h_σ : LQ u w σ) : LQP u w (fX12_keep_0b19 l1 l2 t0 σ) := by
  unfold fX12_keep_0b19
  exact lqite2 (lqb_fX12_keep_0b26  h_σ) (lqb_fX12_keep_0b24  h_σ)
theorem lqb_fX12_keep_0b18 {u w : Int64}  {l1 : Int32} {l2 : Int32} {σ : ST} (h_σ : LQ u w σ) : LQP u w (fX12_keep_0b18 l1 l2 σ) := by
  unfold fX12_keep_0b18
  exact lqb_fX12_keep_0b19  h_σ
theorem lqb_fX12_keep_0b10 {u w : Int64}  {l1 : Int32} {l2 : Int32} {σ : ST} (h_σ : LQ u w σ) : LQP u w (fX12_keep_0b10 l1 l2 σ) := by
  unfold fX12_keep_0b10
  refine lqbp2 fun v12 s12 e_s12 => ?_
  have h_s12 : LQ u w s12 := by rw [← e_s12]; exact lq_fX12_wrong_0 h_σ
  exact lqb_fX12_keep_0b19  h_s12
theorem lqb_fX12_keep_0b0 {u w : Int64}  {l1 : Int32} {l2 : Int32} {σ : ST} (h_σ : LQ u w σ) : LQP u w (fX12_keep_0b0 l1 l2 σ) := by
  unfold fX12_keep_0b0
  refine lqbd2 fun v4 _ => ?_
  exact lqite2 (lqb_fX12_keep_0b18  h_σ) (lqb_fX12_keep_0b10  h_σ)
theorem lq_fX12_keep_0 {u w : Int64} {p1 : Int32} {p2 : Int32} {σ : ST} (h : LQ u w σ) : LQ u w (fX12_keep_0 p1 p2 σ).2 := lqb_fX12_keep_0b0 h
theorem lqb_fX12_forget_0b102 {u w : Int64}  {l2 : Int32} {σ : ST} (h_σ : LQ u w σ) : LQP u w (fX12_forget_0b102 l2 σ) := by
  unfold fX12_forget_0b102
  exact h_σ
theorem lqb_fX12_forget_0b96 {u w : Int64} {K35 : Int32 → Int32 → ST → (Int32 × ST)} (hK35 : ∀ (q0 : Int32) (q1 : Int32) (τ : ST), LQ u w τ → LQP u w (K35 q0 q1 τ)) {l2 : Int32} {l3 : Int32} {σ : ST} (h_σ : LQ u w σ) : LQP u w (fX12_forget_0b96 K35 l2 l3 σ) := by
  unfold fX12_forget_0b96
  refine lqbd2 fun v96 _ => ?_
  exact hK35 _ _ _ h_σ
theorem lqb_fX12_forget_0b66 {u w : Int64} {K35 : Int32 → Int32 → ST → (Int32 × ST)} (hK35 : ∀ (q0 : Int32) (q1 : Int32) (τ : ST), LQ u w τ → LQP u w (K35 q0 q1 τ)) {K60 : Int32 → Int32 → Int32 → ST → (Int32 × ST)} (hK60 : ∀ (q0 : Int32) (q1 : Int32) (q2 : Int32) (τ : ST), LQ u w τ → LQP u w (K60 q0 q1 q2 τ)) {l2 : Int32} {l3 : Int32} {l4 : Int32} {σ : ST} (h_σ : LQ u w σ) : LQP u w (fX12_forget_0b66 K35 K60 l2 l3 l4 σ) := by
  unfold fX12_forget_0b66
  refine lqbd2 fun v72 _ => ?_
  refine lqbd2 fun v75 _ => ?_
  refine lqbd2 fun v82 _ => ?_
  refine lqbd2 fun v84 _ => ?_
  refine lqbd2 fun v87 _ => ?_
  refine lqbd2 fun v88 _ => ?_
  refine lqbd2 fun s89 e_s89 => ?_
  have h_s89 : LQ u w s89 := by rw [e_s89]; exact h_σ
  refine lqbd2 fun v90 _ => ?_
  exact hK60 _ _ _ _ h_s89
theorem lqb_fX12_forget_0b60 {u w : Int64} {K35 : Int32 → Int32 → ST → (Int32 × ST)} (hK35 : ∀ (q0 : Int32) (q1 : Int32) (τ : ST), LQ u w τ → LQP u w (K35 q0 q1 τ)) {K60 : Int32 → Int32 → Int32 → ST → (Int32 × ST)} (hK60 : ∀ (q0 : Int32) (q1 : Int32) (q2 : Int32) (τ : ST), LQ u w τ → LQP u w (K60 q0 q1 q2 τ)) {l2 : Int32} {l3 : Int32} {l4 : Int32} {σ : ST} (h_σ : LQ u w σ) : LQP u w (fX12_forget_0b60 K35 K60 l2 l3 l4 σ) := by
  unfold fX12_forget_0b60
  exact lqite2 (lqb_fX12_forget_0b96 hK35 h_σ) (lqb_fX12_forget_0b66 hK35 hK60 h_σ)
theorem lqb_fX12_forget_0l60 {u w : Int64} {K35 : Int32 → Int32 → ST → (Int32 × ST)} (hK35 : ∀ (q0 : Int32) (q1 : Int32) (τ : ST), LQ u w τ → LQP u w (K35 q0 q1 τ)) : ∀ (fu : Nat) {q0 : Int32} {q1 : Int32} {q2 : Int32} {τ : ST} (h : LQ u w τ), LQP u w (fX12_forget_0l60 K35 fu q0 q1 q2 τ)
  | 0, _, _, _, _, h => h
  | fu + 1, _, _, _, _, h => lqb_fX12_forget_0b60 hK35 (fun _ _ _ _ q => lqb_fX12_forget_0l60 hK35 fu q) h
theorem lqb_fX12_forget_0b43 {u w : Int64} {K35 : Int32 → Int32 → ST → (Int32 × ST)} (hK35 : ∀ (q0 : Int32) (q1 : Int32) (τ : ST), LQ u w τ → LQP u w (K35 q0 q1 τ)) {l2 : Int32} {l3 : Int32} {σ : ST} (h_σ : LQ u w σ) : LQP u w (fX12_forget_0b43 K35 l2 l3 σ) := by
  unfold fX12_forget_0b43
  refine lqbd2 fun v54 _ => ?_
  refine lqbd2 fun v55 _ => ?_
  refine lqbd2 fun s56 e_s56 => ?_
  have h_s56 : LQ u w s56 := by rw [e_s56]; exact h_σ
  exact lqb_fX12_forget_0l60 hK35 _ h_s56
theorem lqb_fX12_forget_0b35 {u w : Int64} {K35 : Int32 → Int32 → ST → (Int32 × ST)} (hK35 : ∀ (q0 : Int32) (q1 : Int32) (τ : ST), LQ u w τ → LQP u w (K35 q0 q1 τ)) {l2 : Int32} {l3 : Int32} {σ : ST} (h_σ : LQ u w σ) : LQP u w (fX12_forget_0b35 K35 l2 l3 σ) := by
  unfold fX12_forget_0b35
  refine lqbd2 fun v37 _ => ?_
  exact lqite2 (lqb_fX12_forget_0b102  h_σ) (lqb_fX12_forget_0b43 hK35 h_σ)
theorem lqb_fX12_forget_0l35 {u w : Int64}  : ∀ (fu : Nat) {q0 : Int32} {q1 : Int32} {τ : ST} (h : LQ u w τ), LQP u w (fX12_forget_0l35 fu q0 q1 τ)
  | 0, _, _, _, h => h
  | fu + 1, _, _, _, h => lqb_fX12_forget_0b35 (fun _ _ _ q => lqb_fX12_forget_0l35  fu q) h
theorem lqb_fX12_forget_0b16 {u w : Int64}  {l1 : Int32} {σ : ST} (h_σ : LQ u w σ) : LQP u w (fX12_forget_0b16 l1 σ) := by
  unfold fX12_forget_0b16
  refine lqbd2 fun v21 _ => ?_
  refine lqbd2 fun v25 _ => ?_
  refine lqbd2 fun v29 _ => ?_
  refine lqbd2 fun s30 e_s30 => ?_
  have h_s30 : LQ u w s30 := by rw [e_s30]; exact h_σ
  exact lqb_fX12_forget_0l35  _ h_s30
theorem lqb_fX12_forget_0b14 {u w : Int64}  {σ : ST} (h_σ : LQ u w σ) : LQP u w (fX12_forget_0b14 σ) := by
  unfold fX12_forget_0b14
  exact h_σ
theorem lqb_fX12_forget_0b0 {u w : Int64}  {l1 : Int32} {σ : ST} (h_σ : LQ u w σ) : LQP u w (fX12_forget_0b0 l1 σ) := by
  unfold fX12_forget_0b0
  refine lqbd2 fun v3 _ => ?_
  refine lqbd2 fun v7 _ => ?_
  refine lqbd2 fun v8 _ => ?_
  exact lqite2 (lqb_fX12_forget_0b14  h_σ) (lqb_fX12_forget_0b16  h_σ)
theorem lq_fX12_forget_0 {u w : Int64} {p1 : Int32} {σ : ST} (h : LQ u w σ) : LQ u w (fX12_forget_0 p1 σ).2 := lqb_fX12_forget_0b0 h
theorem lqb_fX12_back_0b163 {u w : Int64}  {t0 : Int32} {σ : ST} (h_σ : LQ u w σ) : LQP u w (fX12_back_0b163 t0 σ) := by
  unfold fX12_back_0b163
  exact h_σ
theorem lqb_fX12_back_0b151 {u w : Int64}  {l4 : Int32} {σ : ST} (h_σ : LQ u w σ) : LQP u w (fX12_back_0b151 l4 σ) := by
  unfold fX12_back_0b151
  exact lqb_fX12_back_0b163  h_σ
theorem lqb_fX12_back_0b156 {u w : Int64}  {l4 : Int32} {σ : ST} (h_σ : LQ u w σ) : LQP u w (fX12_back_0b156 l4 σ) := by
  unfold fX12_back_0b156
  refine lqbd2 fun v162 _ => ?_
  exact lqb_fX12_back_0b163  h_σ
theorem lqb_fX12_back_0b146 {u w : Int64}  {l2 : Int32} {l4 : Int32} {σ : ST} (h_σ : LQ u w σ) : LQP u w (fX12_back_0b146 l2 l4 σ) := by
  unfold fX12_back_0b146
  exact lqite2 (lqb_fX12_back_0b151  h_σ) (lqb_fX12_back_0b156  h_σ)
theorem lqb_fX12_back_0b139 {u w : Int64}  {l2 : Int32} {l4 : Int32} {σ : ST} (h_σ : LQ u w σ) : LQP u w (fX12_back_0b139 l2 l4 σ) := by
  unfold fX12_back_0b139
  exact lqite2 (lqb_fX12_back_0b151  h_σ) (lqb_fX12_back_0b146  h_σ)
theorem lqb_fX12_back_0b131 {u w : Int64} {K42 : Int32 → Int32 → Int32 → Int32 → Int32 → ST → (Int32 × ST)} (hK42 : ∀ (q0 : Int32) (q1 : Int32) (q2 : Int32) (q3 : Int32) (q4 : Int32) (τ : ST), LQ u w τ → LQP u w (K42 q0 q1 q2 q3 q4 τ)) {l1 : Int32} {l2 : Int32} {l4 : Int32} {l6 : Int32} {t0 : Int32} {σ : ST} (h_σ : LQ u w σ) : LQP u w (fX12_back_0b131 K42 l1 l2 l4 l6 t0 σ) := by
  unfold fX12_back_0b131
  refine lqbd2 fun v133 _ => ?_
  exact hK42 _ _ _ _ _ _ h_σ
theorem lqb_fX12_back_0b129 {u w : Int64} {K42 : Int32 → Int32 → Int32 → Int32 → Int32 → ST → (Int32 × ST)} (hK42 : ∀ (q0 : Int32) (q1 : Int32) (q2 : Int32) (q3 : Int32) (q4 : Int32) (τ : ST), LQ u w τ → LQP u w (K42 q0 q1 q2 q3 q4 τ)) {l1 : Int32} {l2 : Int32} {l4 : Int32} {l5 : Int32} {l6 : Int32} {σ : ST} (h_σ : LQ u w σ) : LQP u w (fX12_back_0b129 K42 l1 l2 l4 l5 l6 σ) := by
  unfold fX12_back_0b129
  exact lqb_fX12_back_0b131 hK42 h_σ
theorem lqb_fX12_back_0b124 {u w : Int64} {K42 : Int32 → Int32 → Int32 → Int32 → Int32 → ST → (Int32 × ST)} (hK42 : ∀ (q0 : Int32) (q1 : Int32) (q2 : Int32) (q3 : Int32) (q4 : Int32) (τ : ST), LQ u w τ → LQP u w (K42 q0 q1 q2 q3 q4 τ)) {l1 : Int32} {l2 : Int32} {l4 : Int32} {l6 : Int32} {l7 : Int32} {σ : ST} (h_σ : LQ u w σ) : LQP u w (fX12_back_0b124 K42 l1 l2 l4 l6 l7 σ) := by
  unfold fX12_back_0b124
  exact lqb_fX12_back_0b131 hK42 h_σ
theorem lqb_fX12_back_0b115 {u w : Int64} {K42 : Int32 → Int32 → Int32 → Int32 → Int32 → ST → (Int32 × ST)} (hK42 : ∀ (q0 : Int32) (q1 : Int32) (q2 : Int32) (q3 : Int32) (q4 : Int32) (τ : ST), LQ u w τ → LQP u w (K42 q0 q1 q2 q3 q4 τ)) {l1 : Int32} {l2 : Int32} {l5 : Int32} {l6 : Int32} {l7 : Int32} {t0 : Int32} {σ : ST} (h_σ : LQ u w σ) : LQP u w (fX12_back_0b115 K42 l1 l2 l5 l6 l7 t0 σ) := by
  unfold fX12_back_0b115
  exact lqite2 (lqb_fX12_back_0b129 hK42 h_σ) (lqb_fX12_back_0b124 hK42 h_σ)
theorem lqb_fX12_back_0b113 {u w : Int64} {K42 : Int32 → Int32 → Int32 → Int32 → Int32 → ST → (Int32 × ST)} (hK42 : ∀ (q0 : Int32) (q1 : Int32) (q2 : Int32) (q3 : Int32) (q4 : Int32) (τ : ST), LQ u w τ → LQP u w (K42 q0 q1 q2 q3 q4 τ)) {l1 : Int32} {l2 : Int32} {l4 : Int32} {l5 : Int32} {l6 : Int32} {l7 : Int32} {σ : ST} (h_σ : LQ u w σ) : LQP u w (fX12_back_0b113 K42 l1 l2 l4 l5 l6 l7 σ) := by
  unfold fX12_back_0b113
  exact lqb_fX12_back_0b115 hK42 h_σ
theorem lqb_fX12_back_0b108 {u w : Int64} {K42 : Int32 → Int32 → Int32 → Int32 → Int32 → ST → (Int32 × ST)} (hK42 : ∀ (q0 : Int32) (q1 : Int32) (q2 : Int32) (q3 : Int32) (q4 : Int32) (τ : ST), LQ u w τ → LQP u w (K42 q0 q1 q2 q3 q4 τ)) {l1 : Int32} {l2 : Int32} {l5 : Int32} {l6 : Int32} {l7 : Int32} {σ : ST} (h_σ : LQ u w σ) : LQP u w (fX12_back_0b108 K42 l1 l2 l5 l6 l7 σ) := by
  unfold fX12_back_0b108
  exact lqb_fX12_back_0b115 hK42 h_σ
theorem lqb_fX12_back_0b101 {u w : Int64} {K42 : Int32 → Int32 → Int32 → Int32 → Int32 → ST → (Int32 × ST)} (hK42 : ∀ (q0 : Int32) (q1 : Int32) (q2 : Int32) (q3 : Int32) (q4 : Int32) (τ : ST), LQ u w τ → LQP u w (K42 q0 q1 q2 q3 q4 τ)) {l1 : Int32} {l2 : Int32} {l4 : Int32} {l5 : Int32} {l6 : Int32} {l7 : Int32} {σ : ST} (h_σ : LQ u w σ) : LQP u w (fX12_back_0b101 K42 l1 l2 l4 l5 l6 l7 σ) := by
  unfold fX12_back_0b101
  exact lqite2 (lqb_fX12_back_0b113 hK42 h_σ) (lqb_fX12_back_0b108 hK42 h_σ)
theorem lqb_fX12_back_0b63 {u w : Int64} {K42 : Int32 → Int32 → Int32 → Int32 → Int32 → ST → (Int32 × ST)} (hK42 : ∀ (q0 : Int32) (q1 : Int32) (q2 : Int32) (q3 : Int32) (q4 : Int32) (τ : ST), LQ u w τ → LQP u w (K42 q0 q1 q2 q3 q4 τ)) {K57 : Int32 → Int32 → Int32 → Int32 → Int32 → Int32 → Int32 → ST → (Int32 × ST)} (hK57 : ∀ (q0 : Int32) (q1 : Int32) (q2 : Int32) (q3 : Int32) (q4 : Int32) (q5 : Int32) (q6 : Int32) (τ : ST), LQ u w τ → LQP u w (K57 q0 q1 q2 q3 q4 q5 q6 τ)) {l1 : Int32} {l2 : Int32} {l4 : Int32} {l5 : Int32} {l6 : Int32} {l7 : Int32} {l8 : Int32} {σ : ST} (h_σ : LQ u w σ) : LQP u w (fX12_back_0b63 K42 K57 l1 l2 l4 l5 l6 l7 l8 σ) := by
  unfold fX12_back_0b63
  refine lqbd2 fun v71 _ => ?_
  refine lqbd2 fun v74 _ => ?_
  refine lqbd2 fun v75 _ => ?_
  refine lqbd2 fun v83 _ => ?_
  refine lqbd2 fun v86 _ => ?_
  refine lqbd2 fun v87 _ => ?_
  refine lqbd2 fun v88 _ => ?_
  refine lqbd2 fun v89 _ => ?_
  refine lqbd2 fun v92 _ => ?_
  refine lqbd2 fun v95 _ => ?_
  exact hK57 _ _ _ _ _ _ _ _ h_σ
theorem lqb_fX12_back_0b57 {u w : Int64} {K42 : Int32 → Int32 → Int32 → Int32 → Int32 → ST → (Int32 × ST)} (hK42 : ∀ (q0 : Int32) (q1 : Int32) (q2 : Int32) (q3 : Int32) (q4 : Int32) (τ : ST), LQ u w τ → LQP u w (K42 q0 q1 q2 q3 q4 τ)) {K57 : Int32 → Int32 → Int32 → Int32 → Int32 → Int32 → Int32 → ST → (Int32 × ST)} (hK57 : ∀ (q0 : Int32) (q1 : Int32) (q2 : Int32) (q3 : Int32) (q4 : Int32) (q5 : Int32) (q6 : Int32) (τ : ST), LQ u w τ → LQP u w (K57 q0 q1 q2 q3 q4 q5 q6 τ)) {l1 : Int32} {l2 : Int32} {l4 : Int32} {l5 : Int32} {l6 : Int32} {l7 : Int32} {l8 : Int32} {σ : ST} (h_σ : LQ u w σ) : LQP u w (fX12_back_0b57 K42 K57 l1 l2 l4 l5 l6 l7 l8 σ) := by
  unfold fX12_back_0b57
  exact lqite2 (lqb_fX12_back_0b101 hK42 h_σ) (lqb_fX12_back_0b63 hK42 hK57 h_σ)
theorem lqb_fX12_back_0l57 {u w : Int64} {K42 : Int32 → Int32 → Int32 → Int32 → Int32 → ST → (Int32 × ST)} (hK42 : ∀ (q0 : Int32) (q1 : Int32) (q2 : Int32) (q3 : Int32) (q4 : Int32) (τ : ST), LQ u w τ → LQP u w (K42 q0 q1 q2 q3 q4 τ)) : ∀ (fu : Nat) {q0 : Int32} {q1 : Int32} {q2 : Int32} {q3 : Int32} {q4 : Int32} {q5 : Int32} {q6 : Int32} {τ : ST} (h : LQ u w τ), LQP u w (fX12_back_0l57 K42 fu q0 q1 q2 q3 q4 q5 q6 τ)
  | 0, _, _, _, _, _, _, _, _, h => h
  | fu + 1, _, _, _, _, _, _, _, _, h => lqb_fX12_back_0b57 hK42 (fun _ _ _ _ _ _ _ _ q => lqb_fX12_back_0l57 hK42 fu q) h
theorem lqb_fX12_back_0b51 {u w : Int64} {K42 : Int32 → Int32 → Int32 → Int32 → Int32 → ST → (Int32 × ST)} (hK42 : ∀ (q0 : Int32) (q1 : Int32) (q2 : Int32) (q3 : Int32) (q4 : Int32) (τ : ST), LQ u w τ → LQP u w (K42 q0 q1 q2 q3 q4 τ)) {l1 : Int32} {l2 : Int32} {l4 : Int32} {l5 : Int32} {l6 : Int32} {σ : ST} (h_σ : LQ u w σ) : LQP u w (fX12_back_0b51 K42 l1 l2 l4 l5 l6 σ) := by
  unfold fX12_back_0b51
  exact lqb_fX12_back_0l57 hK42 _ h_σ
theorem lqb_fX12_back_0b42 {u w : Int64} {K42 : Int32 → Int32 → Int32 → Int32 → Int32 → ST → (Int32 × ST)} (hK42 : ∀ (q0 : Int32) (q1 : Int32) (q2 : Int32) (q3 : Int32) (q4 : Int32) (τ : ST), LQ u w τ → LQP u w (K42 q0 q1 q2 q3 q4 τ)) {l1 : Int32} {l2 : Int32} {l4 : Int32} {l5 : Int32} {l6 : Int32} {σ : ST} (h_σ : LQ u w σ) : LQP u w (fX12_back_0b42 K42 l1 l2 l4 l5 l6 σ) := by
  unfold fX12_back_0b42
  refine lqbd2 fun v45 _ => ?_
  exact lqite2 (lqb_fX12_back_0b139  h_σ) (lqb_fX12_back_0b51 hK42 h_σ)
theorem lqb_fX12_back_0l42 {u w : Int64}  : ∀ (fu : Nat) {q0 : Int32} {q1 : Int32} {q2 : Int32} {q3 : Int32} {q4 : Int32} {τ : ST} (h : LQ u w τ), LQP u w (fX12_back_0l42 fu q0 q1 q2 q3 q4 τ)
  | 0, _, _, _, _, _, _, h => h
  | fu + 1, _, _, _, _, _, _, h => lqb_fX12_back_0b42 (fun _ _ _ _ _ _ q => lqb_fX12_back_0l42  fu q) h
theorem lqb_fX12_back_0b25 {u w : Int64}  {l1 : Int32} {l2 : Int32} {σ : ST} (h_σ : LQ u w σ) : LQP u w (fX12_back_0b25 l1 l2 σ) := by
  unfold fX12_back_0b25
  refine lqbd2 fun v34 _ => ?_
  refine lqbd2 fun v36 _ => ?_
  exact lqb_fX12_back_0l42  _ h_σ
theorem lqb_fX12_back_0b23 {u w : Int64}  {l3 : Int32} {σ : ST} (h_σ : LQ u w σ) : LQP u w (fX12_back_0b23 l3 σ) := by
  unfold fX12_back_0b23
  exact h_σ
theorem lqb_fX12_back_0b18 {u w : Int64}  {l1 : Int32} {l2 : Int32} {t0 : Int32} {σ : ST} (h_σ : LQ u w σ) : LQP u w (fX12_back_0b18 l1 l2 t0 σ) := by
  unfold fX12_back_0b18
  exact lqite2 (lqb_fX12_back_0b25  h_σ) (lqb_fX12_back_0b23  h_σ)
theorem lqb_fX12_back_0b17 {u w : Int64}  {l1 : Int32} {l2 : Int32} {σ : ST} (h_σ : LQ u w σ) : LQP u w (fX12_back_0b17 l1 l2 σ) := by
  unfold fX12_back_0b17
  exact lqb_fX12_back_0b18  h_σ
theorem lqb_fX12_back_0b9 {u w : Int64}  {l1 : Int32} {l2 : Int32} {σ : ST} (h_σ : LQ u w σ) : LQP u w (fX12_back_0b9 l1 l2 σ) := by
  unfold fX12_back_0b9
  refine lqbp2 fun v11 s11 e_s11 => ?_
  have h_s11 : LQ u w s11 := by rw [← e_s11]; exact lq_fX12_wrong_0 h_σ
  exact lqb_fX12_back_0b18  h_s11
theorem lqb_fX12_back_0b0 {u w : Int64}  {l1 : Int32} {l2 : Int32} {σ : ST} (h_σ : LQ u w σ) : LQP u w (fX12_back_0b0 l1 l2 σ) := by
  unfold fX12_back_0b0
  refine lqbd2 fun v3 _ => ?_
  exact lqite2 (lqb_fX12_back_0b17  h_σ) (lqb_fX12_back_0b9  h_σ)
theorem lq_fX12_back_0 {u w : Int64} {p1 : Int32} {p2 : Int32} {σ : ST} (h : LQ u w σ) : LQ u w (fX12_back_0 p1 p2 σ).2 := lqb_fX12_back_0b0 h
theorem lqb_fX12_odds_0b167 {u w : Int64}  {t0 : Int32} {σ : ST} (h_σ : LQ u w σ) : LQP u w (fX12_odds_0b167 t0 σ) := by
  unfold fX12_odds_0b167
  exact h_σ
theorem lqb_fX12_odds_0b165 {u w : Int64}  {l6 : Int32} {σ : ST} (h_σ : LQ u w σ) : LQP u w (fX12_odds_0b165 l6 σ) := by
  unfold fX12_odds_0b165
  exact lqb_fX12_odds_0b167  h_σ
theorem lqb_fX12_odds_0b160 {u w : Int64}  {l7 : Int32} {σ : ST} (h_σ : LQ u w σ) : LQP u w (fX12_odds_0b160 l7 σ) := by
  unfold fX12_odds_0b160
  exact lqb_fX12_odds_0b167  h_σ
theorem lqb_fX12_odds_0b156 {u w : Int64}  {l3 : Int32} {l6 : Int32} {l7 : Int32} {σ : ST} (h_σ : LQ u w σ) : LQP u w (fX12_odds_0b156 l3 l6 l7 σ) := by
  unfold fX12_odds_0b156
  exact lqite2 (lqb_fX12_odds_0b160  h_σ) (lqb_fX12_odds_0b165  h_σ)
theorem lqb_fX12_odds_0b150 {u w : Int64} {K96 : Int32 → Int32 → Int32 → Int32 → Int32 → Int32 → ST → (Int32 × ST)} (hK96 : ∀ (q0 : Int32) (q1 : Int32) (q2 : Int32) (q3 : Int32) (q4 : Int32) (q5 : Int32) (τ : ST), LQ u w τ → LQP u w (K96 q0 q1 q2 q3 q4 q5 τ)) {l2 : Int32} {l3 : Int32} {l5 : Int32} {l6 : Int32} {l7 : Int32} {l8 : Int32} {σ : ST} (h_σ : LQ u w σ) : LQP u w (fX12_odds_0b150 K96 l2 l3 l5 l6 l7 l8 σ) := by
  unfold fX12_odds_0b150
  refine lqbd2 fun v150 _ => ?_
  exact hK96 _ _ _ _ _ _ _ h_σ
theorem lqb_fX12_odds_0b147 {u w : Int64} {K96 : Int32 → Int32 → Int32 → Int32 → Int32 → Int32 → ST → (Int32 × ST)} (hK96 : ∀ (q0 : Int32) (q1 : Int32) (q2 : Int32) (q3 : Int32) (q4 : Int32) (q5 : Int32) (τ : ST), LQ u w τ → LQP u w (K96 q0 q1 q2 q3 q4 q5 τ)) {l2 : Int32} {l3 : Int32} {l5 : Int32} {l6 : Int32} {l8 : Int32} {t0 : Int32} {t1 : Int32} {σ : ST} (h_σ : LQ u w σ) : LQP u w (fX12_odds_0b147 K96 l2 l3 l5 l6 l8 t0 t1 σ) := by
  unfold fX12_odds_0b147
  refine lqbd2 fun v147 _ => ?_
  exact lqb_fX12_odds_0b150 hK96 h_σ
theorem lqb_fX12_odds_0b146 {u w : Int64} {K96 : Int32 → Int32 → Int32 → Int32 → Int32 → Int32 → ST → (Int32 × ST)} (hK96 : ∀ (q0 : Int32) (q1 : Int32) (q2 : Int32) (q3 : Int32) (q4 : Int32) (q5 : Int32) (τ : ST), LQ u w τ → LQP u w (K96 q0 q1 q2 q3 q4 q5 τ)) {l2 : Int32} {l3 : Int32} {l5 : Int32} {l6 : Int32} {l8 : Int32} {t0 : Int32} {σ : ST} (h_σ : LQ u w σ) : LQP u w (fX12_odds_0b146 K96 l2 l3 l5 l6 l8 t0 σ) := by
  unfold fX12_odds_0b146
  exact lqb_fX12_odds_0b147 hK96 h_σ
theorem lqb_fX12_odds_0b142 {u w : Int64} {K96 : Int32 → Int32 → Int32 → Int32 → Int32 → Int32 → ST → (Int32 × ST)} (hK96 : ∀ (q0 : Int32) (q1 : Int32) (q2 : Int32) (q3 : Int32) (q4 : Int32) (q5 : Int32) (τ : ST), LQ u w τ → LQP u w (K96 q0 q1 q2 q3 q4 q5 τ)) {l2 : Int32} {l3 : Int32} {l5 : Int32} {l6 : Int32} {l8 : Int32} {t0 : Int32} {σ : ST} (h_σ : LQ u w σ) : LQP u w (fX12_odds_0b142 K96 l2 l3 l5 l6 l8 t0 σ) := by
  unfold fX12_odds_0b142
  exact lqb_fX12_odds_0b147 hK96 h_σ
theorem lqb_fX12_odds_0b120 {u w : Int64} {K96 : Int32 → Int32 → Int32 → Int32 → Int32 → Int32 → ST → (Int32 × ST)} (hK96 : ∀ (q0 : Int32) (q1 : Int32) (q2 : Int32) (q3 : Int32) (q4 : Int32) (q5 : Int32) (τ : ST), LQ u w τ → LQP u w (K96 q0 q1 q2 q3 q4 q5 τ)) {l2 : Int32} {l3 : Int32} {l5 : Int32} {l6 : Int32} {l7 : Int32} {l8 : Int32} {σ : ST} (h_σ : LQ u w σ) : LQP u w (fX12_odds_0b120 K96 l2 l3 l5 l6 l7 l8 σ) := by
  unfold fX12_odds_0b120
  refine lqbd2 fun v120 _ => ?_
  refine lqbd2 fun v129 _ => ?_
  refine lqbd2 fun v136 _ => ?_
  exact lqite2 (lqb_fX12_odds_0b146 hK96 h_σ) (lqb_fX12_odds_0b142 hK96 h_σ)
theorem lqb_fX12_odds_0b107 {u w : Int64} {K96 : Int32 → Int32 → Int32 → Int32 → Int32 → Int32 → ST → (Int32 × ST)} (hK96 : ∀ (q0 : Int32) (q1 : Int32) (q2 : Int32) (q3 : Int32) (q4 : Int32) (q5 : Int32) (τ : ST), LQ u w τ → LQP u w (K96 q0 q1 q2 q3 q4 q5 τ)) {l2 : Int32} {l3 : Int32} {l5 : Int32} {l6 : Int32} {l7 : Int32} {l8 : Int32} {σ : ST} (h_σ : LQ u w σ) : LQP u w (fX12_odds_0b107 K96 l2 l3 l5 l6 l7 l8 σ) := by
  unfold fX12_odds_0b107
  refine lqbd2 fun v109 _ => ?_
  refine lqbd2 fun v114 _ => ?_
  exact lqite2 (lqb_fX12_odds_0b120 hK96 h_σ) (lqb_fX12_odds_0b150 hK96 h_σ)
theorem lqb_fX12_odds_0b96 {u w : Int64} {K96 : Int32 → Int32 → Int32 → Int32 → Int32 → Int32 → ST → (Int32 × ST)} (hK96 : ∀ (q0 : Int32) (q1 : Int32) (q2 : Int32) (q3 : Int32) (q4 : Int32) (q5 : Int32) (τ : ST), LQ u w τ → LQP u w (K96 q0 q1 q2 q3 q4 q5 τ)) {l2 : Int32} {l3 : Int32} {l5 : Int32} {l6 : Int32} {l7 : Int32} {l8 : Int32} {σ : ST} (h_σ : LQ u w σ) : LQP u w (fX12_odds_0b96 K96 l2 l3 l5 l6 l7 l8 σ) := by
  unfold fX12_odds_0b96
  refine lqbd2 fun v100 _ => ?_
  refine lqbd2 fun v103 _ => ?_
  exact lqite2 (lqb_fX12_odds_0b156  h_σ) (lqb_fX12_odds_0b107 hK96 h_σ)
theorem lqb_fX12_odds_0l96 {u w : Int64}  : ∀ (fu : Nat) {q0 : Int32} {q1 : Int32} {q2 : Int32} {q3 : Int32} {q4 : Int32} {q5 : Int32} {τ : ST} (h : LQ u w τ), LQP u w (fX12_odds_0l96 fu q0 q1 q2 q3 q4 q5 τ)
  | 0, _, _, _, _, _, _, _, h => h
  | fu + 1, _, _, _, _, _, _, _, h => lqb_fX12_odds_0b96 (fun _ _ _ _ _ _ _ q => lqb_fX12_odds_0l96  fu q) h
theorem lqb_fX12_odds_0b87 {u w : Int64}  {l2 : Int32} {l3 : Int32} {l5 : Int32} {σ : ST} (h_σ : LQ u w σ) : LQP u w (fX12_odds_0b87 l2 l3 l5 σ) := by
  unfold fX12_odds_0b87
  exact lqb_fX12_odds_0l96  _ h_σ
theorem lqb_fX12_odds_0b78 {u w : Int64} {K48 : Int32 → Int32 → Int32 → Int32 → Int32 → ST → (Int32 × ST)} (hK48 : ∀ (q0 : Int32) (q1 : Int32) (q2 : Int32) (q3 : Int32) (q4 : Int32) (τ : ST), LQ u w τ → LQP u w (K48 q0 q1 q2 q3 q4 τ)) {l1 : Int32} {l2 : Int32} {l3 : Int32} {l6 : Int32} {t0 : Int32} {t1 : Int32} {σ : ST} (h_σ : LQ u w σ) : LQP u w (fX12_odds_0b78 K48 l1 l2 l3 l6 t0 t1 σ) := by
  unfold fX12_odds_0b78
  refine lqbd2 fun v78 _ => ?_
  refine lqbd2 fun v81 _ => ?_
  exact hK48 _ _ _ _ _ _ h_σ
theorem lqb_fX12_odds_0b77 {u w : Int64} {K48 : Int32 → Int32 → Int32 → Int32 → Int32 → ST → (Int32 × ST)} (hK48 : ∀ (q0 : Int32) (q1 : Int32) (q2 : Int32) (q3 : Int32) (q4 : Int32) (τ : ST), LQ u w τ → LQP u w (K48 q0 q1 q2 q3 q4 τ)) {l1 : Int32} {l2 : Int32} {l3 : Int32} {l6 : Int32} {t0 : Int32} {σ : ST} (h_σ : LQ u w σ) : LQP u w (fX12_odds_0b77 K48 l1 l2 l3 l6 t0 σ) := by
  unfold fX12_odds_0b77
  exact lqb_fX12_odds_0b78 hK48 h_σ
theorem lqb_fX12_odds_0b70 {u w : Int64} {K48 : Int32 → Int32 → Int32 → Int32 → Int32 → ST → (Int32 × ST)} (hK48 : ∀ (q0 : Int32) (q1 : Int32) (q2 : Int32) (q3 : Int32) (q4 : Int32) (τ : ST), LQ u w τ → LQP u w (K48 q0 q1 q2 q3 q4 τ)) {l1 : Int32} {l2 : Int32} {l3 : Int32} {l6 : Int32} {t0 : Int32} {σ : ST} (h_σ : LQ u w σ) : LQP u w (fX12_odds_0b70 K48 l1 l2 l3 l6 t0 σ) := by
  unfold fX12_odds_0b70
  refine lqbd2 fun v73 _ => ?_
  exact lqb_fX12_odds_0b78 hK48 h_σ
theorem lqb_fX12_odds_0b57 {u w : Int64} {K48 : Int32 → Int32 → Int32 → Int32 → Int32 → ST → (Int32 × ST)} (hK48 : ∀ (q0 : Int32) (q1 : Int32) (q2 : Int32) (q3 : Int32) (q4 : Int32) (τ : ST), LQ u w τ → LQP u w (K48 q0 q1 q2 q3 q4 τ)) {l1 : Int32} {l2 : Int32} {l3 : Int32} {l5 : Int32} {l6 : Int32} {σ : ST} (h_σ : LQ u w σ) : LQP u w (fX12_odds_0b57 K48 l1 l2 l3 l5 l6 σ) := by
  unfold fX12_odds_0b57
  refine lqbd2 fun v65 _ => ?_
  exact lqite2 (lqb_fX12_odds_0b70 hK48 h_σ) (lqb_fX12_odds_0b77 hK48 h_σ)
theorem lqb_fX12_odds_0b48 {u w : Int64} {K48 : Int32 → Int32 → Int32 → Int32 → Int32 → ST → (Int32 × ST)} (hK48 : ∀ (q0 : Int32) (q1 : Int32) (q2 : Int32) (q3 : Int32) (q4 : Int32) (τ : ST), LQ u w τ → LQP u w (K48 q0 q1 q2 q3 q4 τ)) {l1 : Int32} {l2 : Int32} {l3 : Int32} {l5 : Int32} {l6 : Int32} {σ : ST} (h_σ : LQ u w σ) : LQP u w (fX12_odds_0b48 K48 l1 l2 l3 l5 l6 σ) := by
  unfold fX12_odds_0b48
  refine lqbd2 fun v51 _ => ?_
  exact lqite2 (lqb_fX12_odds_0b87  h_σ) (lqb_fX12_odds_0b57 hK48 h_σ)
theorem lqb_fX12_odds_0l48 {u w : Int64}  : ∀ (fu : Nat) {q0 : Int32} {q1 : Int32} {q2 : Int32} {q3 : Int32} {q4 : Int32} {τ : ST} (h : LQ u w τ), LQP u w (fX12_odds_0l48 fu q0 q1 q2 q3 q4 τ)
  | 0, _, _, _, _, _, _, h => h
  | fu + 1, _, _, _, _, _, _, h => lqb_fX12_odds_0b48 (fun _ _ _ _ _ _ q => lqb_fX12_odds_0l48  fu q) h
theorem lqb_fX12_odds_0b42 {u w : Int64}  {l1 : Int32} {l2 : Int32} {l3 : Int32} {σ : ST} (h_σ : LQ u w σ) : LQP u w (fX12_odds_0b42 l1 l2 l3 σ) := by
  unfold fX12_odds_0b42
  exact lqb_fX12_odds_0l48  _ h_σ
theorem lqb_fX12_odds_0b39 {u w : Int64}  {l4 : Int32} {σ : ST} (h_σ : LQ u w σ) : LQP u w (fX12_odds_0b39 l4 σ) := by
  unfold fX12_odds_0b39
  exact h_σ
theorem lqb_fX12_odds_0b32 {u w : Int64}  {l1 : Int32} {l2 : Int32} {l3 : Int32} {t0 : Int32} {σ : ST} (h_σ : LQ u w σ) : LQP u w (fX12_odds_0b32 l1 l2 l3 t0 σ) := by
  unfold fX12_odds_0b32
  exact lqite2 (lqb_fX12_odds_0b42  h_σ) (lqb_fX12_odds_0b39  h_σ)
theorem lqb_fX12_odds_0b31 {u w : Int64}  {l1 : Int32} {l2 : Int32} {l3 : Int32} {σ : ST} (h_σ : LQ u w σ) : LQP u w (fX12_odds_0b31 l1 l2 l3 σ) := by
  unfold fX12_odds_0b31
  exact lqb_fX12_odds_0b32  h_σ
theorem lqb_fX12_odds_0b23 {u w : Int64}  {l1 : Int32} {l2 : Int32} {l3 : Int32} {σ : ST} (h_σ : LQ u w σ) : LQP u w (fX12_odds_0b23 l1 l2 l3 σ) := by
  unfold fX12_odds_0b23
  refine lqbp2 fun v25 s25 e_s25 => ?_
  have h_s25 : LQ u w s25 := by rw [← e_s25]; exact lq_fX12_wrong_0 h_σ
  exact lqb_fX12_odds_0b32  h_s25
theorem lqb_fX12_odds_0b14 {u w : Int64}  {l1 : Int32} {l2 : Int32} {l3 : Int32} {σ : ST} (h_σ : LQ u w σ) : LQP u w (fX12_odds_0b14 l1 l2 l3 σ) := by
  unfold fX12_odds_0b14
  refine lqbd2 fun v17 _ => ?_
  exact lqite2 (lqb_fX12_odds_0b31  h_σ) (lqb_fX12_odds_0b23  h_σ)
theorem lqb_fX12_odds_0b0 {u w : Int64}  {l1 : Int32} {l2 : Int32} {l3 : Int32} {σ : ST} (h_σ : LQ u w σ) : LQP u w (fX12_odds_0b0 l1 l2 l3 σ) := by
  unfold fX12_odds_0b0
  refine lqbd2 fun v3 _ => ?_
  refine lqbd2 fun v7 _ => ?_
  refine lqbd2 fun v8 _ => ?_
  exact lqite2 (lqb_fX12_odds_0b31  h_σ) (lqb_fX12_odds_0b14  h_σ)
theorem lq_fX12_odds_0 {u w : Int64} {p1 : Int32} {p2 : Int32} {p3 : Int32} {σ : ST} (h : LQ u w σ) : LQ u w (fX12_odds_0 p1 p2 p3 σ).2 := lqb_fX12_odds_0b0 h
theorem lqb_fX12_show_0b37 {u w : Int64}  {σ : ST} (h_σ : LQ u w σ) : LQP u w (fX12_show_0b37 σ) := by
  unfold fX12_show_0b37
  refine lqbd2 fun v39 _ => ?_
  refine lqbd2 fun s42 e_s42 => ?_
  have h_s42 : LQ u w s42 := by rw [e_s42]; exact h_σ
  refine lqbd2 fun s47 e_s47 => ?_
  have h_s47 : LQ u w s47 := by rw [e_s47]; exact h_s42
  refine lqbd2 fun v51 _ => ?_
  exact h_s47
theorem lqb_fX12_show_0b20 {u w : Int64} {K12 : Int32 → ST → (Int32 × ST)} (hK12 : ∀ (q0 : Int32) (τ : ST), LQ u w τ → LQP u w (K12 q0 τ)) {l1 : Int32} {σ : ST} (h_σ : LQ u w σ) : LQP u w (fX12_show_0b20 K12 l1 σ) := by
  unfold fX12_show_0b20
  refine lqbd2 fun v27 _ => ?_
  refine lqbd2 fun s30 e_s30 => ?_
  have h_s30 : LQ u w s30 := by rw [e_s30]; exact h_σ
  refine lqbd2 fun v31 _ => ?_
  exact hK12 _ _ h_s30
theorem lqb_fX12_show_0b12 {u w : Int64} {K12 : Int32 → ST → (Int32 × ST)} (hK12 : ∀ (q0 : Int32) (τ : ST), LQ u w τ → LQP u w (K12 q0 τ)) {l1 : Int32} {σ : ST} (h_σ : LQ u w σ) : LQP u w (fX12_show_0b12 K12 l1 σ) := by
  unfold fX12_show_0b12
  refine lqbd2 fun v14 _ => ?_
  exact lqite2 (lqb_fX12_show_0b37  h_σ) (lqb_fX12_show_0b20 hK12 h_σ)
theorem lqb_fX12_show_0l12 {u w : Int64}  : ∀ (fu : Nat) {q0 : Int32} {τ : ST} (h : LQ u w τ), LQP u w (fX12_show_0l12 fu q0 τ)
  | 0, _, _, h => h
  | fu + 1, _, _, h => lqb_fX12_show_0b12 (fun _ _ q => lqb_fX12_show_0l12  fu q) h
theorem lqb_fX12_show_0b10 {u w : Int64}  {σ : ST} (h_σ : LQ u w σ) : LQP u w (fX12_show_0b10 σ) := by
  unfold fX12_show_0b10
  exact lqb_fX12_show_0l12  _ h_σ
theorem lqb_fX12_show_0b7 {u w : Int64}  {σ : ST} (h_σ : LQ u w σ) : LQP u w (fX12_show_0b7 σ) := by
  unfold fX12_show_0b7
  exact h_σ
theorem lqb_fX12_show_0b0 {u w : Int64}  {σ : ST} (h_σ : LQ u w σ) : LQP u w (fX12_show_0b0 σ) := by
  unfold fX12_show_0b0
  refine lqbp2 fun v1 s1 e_s1 => ?_
  have h_s1 : LQ u w s1 := by rw [← e_s1]; exact lq_fX12_findBest_0 h_σ
  exact lqite2 (lqb_fX12_show_0b7  h_s1) (lqb_fX12_show_0b10  h_s1)
theorem lq_fX12_show_0 {u w : Int64} {σ : ST} (h : LQ u w σ) : LQ u w (fX12_show_0 σ).2 := lqb_fX12_show_0b0 h
theorem lqb_fX12_otherwise_0b14 {u w : Int64}  {σ : ST} (h_σ : LQ u w σ) : LQP u w (fX12_otherwise_0b14 σ) := by
  unfold fX12_otherwise_0b14
  exact h_σ
theorem lqb_fX12_otherwise_0b65 {u w : Int64}  {l1 : Int32} {σ : ST} (h_σ : LQ u w σ) : LQP u w (fX12_otherwise_0b65 l1 σ) := by
  unfold fX12_otherwise_0b65
  exact h_σ
theorem lqb_fX12_otherwise_0b57 {u w : Int64} {K21 : Int32 → Int32 → ST → (Int32 × ST)} (hK21 : ∀ (q0 : Int32) (q1 : Int32) (τ : ST), LQ u w τ → LQP u w (K21 q0 q1 τ)) {l2 : Int32} {t0 : Int32} {t1 : Int32} {σ : ST} (h_σ : LQ u w σ) : LQP u w (fX12_otherwise_0b57 K21 l2 t0 t1 σ) := by
  unfold fX12_otherwise_0b57
  refine lqbd2 fun v57 _ => ?_
  refine lqbd2 fun v59 _ => ?_
  exact hK21 _ _ _ h_σ
theorem lqb_fX12_otherwise_0b56 {u w : Int64} {K21 : Int32 → Int32 → ST → (Int32 × ST)} (hK21 : ∀ (q0 : Int32) (q1 : Int32) (τ : ST), LQ u w τ → LQP u w (K21 q0 q1 τ)) {l2 : Int32} {t0 : Int32} {σ : ST} (h_σ : LQ u w σ) : LQP u w (fX12_otherwise_0b56 K21 l2 t0 σ) := by
  unfold fX12_otherwise_0b56
  exact lqb_fX12_otherwise_0b57 hK21 h_σ
theorem lqb_fX12_otherwise_0b52 {u w : Int64} {K21 : Int32 → Int32 → ST → (Int32 × ST)} (hK21 : ∀ (q0 : Int32) (q1 : Int32) (τ : ST), LQ u w τ → LQP u w (K21 q0 q1 τ)) {l2 : Int32} {t0 : Int32} {σ : ST} (h_σ : LQ u w σ) : LQP u w (fX12_otherwise_0b52 K21 l2 t0 σ) := by
  unfold fX12_otherwise_0b52
  exact lqb_fX12_otherwise_0b57 hK21 h_σ
theorem lqb_fX12_otherwise_0b37 {u w : Int64} {K21 : Int32 → Int32 → ST → (Int32 × ST)} (hK21 : ∀ (q0 : Int32) (q1 : Int32) (τ : ST), LQ u w τ → LQP u w (K21 q0 q1 τ)) {l1 : Int32} {l2 : Int32} {σ : ST} (h_σ : LQ u w σ) : LQP u w (fX12_otherwise_0b37 K21 l1 l2 σ) := by
  unfold fX12_otherwise_0b37
  refine lqbd2 fun v43 _ => ?_
  refine lqbd2 fun v46 _ => ?_
  exact lqite2 (lqb_fX12_otherwise_0b52 hK21 h_σ) (lqb_fX12_otherwise_0b56 hK21 h_σ)
theorem lqb_fX12_otherwise_0b29 {u w : Int64} {K21 : Int32 → Int32 → ST → (Int32 × ST)} (hK21 : ∀ (q0 : Int32) (q1 : Int32) (τ : ST), LQ u w τ → LQP u w (K21 q0 q1 τ)) {l1 : Int32} {l2 : Int32} {σ : ST} (h_σ : LQ u w σ) : LQP u w (fX12_otherwise_0b29 K21 l1 l2 σ) := by
  unfold fX12_otherwise_0b29
  refine lqbd2 fun v31 _ => ?_
  exact lqite2 (lqb_fX12_otherwise_0b65  h_σ) (lqb_fX12_otherwise_0b37 hK21 h_σ)
theorem lqb_fX12_otherwise_0b21 {u w : Int64} {K21 : Int32 → Int32 → ST → (Int32 × ST)} (hK21 : ∀ (q0 : Int32) (q1 : Int32) (τ : ST), LQ u w τ → LQP u w (K21 q0 q1 τ)) {l1 : Int32} {l2 : Int32} {σ : ST} (h_σ : LQ u w σ) : LQP u w (fX12_otherwise_0b21 K21 l1 l2 σ) := by
  unfold fX12_otherwise_0b21
  refine lqbd2 fun v23 _ => ?_
  exact lqite2 (lqb_fX12_otherwise_0b65  h_σ) (lqb_fX12_otherwise_0b29 hK21 h_σ)
theorem lqb_fX12_otherwise_0l21 {u w : Int64}  : ∀ (fu : Nat) {q0 : Int32} {q1 : Int32} {τ : ST} (h : LQ u w τ), LQP u w (fX12_otherwise_0l21 fu q0 q1 τ)
  | 0, _, _, _, h => h
  | fu + 1, _, _, _, h => lqb_fX12_otherwise_0b21 (fun _ _ _ q => lqb_fX12_otherwise_0l21  fu q) h
theorem lqb_fX12_otherwise_0b17 {u w : Int64}  {σ : ST} (h_σ : LQ u w σ) : LQP u w (fX12_otherwise_0b17 σ) := by
  unfold fX12_otherwise_0b17
  exact lqb_fX12_otherwise_0l21  _ h_σ
theorem lqb_fX12_otherwise_0b7 {u w : Int64}  {σ : ST} (h_σ : LQ u w σ) : LQP u w (fX12_otherwise_0b7 σ) := by
  unfold fX12_otherwise_0b7
  refine lqbp2 fun v8 s8 e_s8 => ?_
  have h_s8 : LQ u w s8 := by rw [← e_s8]; exact lq_fX12_findBest_0 h_σ
  exact lqite2 (lqb_fX12_otherwise_0b14  h_s8) (lqb_fX12_otherwise_0b17  h_s8)
theorem lqb_fX12_otherwise_0b0 {u w : Int64}  {σ : ST} (h_σ : LQ u w σ) : LQP u w (fX12_otherwise_0b0 σ) := by
  unfold fX12_otherwise_0b0
  refine lqbd2 fun v1 _ => ?_
  exact lqite2 (lqb_fX12_otherwise_0b14  h_σ) (lqb_fX12_otherwise_0b7  h_σ)
theorem lq_fX12_otherwise_0 {u w : Int64} {σ : ST} (h : LQ u w σ) : LQ u w (fX12_otherwise_0 σ).2 := lqb_fX12_otherwise_0b0 h
theorem lqb_fX12_word_0b23 {u w : Int64}  {l1 : Int32} {l2 : Int32} {σ : ST} (h_σ : LQ u w σ) : LQP u w (fX12_word_0b23 l1 l2 σ) := by
  unfold fX12_word_0b23
  refine lqbd2 fun v28 _ => ?_
  refine lqbd2 fun s32 e_s32 => ?_
  have h_s32 : LQ u w s32 := by rw [e_s32]; exact h_σ
  refine lqbd2 fun v38 _ => ?_
  refine lqbd2 fun s42 e_s42 => ?_
  have h_s42 : LQ u w s42 := by rw [e_s42]; exact h_s32
  refine lqbd2 fun v45 _ => ?_
  refine lqbd2 fun v49 _ => ?_
  refine lqbd2 fun s50 e_s50 => ?_
  have h_s50 : LQ u w s50 := by rw [e_s50]; exact h_s42
  refine lqbd2 fun v54 _ => ?_
  refine lqbd2 fun v58 _ => ?_
  exact h_s50
theorem lqb_fX12_word_0b20 {u w : Int64}  {σ : ST} (h_σ : LQ u w σ) : LQP u w (fX12_word_0b20 σ) := by
  unfold fX12_word_0b20
  exact h_σ
theorem lqb_fX12_word_0b11 {u w : Int64}  {l1 : Int32} {l2 : Int32} {σ : ST} (h_σ : LQ u w σ) : LQP u w (fX12_word_0b11 l1 l2 σ) := by
  unfold fX12_word_0b11
  refine lqbd2 fun v12 _ => ?_
  exact lqite2 (lqb_fX12_word_0b20  h_σ) (lqb_fX12_word_0b23  h_σ)
theorem lqb_fX12_word_0b9 {u w : Int64}  {σ : ST} (h_σ : LQ u w σ) : LQP u w (fX12_word_0b9 σ) := by
  unfold fX12_word_0b9
  exact h_σ
theorem lqb_fX12_word_0b0 {u w : Int64}  {l1 : Int32} {l2 : Int32} {σ : ST} (h_σ : LQ u w σ) : LQP u w (fX12_word_0b0 l1 l2 σ) := by
  unfold fX12_word_0b0
  refine lqbd2 fun v3 _ => ?_
  exact lqite2 (lqb_fX12_word_0b9  h_σ) (lqb_fX12_word_0b11  h_σ)
theorem lq_fX12_word_0 {u w : Int64} {p1 : Int32} {p2 : Int32} {σ : ST} (h : LQ u w σ) : LQ u w (fX12_word_0 p1 p2 σ).2 := lqb_fX12_word_0b0 h
theorem lqb_fX12_hung_0b23 {u w : Int64}  {σ : ST} (h_σ : LQ u w σ) : LQP u w (fX12_hung_0b23 σ) := by
  unfold fX12_hung_0b23
  exact h_σ
theorem lqb_fX12_hung_0b179 {u w : Int64}  {t0 : Int32} {σ : ST} (h_σ : LQ u w σ) : LQP u w (fX12_hung_0b179 t0 σ) := by
  unfold fX12_hung_0b179
  exact h_σ
theorem lqb_fX12_hung_0b177 {u w : Int64}  {l5 : Int32} {σ : ST} (h_σ : LQ u w σ) : LQP u w (fX12_hung_0b177 l5 σ) := by
  unfold fX12_hung_0b177
  exact lqb_fX12_hung_0b179  h_σ
theorem lqb_fX12_hung_0b173 {u w : Int64}  {l3 : Int32} {σ : ST} (h_σ : LQ u w σ) : LQP u w (fX12_hung_0b173 l3 σ) := by
  unfold fX12_hung_0b173
  exact lqb_fX12_hung_0b179  h_σ
theorem lqb_fX12_hung_0b169 {u w : Int64}  {l2 : Int32} {l3 : Int32} {l5 : Int32} {σ : ST} (h_σ : LQ u w σ) : LQP u w (fX12_hung_0b169 l2 l3 l5 σ) := by
  unfold fX12_hung_0b169
  exact lqite2 (lqb_fX12_hung_0b173  h_σ) (lqb_fX12_hung_0b177  h_σ)
theorem lqb_fX12_hung_0b160 {u w : Int64} {K41 : Int32 → Int32 → Int32 → Int32 → Int32 → Int32 → ST → (Int32 × ST)} (hK41 : ∀ (q0 : Int32) (q1 : Int32) (q2 : Int32) (q3 : Int32) (q4 : Int32) (q5 : Int32) (τ : ST), LQ u w τ → LQP u w (K41 q0 q1 q2 q3 q4 q5 τ)) {l1 : Int32} {l2 : Int32} {l3 : Int32} {l4 : Int32} {l6 : Int32} {t0 : Int32} {t1 : Int32} {σ : ST} (h_σ : LQ u w σ) : LQP u w (fX12_hung_0b160 K41 l1 l2 l3 l4 l6 t0 t1 σ) := by
  unfold fX12_hung_0b160
  refine lqbd2 fun v160 _ => ?_
  refine lqbd2 fun v163 _ => ?_
  exact hK41 _ _ _ _ _ _ _ h_σ
theorem lqb_fX12_hung_0b159 {u w : Int64} {K41 : Int32 → Int32 → Int32 → Int32 → Int32 → Int32 → ST → (Int32 × ST)} (hK41 : ∀ (q0 : Int32) (q1 : Int32) (q2 : Int32) (q3 : Int32) (q4 : Int32) (q5 : Int32) (τ : ST), LQ u w τ → LQP u w (K41 q0 q1 q2 q3 q4 q5 τ)) {l1 : Int32} {l2 : Int32} {l3 : Int32} {l4 : Int32} {l6 : Int32} {t0 : Int32} {σ : ST} (h_σ : LQ u w σ) : LQP u w (fX12_hung_0b159 K41 l1 l2 l3 l4 l6 t0 σ) := by
  unfold fX12_hung_0b159
  exact lqb_fX12_hung_0b160 hK41 h_σ
theorem lqb_fX12_hung_0b155 {u w : Int64} {K41 : Int32 → Int32 → Int32 → Int32 → Int32 → Int32 → ST → (Int32 × ST)} (hK41 : ∀ (q0 : Int32) (q1 : Int32) (q2 : Int32) (q3 : Int32) (q4 : Int32) (q5 : Int32) (τ : ST), LQ u w τ → LQP u w (K41 q0 q1 q2 q3 q4 q5 τ)) {l1 : Int32} {l2 : Int32} {l3 : Int32} {l4 : Int32} {l6 : Int32} {t0 : Int32} {σ : ST} (h_σ : LQ u w σ) : LQP u w (fX12_hung_0b155 K41 l1 l2 l3 l4 l6 t0 σ) := by
  unfold fX12_hung_0b155
  exact lqb_fX12_hung_0b160 hK41 h_σ
theorem lqb_fX12_hung_0b146 {u w : Int64} {K41 : Int32 → Int32 → Int32 → Int32 → Int32 → Int32 → ST → (Int32 × ST)} (hK41 : ∀ (q0 : Int32) (q1 : Int32) (q2 : Int32) (q3 : Int32) (q4 : Int32) (q5 : Int32) (τ : ST), LQ u w τ → LQP u w (K41 q0 q1 q2 q3 q4 q5 τ)) {l1 : Int32} {l2 : Int32} {l3 : Int32} {l5 : Int32} {l6 : Int32} {l7 : Int32} {t0 : Int32} {σ : ST} (h_σ : LQ u w σ) : LQP u w (fX12_hung_0b146 K41 l1 l2 l3 l5 l6 l7 t0 σ) := by
  unfold fX12_hung_0b146
  exact lqite2 (lqb_fX12_hung_0b159 hK41 h_σ) (lqb_fX12_hung_0b155 hK41 h_σ)
theorem lqb_fX12_hung_0b144 {u w : Int64} {K41 : Int32 → Int32 → Int32 → Int32 → Int32 → Int32 → ST → (Int32 × ST)} (hK41 : ∀ (q0 : Int32) (q1 : Int32) (q2 : Int32) (q3 : Int32) (q4 : Int32) (q5 : Int32) (τ : ST), LQ u w τ → LQP u w (K41 q0 q1 q2 q3 q4 q5 τ)) {l1 : Int32} {l2 : Int32} {l3 : Int32} {l4 : Int32} {l5 : Int32} {l6 : Int32} {l7 : Int32} {σ : ST} (h_σ : LQ u w σ) : LQP u w (fX12_hung_0b144 K41 l1 l2 l3 l4 l5 l6 l7 σ) := by
  unfold fX12_hung_0b144
  exact lqb_fX12_hung_0b146 hK41 h_σ
theorem lqb_fX12_hung_0b139 {u w : Int64} {K41 : Int32 → Int32 → Int32 → Int32 → Int32 → Int32 → ST → (Int32 × ST)} (hK41 : ∀ (q0 : Int32) (q1 : Int32) (q2 : Int32) (q3 : Int32) (q4 : Int32) (q5 : Int32) (τ : ST), LQ u w τ → LQP u w (K41 q0 q1 q2 q3 q4 q5 τ)) {l1 : Int32} {l2 : Int32} {l3 : Int32} {l5 : Int32} {l6 : Int32} {l7 : Int32} {σ : ST} (h_σ : LQ u w σ) : LQP u w (fX12_hung_0b139 K41 l1 l2 l3 l5 l6 l7 σ) := by
  unfold fX12_hung_0b139
  exact lqb_fX12_hung_0b146 hK41 h_σ
theorem lqb_fX12_hung_0b131 {u w : Int64} {K41 : Int32 → Int32 → Int32 → Int32 → Int32 → Int32 → ST → (Int32 × ST)} (hK41 : ∀ (q0 : Int32) (q1 : Int32) (q2 : Int32) (q3 : Int32) (q4 : Int32) (q5 : Int32) (τ : ST), LQ u w τ → LQP u w (K41 q0 q1 q2 q3 q4 q5 τ)) {l1 : Int32} {l2 : Int32} {l4 : Int32} {l5 : Int32} {l6 : Int32} {l7 : Int32} {t0 : Int32} {σ : ST} (h_σ : LQ u w σ) : LQP u w (fX12_hung_0b131 K41 l1 l2 l4 l5 l6 l7 t0 σ) := by
  unfold fX12_hung_0b131
  exact lqite2 (lqb_fX12_hung_0b144 hK41 h_σ) (lqb_fX12_hung_0b139 hK41 h_σ)
theorem lqb_fX12_hung_0b130 {u w : Int64} {K41 : Int32 → Int32 → Int32 → Int32 → Int32 → Int32 → ST → (Int32 × ST)} (hK41 : ∀ (q0 : Int32) (q1 : Int32) (q2 : Int32) (q3 : Int32) (q4 : Int32) (q5 : Int32) (τ : ST), LQ u w τ → LQP u w (K41 q0 q1 q2 q3 q4 q5 τ)) {l1 : Int32} {l2 : Int32} {l3 : Int32} {l4 : Int32} {l5 : Int32} {l6 : Int32} {l7 : Int32} {σ : ST} (h_σ : LQ u w σ) : LQP u w (fX12_hung_0b130 K41 l1 l2 l3 l4 l5 l6 l7 σ) := by
  unfold fX12_hung_0b130
  exact lqb_fX12_hung_0b131 hK41 h_σ
theorem lqb_fX12_hung_0b125 {u w : Int64} {K41 : Int32 → Int32 → Int32 → Int32 → Int32 → Int32 → ST → (Int32 × ST)} (hK41 : ∀ (q0 : Int32) (q1 : Int32) (q2 : Int32) (q3 : Int32) (q4 : Int32) (q5 : Int32) (τ : ST), LQ u w τ → LQP u w (K41 q0 q1 q2 q3 q4 q5 τ)) {l1 : Int32} {l2 : Int32} {l4 : Int32} {l5 : Int32} {l6 : Int32} {l7 : Int32} {σ : ST} (h_σ : LQ u w σ) : LQP u w (fX12_hung_0b125 K41 l1 l2 l4 l5 l6 l7 σ) := by
  unfold fX12_hung_0b125
  exact lqb_fX12_hung_0b131 hK41 h_σ
theorem lqb_fX12_hung_0b118 {u w : Int64} {K41 : Int32 → Int32 → Int32 → Int32 → Int32 → Int32 → ST → (Int32 × ST)} (hK41 : ∀ (q0 : Int32) (q1 : Int32) (q2 : Int32) (q3 : Int32) (q4 : Int32) (q5 : Int32) (τ : ST), LQ u w τ → LQP u w (K41 q0 q1 q2 q3 q4 q5 τ)) {l1 : Int32} {l2 : Int32} {l3 : Int32} {l4 : Int32} {l5 : Int32} {l6 : Int32} {l7 : Int32} {σ : ST} (h_σ : LQ u w σ) : LQP u w (fX12_hung_0b118 K41 l1 l2 l3 l4 l5 l6 l7 σ) := by
  unfold fX12_hung_0b118
  exact lqite2 (lqb_fX12_hung_0b130 hK41 h_σ) (lqb_fX12_hung_0b125 hK41 h_σ)
theorem lqb_fX12_hung_0b109 {u w : Int64} {K41 : Int32 → Int32 → Int32 → Int32 → Int32 → Int32 → ST → (Int32 × ST)} (hK41 : ∀ (q0 : Int32) (q1 : Int32) (q2 : Int32) (q3 : Int32) (q4 : Int32) (q5 : Int32) (τ : ST), LQ u w τ → LQP u w (K41 q0 q1 q2 q3 q4 q5 τ)) {K62 : Int32 → Int32 → Int32 → Int32 → Int32 → Int32 → Int32 → Int32 → ST → (Int32 × ST)} (hK62 : ∀ (q0 : Int32) (q1 : Int32) (q2 : Int32) (q3 : Int32) (q4 : Int32) (q5 : Int32) (q6 : Int32) (q7 : Int32) (τ : ST), LQ u w τ → LQP u w (K62 q0 q1 q2 q3 q4 q5 q6 q7 τ)) {l1 : Int32} {l2 : Int32} {l3 : Int32} {l4 : Int32} {l5 : Int32} {l6 : Int32} {l8 : Int32} {t0 : Int32} {t1 : Int32} {σ : ST} (h_σ : LQ u w σ) : LQP u w (fX12_hung_0b109 K41 K62 l1 l2 l3 l4 l5 l6 l8 t0 t1 σ) := by
  unfold fX12_hung_0b109
  refine lqbd2 fun v109 _ => ?_
  refine lqbd2 fun v112 _ => ?_
  exact hK62 _ _ _ _ _ _ _ _ _ h_σ
theorem lqb_fX12_hung_0b108 {u w : Int64} {K41 : Int32 → Int32 → Int32 → Int32 → Int32 → Int32 → ST → (Int32 × ST)} (hK41 : ∀ (q0 : Int32) (q1 : Int32) (q2 : Int32) (q3 : Int32) (q4 : Int32) (q5 : Int32) (τ : ST), LQ u w τ → LQP u w (K41 q0 q1 q2 q3 q4 q5 τ)) {K62 : Int32 → Int32 → Int32 → Int32 → Int32 → Int32 → Int32 → Int32 → ST → (Int32 × ST)} (hK62 : ∀ (q0 : Int32) (q1 : Int32) (q2 : Int32) (q3 : Int32) (q4 : Int32) (q5 : Int32) (q6 : Int32) (q7 : Int32) (τ : ST), LQ u w τ → LQP u w (K62 q0 q1 q2 q3 q4 q5 q6 q7 τ)) {l1 : Int32} {l2 : Int32} {l3 : Int32} {l4 : Int32} {l5 : Int32} {l6 : Int32} {l8 : Int32} {t0 : Int32} {σ : ST} (h_σ : LQ u w σ) : LQP u w (fX12_hung_0b108 K41 K62 l1 l2 l3 l4 l5 l6 l8 t0 σ) := by
  unfold fX12_hung_0b108
  exact lqb_fX12_hung_0b109 hK41 hK62 h_σ
theorem lqb_fX12_hung_0b104 {u w : Int64} {K41 : Int32 → Int32 → Int32 → Int32 → Int32 → Int32 → ST → (Int32 × ST)} (hK41 : ∀ (q0 : Int32) (q1 : Int32) (q2 : Int32) (q3 : Int32) (q4 : Int32) (q5 : Int32) (τ : ST), LQ u w τ → LQP u w (K41 q0 q1 q2 q3 q4 q5 τ)) {K62 : Int32 → Int32 → Int32 → Int32 → Int32 → Int32 → Int32 → Int32 → ST → (Int32 × ST)} (hK62 : ∀ (q0 : Int32) (q1 : Int32) (q2 : Int32) (q3 : Int32) (q4 : Int32) (q5 : Int32) (q6 : Int32) (q7 : Int32) (τ : ST), LQ u w τ → LQP u w (K62 q0 q1 q2 q3 q4 q5 q6 q7 τ)) {l1 : Int32} {l2 : Int32} {l3 : Int32} {l4 : Int32} {l5 : Int32} {l6 : Int32} {l8 : Int32} {t0 : Int32} {σ : ST} (h_σ : LQ u w σ) : LQP u w (fX12_hung_0b104 K41 K62 l1 l2 l3 l4 l5 l6 l8 t0 σ) := by
  unfold fX12_hung_0b104
  exact lqb_fX12_hung_0b109 hK41 hK62 h_σ
theorem lqb_fX12_hung_0b82 {u w : Int64} {K41 : Int32 → Int32 → Int32 → Int32 → Int32 → Int32 → ST → (Int32 × ST)} (hK41 : ∀ (q0 : Int32) (q1 : Int32) (q2 : Int32) (q3 : Int32) (q4 : Int32) (q5 : Int32) (τ : ST), LQ u w τ → LQP u w (K41 q0 q1 q2 q3 q4 q5 τ)) {K62 : Int32 → Int32 → Int32 → Int32 → Int32 → Int32 → Int32 → Int32 → ST → (Int32 × ST)} (hK62 : ∀ (q0 : Int32) (q1 : Int32) (q2 : Int32) (q3 : Int32) (q4 : Int32) (q5 : Int32) (q6 : Int32) (q7 : Int32) (τ : ST), LQ u w τ → LQP u w (K62 q0 q1 q2 q3 q4 q5 q6 q7 τ)) {l1 : Int32} {l2 : Int32} {l3 : Int32} {l4 : Int32} {l5 : Int32} {l6 : Int32} {l7 : Int32} {l8 : Int32} {σ : ST} (h_σ : LQ u w σ) : LQP u w (fX12_hung_0b82 K41 K62 l1 l2 l3 l4 l5 l6 l7 l8 σ) := by
  unfold fX12_hung_0b82
  refine lqbd2 fun v91 _ => ?_
  refine lqbd2 fun v97 _ => ?_
  refine lqbd2 fun v98 _ => ?_
  exact lqite2 (lqb_fX12_hung_0b108 hK41 hK62 h_σ) (lqb_fX12_hung_0b104 hK41 hK62 h_σ)
theorem lqb_fX12_hung_0b62 {u w : Int64} {K41 : Int32 → Int32 → Int32 → Int32 → Int32 → Int32 → ST → (Int32 × ST)} (hK41 : ∀ (q0 : Int32) (q1 : Int32) (q2 : Int32) (q3 : Int32) (q4 : Int32) (q5 : Int32) (τ : ST), LQ u w τ → LQP u w (K41 q0 q1 q2 q3 q4 q5 τ)) {K62 : Int32 → Int32 → Int32 → Int32 → Int32 → Int32 → Int32 → Int32 → ST → (Int32 × ST)} (hK62 : ∀ (q0 : Int32) (q1 : Int32) (q2 : Int32) (q3 : Int32) (q4 : Int32) (q5 : Int32) (q6 : Int32) (q7 : Int32) (τ : ST), LQ u w τ → LQP u w (K62 q0 q1 q2 q3 q4 q5 q6 q7 τ)) {l1 : Int32} {l2 : Int32} {l3 : Int32} {l4 : Int32} {l5 : Int32} {l6 : Int32} {l7 : Int32} {l8 : Int32} {σ : ST} (h_σ : LQ u w σ) : LQP u w (fX12_hung_0b62 K41 K62 l1 l2 l3 l4 l5 l6 l7 l8 σ) := by
  unfold fX12_hung_0b62
  refine lqbd2 fun v70 _ => ?_
  refine lqbd2 fun v77 _ => ?_
  refine lqbd2 fun v78 _ => ?_
  exact lqite2 (lqb_fX12_hung_0b118 hK41 h_σ) (lqb_fX12_hung_0b82 hK41 hK62 h_σ)
theorem lqb_fX12_hung_0l62 {u w : Int64} {K41 : Int32 → Int32 → Int32 → Int32 → Int32 → Int32 → ST → (Int32 × ST)} (hK41 : ∀ (q0 : Int32) (q1 : Int32) (q2 : Int32) (q3 : Int32) (q4 : Int32) (q5 : Int32) (τ : ST), LQ u w τ → LQP u w (K41 q0 q1 q2 q3 q4 q5 τ)) : ∀ (fu : Nat) {q0 : Int32} {q1 : Int32} {q2 : Int32} {q3 : Int32} {q4 : Int32} {q5 : Int32} {q6 : Int32} {q7 : Int32} {τ : ST} (h : LQ u w τ), LQP u w (fX12_hung_0l62 K41 fu q0 q1 q2 q3 q4 q5 q6 q7 τ)
  | 0, _, _, _, _, _, _, _, _, _, h => h
  | fu + 1, _, _, _, _, _, _, _, _, _, h => lqb_fX12_hung_0b62 hK41 (fun _ _ _ _ _ _ _ _ _ q => lqb_fX12_hung_0l62 hK41 fu q) h
theorem lqb_fX12_hung_0b50 {u w : Int64} {K41 : Int32 → Int32 → Int32 → Int32 → Int32 → Int32 → ST → (Int32 × ST)} (hK41 : ∀ (q0 : Int32) (q1 : Int32) (q2 : Int32) (q3 : Int32) (q4 : Int32) (q5 : Int32) (τ : ST), LQ u w τ → LQP u w (K41 q0 q1 q2 q3 q4 q5 τ)) {l1 : Int32} {l2 : Int32} {l3 : Int32} {l4 : Int32} {l5 : Int32} {l6 : Int32} {σ : ST} (h_σ : LQ u w σ) : LQP u w (fX12_hung_0b50 K41 l1 l2 l3 l4 l5 l6 σ) := by
  unfold fX12_hung_0b50
  refine lqbd2 fun v59 _ => ?_
  exact lqb_fX12_hung_0l62 hK41 _ h_σ
theorem lqb_fX12_hung_0b41 {u w : Int64} {K41 : Int32 → Int32 → Int32 → Int32 → Int32 → Int32 → ST → (Int32 × ST)} (hK41 : ∀ (q0 : Int32) (q1 : Int32) (q2 : Int32) (q3 : Int32) (q4 : Int32) (q5 : Int32) (τ : ST), LQ u w τ → LQP u w (K41 q0 q1 q2 q3 q4 q5 τ)) {l1 : Int32} {l2 : Int32} {l3 : Int32} {l4 : Int32} {l5 : Int32} {l6 : Int32} {σ : ST} (h_σ : LQ u w σ) : LQP u w (fX12_hung_0b41 K41 l1 l2 l3 l4 l5 l6 σ) := by
  unfold fX12_hung_0b41
  refine lqbd2 fun v44 _ => ?_
  exact lqite2 (lqb_fX12_hung_0b169  h_σ) (lqb_fX12_hung_0b50 hK41 h_σ)
theorem lqb_fX12_hung_0l41 {u w : Int64}  : ∀ (fu : Nat) {q0 : Int32} {q1 : Int32} {q2 : Int32} {q3 : Int32} {q4 : Int32} {q5 : Int32} {τ : ST} (h : LQ u w τ), LQP u w (fX12_hung_0l41 fu q0 q1 q2 q3 q4 q5 τ)
  | 0, _, _, _, _, _, _, _, h => h
  | fu + 1, _, _, _, _, _, _, _, h => lqb_fX12_hung_0b41 (fun _ _ _ _ _ _ _ q => lqb_fX12_hung_0l41  fu q) h
theorem lqb_fX12_hung_0b25 {u w : Int64}  {l1 : Int32} {l2 : Int32} {σ : ST} (h_σ : LQ u w σ) : LQP u w (fX12_hung_0b25 l1 l2 σ) := by
  unfold fX12_hung_0b25
  refine lqbd2 fun s26 e_s26 => ?_
  have h_s26 : LQ u w s26 := by rw [e_s26]; exact lq_fX12_findPieces_0 h_σ
  exact lqb_fX12_hung_0l41  _ h_s26
theorem lqb_fX12_hung_0b14 {u w : Int64}  {l1 : Int32} {l2 : Int32} {σ : ST} (h_σ : LQ u w σ) : LQP u w (fX12_hung_0b14 l1 l2 σ) := by
  unfold fX12_hung_0b14
  refine lqbd2 fun v17 _ => ?_
  exact lqite2 (lqb_fX12_hung_0b23  h_σ) (lqb_fX12_hung_0b25  h_σ)
theorem lqb_fX12_hung_0b0 {u w : Int64}  {l1 : Int32} {l2 : Int32} {σ : ST} (h_σ : LQ u w σ) : LQP u w (fX12_hung_0b0 l1 l2 σ) := by
  unfold fX12_hung_0b0
  refine lqbd2 fun v3 _ => ?_
  refine lqbd2 fun v7 _ => ?_
  refine lqbd2 fun v8 _ => ?_
  exact lqite2 (lqb_fX12_hung_0b23  h_σ) (lqb_fX12_hung_0b14  h_σ)
theorem lq_fX12_hung_0 {u w : Int64} {p1 : Int32} {p2 : Int32} {σ : ST} (h : LQ u w σ) : LQ u w (fX12_hung_0 p1 p2 σ).2 := lqb_fX12_hung_0b0 h
theorem lqb_fX12_truth_0b18 {u w : Int64}  {σ : ST} (h_σ : LQ u w σ) : LQP u w (fX12_truth_0b18 σ) := by
  unfold fX12_truth_0b18
  exact h_σ
theorem lqb_fX12_truth_0b67 {u w : Int64}  {l4 : Int32} {σ : ST} (h_σ : LQ u w σ) : LQP u w (fX12_truth_0b67 l4 σ) := by
  unfold fX12_truth_0b67
  exact h_σ
theorem lqb_fX12_truth_0b50 {u w : Int64} {K26 : Int32 → Int32 → Int32 → Int32 → ST → (Int32 × ST)} (hK26 : ∀ (q0 : Int32) (q1 : Int32) (q2 : Int32) (q3 : Int32) (τ : ST), LQ u w τ → LQP u w (K26 q0 q1 q2 q3 τ)) {l2 : Int32} {l3 : Int32} {l5 : Int32} {t0 : Int32} {t1 : Int32} {σ : ST} (h_σ : LQ u w σ) : LQP u w (fX12_truth_0b50 K26 l2 l3 l5 t0 t1 σ) := by
  unfold fX12_truth_0b50
  refine lqbd2 fun v50 _ => ?_
  refine lqbd2 fun s60 e_s60 => ?_
  have h_s60 : LQ u w s60 := by rw [e_s60]; exact h_σ
  refine lqbd2 fun v61 _ => ?_
  exact hK26 _ _ _ _ _ h_s60
theorem lqb_fX12_truth_0b49 {u w : Int64} {K26 : Int32 → Int32 → Int32 → Int32 → ST → (Int32 × ST)} (hK26 : ∀ (q0 : Int32) (q1 : Int32) (q2 : Int32) (q3 : Int32) (τ : ST), LQ u w τ → LQP u w (K26 q0 q1 q2 q3 τ)) {l2 : Int32} {l3 : Int32} {l5 : Int32} {t0 : Int32} {σ : ST} (h_σ : LQ u w σ) : LQP u w (fX12_truth_0b49 K26 l2 l3 l5 t0 σ) := by
  unfold fX12_truth_0b49
  exact lqb_fX12_truth_0b50 hK26 h_σ
theorem lqb_fX12_truth_0b45 {u w : Int64} {K26 : Int32 → Int32 → Int32 → Int32 → ST → (Int32 × ST)} (hK26 : ∀ (q0 : Int32) (q1 : Int32) (q2 : Int32) (q3 : Int32) (τ : ST), LQ u w τ → LQP u w (K26 q0 q1 q2 q3 τ)) {l2 : Int32} {l3 : Int32} {l5 : Int32} {t0 : Int32} {σ : ST} (h_σ : LQ u w σ) : LQP u w (fX12_truth_0b45 K26 l2 l3 l5 t0 σ) := by
  unfold fX12_truth_0b45
  exact lqb_fX12_truth_0b50 hK26 h_σ
theorem lqb_fX12_truth_0b32 {u w : Int64} {K26 : Int32 → Int32 → Int32 → Int32 → ST → (Int32 × ST)} (hK26 : ∀ (q0 : Int32) (q1 : Int32) (q2 : Int32) (q3 : Int32) (τ : ST), LQ u w τ → LQP u w (K26 q0 q1 q2 q3 τ)) {l2 : Int32} {l3 : Int32} {l4 : Int32} {l5 : Int32} {σ : ST} (h_σ : LQ u w σ) : LQP u w (fX12_truth_0b32 K26 l2 l3 l4 l5 σ) := by
  unfold fX12_truth_0b32
  refine lqbd2 fun v40 _ => ?_
  exact lqite2 (lqb_fX12_truth_0b45 hK26 h_σ) (lqb_fX12_truth_0b49 hK26 h_σ)
theorem lqb_fX12_truth_0b26 {u w : Int64} {K26 : Int32 → Int32 → Int32 → Int32 → ST → (Int32 × ST)} (hK26 : ∀ (q0 : Int32) (q1 : Int32) (q2 : Int32) (q3 : Int32) (τ : ST), LQ u w τ → LQP u w (K26 q0 q1 q2 q3 τ)) {l2 : Int32} {l3 : Int32} {l4 : Int32} {l5 : Int32} {σ : ST} (h_σ : LQ u w σ) : LQP u w (fX12_truth_0b26 K26 l2 l3 l4 l5 σ) := by
  unfold fX12_truth_0b26
  exact lqite2 (lqb_fX12_truth_0b67  h_σ) (lqb_fX12_truth_0b32 hK26 h_σ)
theorem lqb_fX12_truth_0l26 {u w : Int64}  : ∀ (fu : Nat) {q0 : Int32} {q1 : Int32} {q2 : Int32} {q3 : Int32} {τ : ST} (h : LQ u w τ), LQP u w (fX12_truth_0l26 fu q0 q1 q2 q3 τ)
  | 0, _, _, _, _, _, h => h
  | fu + 1, _, _, _, _, _, h => lqb_fX12_truth_0b26 (fun _ _ _ _ _ q => lqb_fX12_truth_0l26  fu q) h
theorem lqb_fX12_truth_0b20 {u w : Int64}  {l1 : Int32} {l2 : Int32} {l3 : Int32} {σ : ST} (h_σ : LQ u w σ) : LQP u w (fX12_truth_0b20 l1 l2 l3 σ) := by
  unfold fX12_truth_0b20
  exact lqb_fX12_truth_0l26  _ h_σ
theorem lqb_fX12_truth_0b9 {u w : Int64}  {l1 : Int32} {l2 : Int32} {l3 : Int32} {σ : ST} (h_σ : LQ u w σ) : LQP u w (fX12_truth_0b9 l1 l2 l3 σ) := by
  unfold fX12_truth_0b9
  refine lqbd2 fun v12 _ => ?_
  exact lqite2 (lqb_fX12_truth_0b18  h_σ) (lqb_fX12_truth_0b20  h_σ)
theorem lqb_fX12_truth_0b0 {u w : Int64}  {l1 : Int32} {l2 : Int32} {l3 : Int32} {σ : ST} (h_σ : LQ u w σ) : LQP u w (fX12_truth_0b0 l1 l2 l3 σ) := by
  unfold fX12_truth_0b0
  refine lqbd2 fun v3 _ => ?_
  exact lqite2 (lqb_fX12_truth_0b18  h_σ) (lqb_fX12_truth_0b9  h_σ)
theorem lq_fX12_truth_0 {u w : Int64} {p1 : Int32} {p2 : Int32} {p3 : Int32} {σ : ST} (h : LQ u w σ) : LQ u w (fX12_truth_0 p1 p2 p3 σ).2 := lqb_fX12_truth_0b0 h
theorem lqb_fX12_mostRight_0b239 {u w : Int64}  {σ : ST} (h_σ : LQ u w σ) : LQP u w (fX12_mostRight_0b239 σ) := by
  unfold fX12_mostRight_0b239
  refine lqbd2 fun v246 _ => ?_
  exact h_σ
theorem lqb_fX12_mostRight_0b233 {u w : Int64} {K105 : Int32 → ST → (Int32 × ST)} (hK105 : ∀ (q0 : Int32) (τ : ST), LQ u w τ → LQP u w (K105 q0 τ)) {l1 : Int32} {σ : ST} (h_σ : LQ u w σ) : LQP u w (fX12_mostRight_0b233 K105 l1 σ) := by
  unfold fX12_mostRight_0b233
  refine lqbd2 fun v233 _ => ?_
  exact hK105 _ _ h_σ
theorem lqb_fX12_mostRight_0b214 {u w : Int64} {K105 : Int32 → ST → (Int32 × ST)} (hK105 : ∀ (q0 : Int32) (τ : ST), LQ u w τ → LQP u w (K105 q0 τ)) {K113 : Int32 → Int32 → ST → (Int32 × ST)} (hK113 : ∀ (q0 : Int32) (q1 : Int32) (τ : ST), LQ u w τ → LQP u w (K113 q0 q1 τ)) {l1 : Int32} {l2 : Int32} {l3 : Int32} {σ : ST} (h_σ : LQ u w σ) : LQP u w (fX12_mostRight_0b214 K105 K113 l1 l2 l3 σ) := by
  unfold fX12_mostRight_0b214
  refine lqbd2 fun v222 _ => ?_
  refine lqbd2 fun v224 _ => ?_
  refine lqbd2 fun s226 e_s226 => ?_
  have h_s226 : LQ u w s226 := by rw [e_s226]; exact h_σ
  refine lqbd2 fun v227 _ => ?_
  exact hK113 _ _ _ h_s226
theorem lqb_fX12_mostRight_0b207 {u w : Int64} {K105 : Int32 → ST → (Int32 × ST)} (hK105 : ∀ (q0 : Int32) (τ : ST), LQ u w τ → LQP u w (K105 q0 τ)) {K113 : Int32 → Int32 → ST → (Int32 × ST)} (hK113 : ∀ (q0 : Int32) (q1 : Int32) (τ : ST), LQ u w τ → LQP u w (K113 q0 q1 τ)) {K138 : Int32 → Int32 → Int32 → Int32 → ST → (Int32 × ST)} (hK138 : ∀ (q0 : Int32) (q1 : Int32) (q2 : Int32) (q3 : Int32) (τ : ST), LQ u w τ → LQP u w (K138 q0 q1 q2 q3 τ)) {l1 : Int32} {l2 : Int32} {l4 : Int32} {t0 : Int32} {σ : ST} (h_σ : LQ u w σ) : LQP u w (fX12_mostRight_0b207 K105 K113 K138 l1 l2 l4 t0 σ) := by
  unfold fX12_mostRight_0b207
  refine lqbd2 fun v208 _ => ?_
  exact hK138 _ _ _ _ _ h_σ
theorem lqb_fX12_mostRight_0b206 {u w : Int64} {K105 : Int32 → ST → (Int32 × ST)} (hK105 : ∀ (q0 : Int32) (τ : ST), LQ u w τ → LQP u w (K105 q0 τ)) {K113 : Int32 → Int32 → ST → (Int32 × ST)} (hK113 : ∀ (q0 : Int32) (q1 : Int32) (τ : ST), LQ u w τ → LQP u w (K113 q0 q1 τ)) {K138 : Int32 → Int32 → Int32 → Int32 → ST → (Int32 × ST)} (hK138 : ∀ (q0 : Int32) (q1 : Int32) (q2 : Int32) (q3 : Int32) (τ : ST), LQ u w τ → LQP u w (K138 q0 q1 q2 q3 τ)) {l1 : Int32} {l2 : Int32} {l3 : Int32} {l4 : Int32} {σ : ST} (h_σ : LQ u w σ) : LQP u w (fX12_mostRight_0b206 K105 K113 K138 l1 l2 l3 l4 σ) := by
  unfold fX12_mostRight_0b206
  exact lqb_fX12_mostRight_0b207 hK105 hK113 hK138 h_σ
theorem lqb_fX12_mostRight_0b201 {u w : Int64} {K105 : Int32 → ST → (Int32 × ST)} (hK105 : ∀ (q0 : Int32) (τ : ST), LQ u w τ → LQP u w (K105 q0 τ)) {K113 : Int32 → Int32 → ST → (Int32 × ST)} (hK113 : ∀ (q0 : Int32) (q1 : Int32) (τ : ST), LQ u w τ → LQP u w (K113 q0 q1 τ)) {K138 : Int32 → Int32 → Int32 → Int32 → ST → (Int32 × ST)} (hK138 : ∀ (q0 : Int32) (q1 : Int32) (q2 : Int32) (q3 : Int32) (τ : ST), LQ u w τ → LQP u w (K138 q0 q1 q2 q3 τ)) {l1 : Int32} {l2 : Int32} {l4 : Int32} {l5 : Int32} {σ : ST} (h_σ : LQ u w σ) : LQP u w (fX12_mostRight_0b201 K105 K113 K138 l1 l2 l4 l5 σ) := by
  unfold fX12_mostRight_0b201
  exact lqb_fX12_mostRight_0b207 hK105 hK113 hK138 h_σ
theorem lqb_fX12_mostRight_0b193 {u w : Int64} {K105 : Int32 → ST → (Int32 × ST)} (hK105 : ∀ (q0 : Int32) (τ : ST), LQ u w τ → LQP u w (K105 q0 τ)) {K113 : Int32 → Int32 → ST → (Int32 × ST)} (hK113 : ∀ (q0 : Int32) (q1 : Int32) (τ : ST), LQ u w τ → LQP u w (K113 q0 q1 τ)) {K138 : Int32 → Int32 → Int32 → Int32 → ST → (Int32 × ST)} (hK138 : ∀ (q0 : Int32) (q1 : Int32) (q2 : Int32) (q3 : Int32) (τ : ST), LQ u w τ → LQP u w (K138 q0 q1 q2 q3 τ)) {l1 : Int32} {l2 : Int32} {l3 : Int32} {l4 : Int32} {t0 : Int32} {σ : ST} (h_σ : LQ u w σ) : LQP u w (fX12_mostRight_0b193 K105 K113 K138 l1 l2 l3 l4 t0 σ) := by
  unfold fX12_mostRight_0b193
  exact lqite2 (lqb_fX12_mostRight_0b206 hK105 hK113 hK138 h_σ) (lqb_fX12_mostRight_0b201 hK105 hK113 hK138 h_σ)
theorem lqb_fX12_mostRight_0b192 {u w : Int64} {K105 : Int32 → ST → (Int32 × ST)} (hK105 : ∀ (q0 : Int32) (τ : ST), LQ u w τ → LQP u w (K105 q0 τ)) {K113 : Int32 → Int32 → ST → (Int32 × ST)} (hK113 : ∀ (q0 : Int32) (q1 : Int32) (τ : ST), LQ u w τ → LQP u w (K113 q0 q1 τ)) {K138 : Int32 → Int32 → Int32 → Int32 → ST → (Int32 × ST)} (hK138 : ∀ (q0 : Int32) (q1 : Int32) (q2 : Int32) (q3 : Int32) (τ : ST), LQ u w τ → LQP u w (K138 q0 q1 q2 q3 τ)) {l1 : Int32} {l2 : Int32} {l3 : Int32} {l4 : Int32} {σ : ST} (h_σ : LQ u w σ) : LQP u w (fX12_mostRight_0b192 K105 K113 K138 l1 l2 l3 l4 σ) := by
  unfold fX12_mostRight_0b192
  exact lqb_fX12_mostRight_0b193 hK105 hK113 hK138 h_σ
theorem lqb_fX12_mostRight_0b155 {u w : Int64} {K105 : Int32 → ST → (Int32 × ST)} (hK105 : ∀ (q0 : Int32) (τ : ST), LQ u w τ → LQP u w (K105 q0 τ)) {K113 : Int32 → Int32 → ST → (Int32 × ST)} (hK113 : ∀ (q0 : Int32) (q1 : Int32) (τ : ST), LQ u w τ → LQP u w (K113 q0 q1 τ)) {K138 : Int32 → Int32 → Int32 → Int32 → ST → (Int32 × ST)} (hK138 : ∀ (q0 : Int32) (q1 : Int32) (q2 : Int32) (q3 : Int32) (τ : ST), LQ u w τ → LQP u w (K138 q0 q1 q2 q3 τ)) {l1 : Int32} {l2 : Int32} {l3 : Int32} {l4 : Int32} {σ : ST} (h_σ : LQ u w σ) : LQP u w (fX12_mostRight_0b155 K105 K113 K138 l1 l2 l3 l4 σ) := by
  unfold fX12_mostRight_0b155
  refine lqbd2 fun v164 _ => ?_
  refine lqbd2 fun v165 _ => ?_
  refine lqbd2 fun v170 _ => ?_
  refine lqbd2 fun v172 _ => ?_
  refine lqbd2 fun v173 _ => ?_
  refine lqbd2 fun v174 _ => ?_
  refine lqbd2 fun v175 _ => ?_
  refine lqbd2 fun v183 _ => ?_
  refine lqbd2 fun v186 _ => ?_
  refine lqbd2 fun v187 _ => ?_
  refine lqbd2 fun v188 _ => ?_
  exact lqb_fX12_mostRight_0b193 hK105 hK113 hK138 h_σ
theorem lqb_fX12_mostRight_0b145 {u w : Int64} {K105 : Int32 → ST → (Int32 × ST)} (hK105 : ∀ (q0 : Int32) (τ : ST), LQ u w τ → LQP u w (K105 q0 τ)) {K113 : Int32 → Int32 → ST → (Int32 × ST)} (hK113 : ∀ (q0 : Int32) (q1 : Int32) (τ : ST), LQ u w τ → LQP u w (K113 q0 q1 τ)) {K138 : Int32 → Int32 → Int32 → Int32 → ST → (Int32 × ST)} (hK138 : ∀ (q0 : Int32) (q1 : Int32) (q2 : Int32) (q3 : Int32) (τ : ST), LQ u w τ → LQP u w (K138 q0 q1 q2 q3 τ)) {l1 : Int32} {l2 : Int32} {l3 : Int32} {l4 : Int32} {σ : ST} (h_σ : LQ u w σ) : LQP u w (fX12_mostRight_0b145 K105 K113 K138 l1 l2 l3 l4 σ) := by
  unfold fX12_mostRight_0b145
  refine lqbd2 fun v148 _ => ?_
  refine lqbd2 fun v150 _ => ?_
  exact lqite2 (lqb_fX12_mostRight_0b155 hK105 hK113 hK138 h_σ) (lqb_fX12_mostRight_0b192 hK105 hK113 hK138 h_σ)
theorem lqb_fX12_mostRight_0b138 {u w : Int64} {K105 : Int32 → ST → (Int32 × ST)} (hK105 : ∀ (q0 : Int32) (τ : ST), LQ u w τ → LQP u w (K105 q0 τ)) {K113 : Int32 → Int32 → ST → (Int32 × ST)} (hK113 : ∀ (q0 : Int32) (q1 : Int32) (τ : ST), LQ u w τ → LQP u w (K113 q0 q1 τ)) {K138 : Int32 → Int32 → Int32 → Int32 → ST → (Int32 × ST)} (hK138 : ∀ (q0 : Int32) (q1 : Int32) (q2 : Int32) (q3 : Int32) (τ : ST), LQ u w τ → LQP u w (K138 q0 q1 q2 q3 τ)) {l1 : Int32} {l2 : Int32} {l3 : Int32} {l4 : Int32} {σ : ST} (h_σ : LQ u w σ) : LQP u w (fX12_mostRight_0b138 K105 K113 K138 l1 l2 l3 l4 σ) := by
  unfold fX12_mostRight_0b138
  exact lqite2 (lqb_fX12_mostRight_0b214 hK105 hK113 h_σ) (lqb_fX12_mostRight_0b145 hK105 hK113 hK138 h_σ)
theorem lqb_fX12_mostRight_0l138 {u w : Int64} {K105 : Int32 → ST → (Int32 × ST)} (hK105 : ∀ (q0 : Int32) (τ : ST), LQ u w τ → LQP u w (K105 q0 τ)) {K113 : Int32 → Int32 → ST → (Int32 × ST)} (hK113 : ∀ (q0 : Int32) (q1 : Int32) (τ : ST), LQ u w τ → LQP u w (K113 q0 q1 τ)) : ∀ (fu : Nat) {q0 : Int32} {q1 : Int32} {q2 : Int32} {q3 : Int32} {τ : ST} (h : LQ u w τ), LQP u w (fX12_mostRight_0l138 K105 K113 fu q0 q1 q2 q3 τ)
  | 0, _, _, _, _, _, h => h
  | fu + 1, _, _, _, _, _, h => lqb_fX12_mostRight_0b138 hK105 hK113 (fun _ _ _ _ _ q => lqb_fX12_mostRight_0l138 hK105 hK113 fu q) h
theorem lqb_fX12_mostRight_0b120 {u w : Int64} {K105 : Int32 → ST → (Int32 × ST)} (hK105 : ∀ (q0 : Int32) (τ : ST), LQ u w τ → LQP u w (K105 q0 τ)) {K113 : Int32 → Int32 → ST → (Int32 × ST)} (hK113 : ∀ (q0 : Int32) (q1 : Int32) (τ : ST), LQ u w τ → LQP u w (K113 q0 q1 τ)) {l1 : Int32} {l2 : Int32} {σ : ST} (h_σ : LQ u w σ) : LQP u w (fX12_mostRight_0b120 K105 K113 l1 l2 σ) := by
  unfold fX12_mostRight_0b120
  refine lqbd2 fun v129 _ => ?_
  refine lqbd2 fun v130 _ => ?_
  refine lqbd2 fun v132 _ => ?_
  refine lqbd2 fun v133 _ => ?_
  exact lqb_fX12_mostRight_0l138 hK105 hK113 _ h_σ
theorem lqb_fX12_mostRight_0b113 {u w : Int64} {K105 : Int32 → ST → (Int32 × ST)} (hK105 : ∀ (q0 : Int32) (τ : ST), LQ u w τ → LQP u w (K105 q0 τ)) {K113 : Int32 → Int32 → ST → (Int32 × ST)} (hK113 : ∀ (q0 : Int32) (q1 : Int32) (τ : ST), LQ u w τ → LQP u w (K113 q0 q1 τ)) {l1 : Int32} {l2 : Int32} {σ : ST} (h_σ : LQ u w σ) : LQP u w (fX12_mostRight_0b113 K105 K113 l1 l2 σ) := by
  unfold fX12_mostRight_0b113
  exact lqite2 (lqb_fX12_mostRight_0b233 hK105 h_σ) (lqb_fX12_mostRight_0b120 hK105 hK113 h_σ)
theorem lqb_fX12_mostRight_0l113 {u w : Int64} {K105 : Int32 → ST → (Int32 × ST)} (hK105 : ∀ (q0 : Int32) (τ : ST), LQ u w τ → LQP u w (K105 q0 τ)) : ∀ (fu : Nat) {q0 : Int32} {q1 : Int32} {τ : ST} (h : LQ u w τ), LQP u w (fX12_mostRight_0l113 K105 fu q0 q1 τ)
  | 0, _, _, _, h => h
  | fu + 1, _, _, _, h => lqb_fX12_mostRight_0b113 hK105 (fun _ _ _ q => lqb_fX12_mostRight_0l113 hK105 fu q) h
theorem lqb_fX12_mostRight_0b111 {u w : Int64} {K105 : Int32 → ST → (Int32 × ST)} (hK105 : ∀ (q0 : Int32) (τ : ST), LQ u w τ → LQP u w (K105 q0 τ)) {l1 : Int32} {σ : ST} (h_σ : LQ u w σ) : LQP u w (fX12_mostRight_0b111 K105 l1 σ) := by
  unfold fX12_mostRight_0b111
  exact lqb_fX12_mostRight_0l113 hK105 _ h_σ
theorem lqb_fX12_mostRight_0b105 {u w : Int64} {K105 : Int32 → ST → (Int32 × ST)} (hK105 : ∀ (q0 : Int32) (τ : ST), LQ u w τ → LQP u w (K105 q0 τ)) {l1 : Int32} {σ : ST} (h_σ : LQ u w σ) : LQP u w (fX12_mostRight_0b105 K105 l1 σ) := by
  unfold fX12_mostRight_0b105
  exact lqite2 (lqb_fX12_mostRight_0b239  h_σ) (lqb_fX12_mostRight_0b111 hK105 h_σ)
theorem lqb_fX12_mostRight_0l105 {u w : Int64}  : ∀ (fu : Nat) {q0 : Int32} {τ : ST} (h : LQ u w τ), LQP u w (fX12_mostRight_0l105 fu q0 τ)
  | 0, _, _, h => h
  | fu + 1, _, _, h => lqb_fX12_mostRight_0b105 (fun _ _ q => lqb_fX12_mostRight_0l105  fu q) h
theorem lqb_fX12_mostRight_0b103 {u w : Int64}  {σ : ST} (h_σ : LQ u w σ) : LQP u w (fX12_mostRight_0b103 σ) := by
  unfold fX12_mostRight_0b103
  exact lqb_fX12_mostRight_0l105  _ h_σ
theorem lqb_fX12_mostRight_0b90 {u w : Int64} {K83 : Int32 → ST → (Int32 × ST)} (hK83 : ∀ (q0 : Int32) (τ : ST), LQ u w τ → LQP u w (K83 q0 τ)) {l1 : Int32} {σ : ST} (h_σ : LQ u w σ) : LQP u w (fX12_mostRight_0b90 K83 l1 σ) := by
  unfold fX12_mostRight_0b90
  refine lqbd2 fun s96 e_s96 => ?_
  have h_s96 : LQ u w s96 := by rw [e_s96]; exact h_σ
  refine lqbd2 fun v97 _ => ?_
  exact hK83 _ _ h_s96
theorem lqb_fX12_mostRight_0b83 {u w : Int64} {K83 : Int32 → ST → (Int32 × ST)} (hK83 : ∀ (q0 : Int32) (τ : ST), LQ u w τ → LQP u w (K83 q0 τ)) {l1 : Int32} {σ : ST} (h_σ : LQ u w σ) : LQP u w (fX12_mostRight_0b83 K83 l1 σ) := by
  unfold fX12_mostRight_0b83
  exact lqite2 (lqb_fX12_mostRight_0b103  h_σ) (lqb_fX12_mostRight_0b90 hK83 h_σ)
theorem lqb_fX12_mostRight_0l83 {u w : Int64}  : ∀ (fu : Nat) {q0 : Int32} {τ : ST} (h : LQ u w τ), LQP u w (fX12_mostRight_0l83 fu q0 τ)
  | 0, _, _, h => h
  | fu + 1, _, _, h => lqb_fX12_mostRight_0b83 (fun _ _ q => lqb_fX12_mostRight_0l83  fu q) h
theorem lqb_fX12_mostRight_0b81 {u w : Int64}  {σ : ST} (h_σ : LQ u w σ) : LQP u w (fX12_mostRight_0b81 σ) := by
  unfold fX12_mostRight_0b81
  exact lqb_fX12_mostRight_0l83  _ h_σ
theorem lqb_fX12_mostRight_0b75 {u w : Int64} {K23 : Int32 → ST → (Int32 × ST)} (hK23 : ∀ (q0 : Int32) (τ : ST), LQ u w τ → LQP u w (K23 q0 τ)) {l1 : Int32} {σ : ST} (h_σ : LQ u w σ) : LQP u w (fX12_mostRight_0b75 K23 l1 σ) := by
  unfold fX12_mostRight_0b75
  refine lqbd2 fun v75 _ => ?_
  exact hK23 _ _ h_σ
theorem lqb_fX12_mostRight_0b51 {u w : Int64} {K23 : Int32 → ST → (Int32 × ST)} (hK23 : ∀ (q0 : Int32) (τ : ST), LQ u w τ → LQP u w (K23 q0 τ)) {l1 : Int32} {σ : ST} (h_σ : LQ u w σ) : LQP u w (fX12_mostRight_0b51 K23 l1 σ) := by
  unfold fX12_mostRight_0b51
  refine lqbd2 fun v62 _ => ?_
  refine lqbd2 fun v63 _ => ?_
  refine lqbd2 fun v66 _ => ?_
  refine lqbd2 fun v69 _ => ?_
  refine lqbd2 fun v71 _ => ?_
  refine lqbd2 fun v73 _ => ?_
  refine lqbd2 fun s74 e_s74 => ?_
  have h_s74 : LQ u w s74 := by rw [e_s74]; exact h_σ
  exact lqb_fX12_mostRight_0b75 hK23 h_s74
theorem lqb_fX12_mostRight_0b42 {u w : Int64} {K23 : Int32 → ST → (Int32 × ST)} (hK23 : ∀ (q0 : Int32) (τ : ST), LQ u w τ → LQP u w (K23 q0 τ)) {l1 : Int32} {σ : ST} (h_σ : LQ u w σ) : LQP u w (fX12_mostRight_0b42 K23 l1 σ) := by
  unfold fX12_mostRight_0b42
  refine lqbd2 fun v47 _ => ?_
  exact lqite2 (lqb_fX12_mostRight_0b75 hK23 h_σ) (lqb_fX12_mostRight_0b51 hK23 h_σ)
theorem lqb_fX12_mostRight_0b31 {u w : Int64} {K23 : Int32 → ST → (Int32 × ST)} (hK23 : ∀ (q0 : Int32) (τ : ST), LQ u w τ → LQP u w (K23 q0 τ)) {l1 : Int32} {σ : ST} (h_σ : LQ u w σ) : LQP u w (fX12_mostRight_0b31 K23 l1 σ) := by
  unfold fX12_mostRight_0b31
  refine lqbd2 fun v36 _ => ?_
  exact lqite2 (lqb_fX12_mostRight_0b75 hK23 h_σ) (lqb_fX12_mostRight_0b42 hK23 h_σ)
theorem lqb_fX12_mostRight_0b23 {u w : Int64} {K23 : Int32 → ST → (Int32 × ST)} (hK23 : ∀ (q0 : Int32) (τ : ST), LQ u w τ → LQP u w (K23 q0 τ)) {l1 : Int32} {σ : ST} (h_σ : LQ u w σ) : LQP u w (fX12_mostRight_0b23 K23 l1 σ) := by
  unfold fX12_mostRight_0b23
  refine lqbd2 fun v25 _ => ?_
  exact lqite2 (lqb_fX12_mostRight_0b81  h_σ) (lqb_fX12_mostRight_0b31 hK23 h_σ)
theorem lqb_fX12_mostRight_0l23 {u w : Int64}  : ∀ (fu : Nat) {q0 : Int32} {τ : ST} (h : LQ u w τ), LQP u w (fX12_mostRight_0l23 fu q0 τ)
  | 0, _, _, h => h
  | fu + 1, _, _, h => lqb_fX12_mostRight_0b23 (fun _ _ q => lqb_fX12_mostRight_0l23  fu q) h
theorem lqb_fX12_mostRight_0b21 {u w : Int64}  {σ : ST} (h_σ : LQ u w σ) : LQP u w (fX12_mostRight_0b21 σ) := by
  unfold fX12_mostRight_0b21
  exact lqb_fX12_mostRight_0l23  _ h_σ
theorem lqb_fX12_mostRight_0b8 {u w : Int64} {K2 : Int32 → ST → (Int32 × ST)} (hK2 : ∀ (q0 : Int32) (τ : ST), LQ u w τ → LQP u w (K2 q0 τ)) {l1 : Int32} {σ : ST} (h_σ : LQ u w σ) : LQP u w (fX12_mostRight_0b8 K2 l1 σ) := by
  unfold fX12_mostRight_0b8
  refine lqbd2 fun s14 e_s14 => ?_
  have h_s14 : LQ u w s14 := by rw [e_s14]; exact h_σ
  refine lqbd2 fun v15 _ => ?_
  exact hK2 _ _ h_s14
theorem lqb_fX12_mostRight_0b2 {u w : Int64} {K2 : Int32 → ST → (Int32 × ST)} (hK2 : ∀ (q0 : Int32) (τ : ST), LQ u w τ → LQP u w (K2 q0 τ)) {l1 : Int32} {σ : ST} (h_σ : LQ u w σ) : LQP u w (fX12_mostRight_0b2 K2 l1 σ) := by
  unfold fX12_mostRight_0b2
  exact lqite2 (lqb_fX12_mostRight_0b21  h_σ) (lqb_fX12_mostRight_0b8 hK2 h_σ)
theorem lqb_fX12_mostRight_0l2 {u w : Int64}  : ∀ (fu : Nat) {q0 : Int32} {τ : ST} (h : LQ u w τ), LQP u w (fX12_mostRight_0l2 fu q0 τ)
  | 0, _, _, h => h
  | fu + 1, _, _, h => lqb_fX12_mostRight_0b2 (fun _ _ q => lqb_fX12_mostRight_0l2  fu q) h
theorem lqb_fX12_mostRight_0b0 {u w : Int64}  {σ : ST} (h_σ : LQ u w σ) : LQP u w (fX12_mostRight_0b0 σ) := by
  unfold fX12_mostRight_0b0
  exact lqb_fX12_mostRight_0l2  _ h_σ
theorem lq_fX12_mostRight_0 {u w : Int64} {σ : ST} (h : LQ u w σ) : LQ u w (fX12_mostRight_0 σ).2 := lqb_fX12_mostRight_0b0 h
theorem lqb_fX12_errors_0b164 {u w : Int64}  {t0 : Int32} {σ : ST} (h_σ : LQ u w σ) : LQP u w (fX12_errors_0b164 t0 σ) := by
  unfold fX12_errors_0b164
  exact h_σ
theorem lqb_fX12_errors_0b162 {u w : Int64}  {σ : ST} (h_σ : LQ u w σ) : LQP u w (fX12_errors_0b162 σ) := by
  unfold fX12_errors_0b162
  exact lqb_fX12_errors_0b164  h_σ
theorem lqb_fX12_errors_0b152 {u w : Int64}  {l4 : Int32} {σ : ST} (h_σ : LQ u w σ) : LQP u w (fX12_errors_0b152 l4 σ) := by
  unfold fX12_errors_0b152
  refine lqbp2 fun v155 s155 e_s155 => ?_
  have h_s155 : LQ u w s155 := by rw [← e_s155]; exact lq_fX12_mostRight_0 h_σ
  refine lqbd2 fun v158 _ => ?_
  exact lqb_fX12_errors_0b164  h_s155
theorem lqb_fX12_errors_0b145 {u w : Int64}  {l4 : Int32} {σ : ST} (h_σ : LQ u w σ) : LQP u w (fX12_errors_0b145 l4 σ) := by
  unfold fX12_errors_0b145
  refine lqbp2 fun v146 s146 e_s146 => ?_
  have h_s146 : LQ u w s146 := by rw [← e_s146]; exact lq_fX12_findBest_0 h_σ
  exact lqite2 (lqb_fX12_errors_0b162  h_s146) (lqb_fX12_errors_0b152  h_s146)
theorem lqb_fX12_errors_0b144 {u w : Int64}  {t0 : Int32} {σ : ST} (h_σ : LQ u w σ) : LQP u w (fX12_errors_0b144 t0 σ) := by
  unfold fX12_errors_0b144
  exact h_σ
theorem lqb_fX12_errors_0b143 {u w : Int64}  {l3 : Int32} {σ : ST} (h_σ : LQ u w σ) : LQP u w (fX12_errors_0b143 l3 σ) := by
  unfold fX12_errors_0b143
  exact lqb_fX12_errors_0b144  h_σ
theorem lqb_fX12_errors_0b139 {u w : Int64}  {l2 : Int32} {σ : ST} (h_σ : LQ u w σ) : LQP u w (fX12_errors_0b139 l2 σ) := by
  unfold fX12_errors_0b139
  exact lqb_fX12_errors_0b144  h_σ
theorem lqb_fX12_errors_0b135 {u w : Int64}  {l1 : Int32} {l2 : Int32} {l3 : Int32} {σ : ST} (h_σ : LQ u w σ) : LQP u w (fX12_errors_0b135 l1 l2 l3 σ) := by
  unfold fX12_errors_0b135
  exact lqite2 (lqb_fX12_errors_0b139  h_σ) (lqb_fX12_errors_0b143  h_σ)
theorem lqb_fX12_errors_0b130 {u w : Int64}  {l1 : Int32} {l2 : Int32} {l3 : Int32} {l4 : Int32} {σ : ST} (h_σ : LQ u w σ) : LQP u w (fX12_errors_0b130 l1 l2 l3 l4 σ) := by
  unfold fX12_errors_0b130
  exact lqite2 (lqb_fX12_errors_0b145  h_σ) (lqb_fX12_errors_0b135  h_σ)
theorem lqb_fX12_errors_0b121 {u w : Int64} {K25 : Int32 → Int32 → Int32 → Int32 → Int32 → ST → (Int32 × ST)} (hK25 : ∀ (q0 : Int32) (q1 : Int32) (q2 : Int32) (q3 : Int32) (q4 : Int32) (τ : ST), LQ u w τ → LQP u w (K25 q0 q1 q2 q3 q4 τ)) {l1 : Int32} {l2 : Int32} {l3 : Int32} {l5 : Int32} {t0 : Int32} {t1 : Int32} {σ : ST} (h_σ : LQ u w σ) : LQP u w (fX12_errors_0b121 K25 l1 l2 l3 l5 t0 t1 σ) := by
  unfold fX12_errors_0b121
  refine lqbd2 fun v121 _ => ?_
  refine lqbd2 fun v124 _ => ?_
  exact hK25 _ _ _ _ _ _ h_σ
theorem lqb_fX12_errors_0b120 {u w : Int64} {K25 : Int32 → Int32 → Int32 → Int32 → Int32 → ST → (Int32 × ST)} (hK25 : ∀ (q0 : Int32) (q1 : Int32) (q2 : Int32) (q3 : Int32) (q4 : Int32) (τ : ST), LQ u w τ → LQP u w (K25 q0 q1 q2 q3 q4 τ)) {l1 : Int32} {l2 : Int32} {l3 : Int32} {l5 : Int32} {t0 : Int32} {σ : ST} (h_σ : LQ u w σ) : LQP u w (fX12_errors_0b120 K25 l1 l2 l3 l5 t0 σ) := by
  unfold fX12_errors_0b120
  exact lqb_fX12_errors_0b121 hK25 h_σ
theorem lqb_fX12_errors_0b116 {u w : Int64} {K25 : Int32 → Int32 → Int32 → Int32 → Int32 → ST → (Int32 × ST)} (hK25 : ∀ (q0 : Int32) (q1 : Int32) (q2 : Int32) (q3 : Int32) (q4 : Int32) (τ : ST), LQ u w τ → LQP u w (K25 q0 q1 q2 q3 q4 τ)) {l1 : Int32} {l2 : Int32} {l3 : Int32} {l5 : Int32} {t0 : Int32} {σ : ST} (h_σ : LQ u w σ) : LQP u w (fX12_errors_0b116 K25 l1 l2 l3 l5 t0 σ) := by
  unfold fX12_errors_0b116
  exact lqb_fX12_errors_0b121 hK25 h_σ
theorem lqb_fX12_errors_0b106 {u w : Int64} {K25 : Int32 → Int32 → Int32 → Int32 → Int32 → ST → (Int32 × ST)} (hK25 : ∀ (q0 : Int32) (q1 : Int32) (q2 : Int32) (q3 : Int32) (q4 : Int32) (τ : ST), LQ u w τ → LQP u w (K25 q0 q1 q2 q3 q4 τ)) {l1 : Int32} {l2 : Int32} {l3 : Int32} {l5 : Int32} {t0 : Int32} {σ : ST} (h_σ : LQ u w σ) : LQP u w (fX12_errors_0b106 K25 l1 l2 l3 l5 t0 σ) := by
  unfold fX12_errors_0b106
  refine lqbd2 fun v112 _ => ?_
  exact lqite2 (lqb_fX12_errors_0b120 hK25 h_σ) (lqb_fX12_errors_0b116 hK25 h_σ)
theorem lqb_fX12_errors_0b97 {u w : Int64} {K25 : Int32 → Int32 → Int32 → Int32 → Int32 → ST → (Int32 × ST)} (hK25 : ∀ (q0 : Int32) (q1 : Int32) (q2 : Int32) (q3 : Int32) (q4 : Int32) (τ : ST), LQ u w τ → LQP u w (K25 q0 q1 q2 q3 q4 τ)) {l1 : Int32} {l2 : Int32} {l4 : Int32} {l5 : Int32} {l6 : Int32} {t0 : Int32} {t1 : Int32} {σ : ST} (h_σ : LQ u w σ) : LQP u w (fX12_errors_0b97 K25 l1 l2 l4 l5 l6 t0 t1 σ) := by
  unfold fX12_errors_0b97
  refine lqbd2 fun v97 _ => ?_
  exact lqite2 (lqb_fX12_errors_0b120 hK25 h_σ) (lqb_fX12_errors_0b106 hK25 h_σ)
theorem lqb_fX12_errors_0b96 {u w : Int64} {K25 : Int32 → Int32 → Int32 → Int32 → Int32 → ST → (Int32 × ST)} (hK25 : ∀ (q0 : Int32) (q1 : Int32) (q2 : Int32) (q3 : Int32) (q4 : Int32) (τ : ST), LQ u w τ → LQP u w (K25 q0 q1 q2 q3 q4 τ)) {l1 : Int32} {l2 : Int32} {l4 : Int32} {l5 : Int32} {l6 : Int32} {t0 : Int32} {σ : ST} (h_σ : LQ u w σ) : LQP u w (fX12_errors_0b96 K25 l1 l2 l4 l5 l6 t0 σ) := by
  unfold fX12_errors_0b96
  exact lqb_fX12_errors_0b97 hK25 h_σ
theorem lqb_fX12_errors_0b92 {u w : Int64} {K25 : Int32 → Int32 → Int32 → Int32 → Int32 → ST → (Int32 × ST)} (hK25 : ∀ (q0 : Int32) (q1 : Int32) (q2 : Int32) (q3 : Int32) (q4 : Int32) (τ : ST), LQ u w τ → LQP u w (K25 q0 q1 q2 q3 q4 τ)) {l1 : Int32} {l2 : Int32} {l4 : Int32} {l5 : Int32} {l6 : Int32} {t0 : Int32} {σ : ST} (h_σ : LQ u w σ) : LQP u w (fX12_errors_0b92 K25 l1 l2 l4 l5 l6 t0 σ) := by
  unfold fX12_errors_0b92
  exact lqb_fX12_errors_0b97 hK25 h_σ
theorem lqb_fX12_errors_0b82 {u w : Int64} {K25 : Int32 → Int32 → Int32 → Int32 → Int32 → ST → (Int32 × ST)} (hK25 : ∀ (q0 : Int32) (q1 : Int32) (q2 : Int32) (q3 : Int32) (q4 : Int32) (τ : ST), LQ u w τ → LQP u w (K25 q0 q1 q2 q3 q4 τ)) {l1 : Int32} {l2 : Int32} {l4 : Int32} {l5 : Int32} {l6 : Int32} {t0 : Int32} {σ : ST} (h_σ : LQ u w σ) : LQP u w (fX12_errors_0b82 K25 l1 l2 l4 l5 l6 t0 σ) := by
  unfold fX12_errors_0b82
  refine lqbd2 fun v88 _ => ?_
  exact lqite2 (lqb_fX12_errors_0b92 hK25 h_σ) (lqb_fX12_errors_0b96 hK25 h_σ)
theorem lqb_fX12_errors_0b74 {u w : Int64} {K25 : Int32 → Int32 → Int32 → Int32 → Int32 → ST → (Int32 × ST)} (hK25 : ∀ (q0 : Int32) (q1 : Int32) (q2 : Int32) (q3 : Int32) (q4 : Int32) (τ : ST), LQ u w τ → LQP u w (K25 q0 q1 q2 q3 q4 τ)) {l1 : Int32} {l3 : Int32} {l4 : Int32} {l5 : Int32} {l6 : Int32} {t0 : Int32} {t1 : Int32} {σ : ST} (h_σ : LQ u w σ) : LQP u w (fX12_errors_0b74 K25 l1 l3 l4 l5 l6 t0 t1 σ) := by
  unfold fX12_errors_0b74
  refine lqbd2 fun v74 _ => ?_
  exact lqite2 (lqb_fX12_errors_0b96 hK25 h_σ) (lqb_fX12_errors_0b82 hK25 h_σ)
theorem lqb_fX12_errors_0b73 {u w : Int64} {K25 : Int32 → Int32 → Int32 → Int32 → Int32 → ST → (Int32 × ST)} (hK25 : ∀ (q0 : Int32) (q1 : Int32) (q2 : Int32) (q3 : Int32) (q4 : Int32) (τ : ST), LQ u w τ → LQP u w (K25 q0 q1 q2 q3 q4 τ)) {l1 : Int32} {l3 : Int32} {l4 : Int32} {l5 : Int32} {l6 : Int32} {t0 : Int32} {σ : ST} (h_σ : LQ u w σ) : LQP u w (fX12_errors_0b73 K25 l1 l3 l4 l5 l6 t0 σ) := by
  unfold fX12_errors_0b73
  exact lqb_fX12_errors_0b74 hK25 h_σ
theorem lqb_fX12_errors_0b69 {u w : Int64} {K25 : Int32 → Int32 → Int32 → Int32 → Int32 → ST → (Int32 × ST)} (hK25 : ∀ (q0 : Int32) (q1 : Int32) (q2 : Int32) (q3 : Int32) (q4 : Int32) (τ : ST), LQ u w τ → LQP u w (K25 q0 q1 q2 q3 q4 τ)) {l1 : Int32} {l3 : Int32} {l4 : Int32} {l5 : Int32} {l6 : Int32} {t0 : Int32} {σ : ST} (h_σ : LQ u w σ) : LQP u w (fX12_errors_0b69 K25 l1 l3 l4 l5 l6 t0 σ) := by
  unfold fX12_errors_0b69
  exact lqb_fX12_errors_0b74 hK25 h_σ
theorem lqb_fX12_errors_0b59 {u w : Int64} {K25 : Int32 → Int32 → Int32 → Int32 → Int32 → ST → (Int32 × ST)} (hK25 : ∀ (q0 : Int32) (q1 : Int32) (q2 : Int32) (q3 : Int32) (q4 : Int32) (τ : ST), LQ u w τ → LQP u w (K25 q0 q1 q2 q3 q4 τ)) {l1 : Int32} {l3 : Int32} {l4 : Int32} {l5 : Int32} {l6 : Int32} {t0 : Int32} {σ : ST} (h_σ : LQ u w σ) : LQP u w (fX12_errors_0b59 K25 l1 l3 l4 l5 l6 t0 σ) := by
  unfold fX12_errors_0b59
  refine lqbd2 fun v65 _ => ?_
  exact lqite2 (lqb_fX12_errors_0b73 hK25 h_σ) (lqb_fX12_errors_0b69 hK25 h_σ)
theorem lqb_fX12_errors_0b51 {u w : Int64} {K25 : Int32 → Int32 → Int32 → Int32 → Int32 → ST → (Int32 × ST)} (hK25 : ∀ (q0 : Int32) (q1 : Int32) (q2 : Int32) (q3 : Int32) (q4 : Int32) (τ : ST), LQ u w τ → LQP u w (K25 q0 q1 q2 q3 q4 τ)) {l1 : Int32} {l2 : Int32} {l3 : Int32} {l4 : Int32} {l5 : Int32} {t0 : Int32} {σ : ST} (h_σ : LQ u w σ) : LQP u w (fX12_errors_0b51 K25 l1 l2 l3 l4 l5 t0 σ) := by
  unfold fX12_errors_0b51
  exact lqite2 (lqb_fX12_errors_0b59 hK25 h_σ) (lqb_fX12_errors_0b73 hK25 h_σ)
theorem lqb_fX12_errors_0b50 {u w : Int64} {K25 : Int32 → Int32 → Int32 → Int32 → Int32 → ST → (Int32 × ST)} (hK25 : ∀ (q0 : Int32) (q1 : Int32) (q2 : Int32) (q3 : Int32) (q4 : Int32) (τ : ST), LQ u w τ → LQP u w (K25 q0 q1 q2 q3 q4 τ)) {l1 : Int32} {l2 : Int32} {l3 : Int32} {l4 : Int32} {l5 : Int32} {σ : ST} (h_σ : LQ u w σ) : LQP u w (fX12_errors_0b50 K25 l1 l2 l3 l4 l5 σ) := by
  unfold fX12_errors_0b50
  exact lqb_fX12_errors_0b51 hK25 h_σ
theorem lqb_fX12_errors_0b46 {u w : Int64} {K25 : Int32 → Int32 → Int32 → Int32 → Int32 → ST → (Int32 × ST)} (hK25 : ∀ (q0 : Int32) (q1 : Int32) (q2 : Int32) (q3 : Int32) (q4 : Int32) (τ : ST), LQ u w τ → LQP u w (K25 q0 q1 q2 q3 q4 τ)) {l1 : Int32} {l2 : Int32} {l3 : Int32} {l4 : Int32} {l5 : Int32} {σ : ST} (h_σ : LQ u w σ) : LQP u w (fX12_errors_0b46 K25 l1 l2 l3 l4 l5 σ) := by
  unfold fX12_errors_0b46
  exact lqb_fX12_errors_0b51 hK25 h_σ
theorem lqb_fX12_errors_0b34 {u w : Int64} {K25 : Int32 → Int32 → Int32 → Int32 → Int32 → ST → (Int32 × ST)} (hK25 : ∀ (q0 : Int32) (q1 : Int32) (q2 : Int32) (q3 : Int32) (q4 : Int32) (τ : ST), LQ u w τ → LQP u w (K25 q0 q1 q2 q3 q4 τ)) {l1 : Int32} {l2 : Int32} {l3 : Int32} {l4 : Int32} {l5 : Int32} {σ : ST} (h_σ : LQ u w σ) : LQP u w (fX12_errors_0b34 K25 l1 l2 l3 l4 l5 σ) := by
  unfold fX12_errors_0b34
  refine lqbd2 fun v40 _ => ?_
  exact lqite2 (lqb_fX12_errors_0b50 hK25 h_σ) (lqb_fX12_errors_0b46 hK25 h_σ)
theorem lqb_fX12_errors_0b25 {u w : Int64} {K25 : Int32 → Int32 → Int32 → Int32 → Int32 → ST → (Int32 × ST)} (hK25 : ∀ (q0 : Int32) (q1 : Int32) (q2 : Int32) (q3 : Int32) (q4 : Int32) (τ : ST), LQ u w τ → LQP u w (K25 q0 q1 q2 q3 q4 τ)) {l1 : Int32} {l2 : Int32} {l3 : Int32} {l4 : Int32} {l5 : Int32} {σ : ST} (h_σ : LQ u w σ) : LQP u w (fX12_errors_0b25 K25 l1 l2 l3 l4 l5 σ) := by
  unfold fX12_errors_0b25
  refine lqbd2 fun v28 _ => ?_
  exact lqite2 (lqb_fX12_errors_0b130  h_σ) (lqb_fX12_errors_0b34 hK25 h_σ)
theorem lqb_fX12_errors_0l25 {u w : Int64}  : ∀ (fu : Nat) {q0 : Int32} {q1 : Int32} {q2 : Int32} {q3 : Int32} {q4 : Int32} {τ : ST} (h : LQ u w τ), LQP u w (fX12_errors_0l25 fu q0 q1 q2 q3 q4 τ)
  | 0, _, _, _, _, _, _, h => h
  | fu + 1, _, _, _, _, _, _, h => lqb_fX12_errors_0b25 (fun _ _ _ _ _ _ q => lqb_fX12_errors_0l25  fu q) h
theorem lqb_fX12_errors_0b11 {u w : Int64}  {l1 : Int32} {σ : ST} (h_σ : LQ u w σ) : LQP u w (fX12_errors_0b11 l1 σ) := by
  unfold fX12_errors_0b11
  refine lqbd2 fun s12 e_s12 => ?_
  have h_s12 : LQ u w s12 := by rw [e_s12]; exact lq_fX12_findPieces_0 h_σ
  exact lqb_fX12_errors_0l25  _ h_s12
theorem lqb_fX12_errors_0b9 {u w : Int64}  {σ : ST} (h_σ : LQ u w σ) : LQP u w (fX12_errors_0b9 σ) := by
  unfold fX12_errors_0b9
  exact h_σ
theorem lqb_fX12_errors_0b0 {u w : Int64}  {l1 : Int32} {σ : ST} (h_σ : LQ u w σ) : LQP u w (fX12_errors_0b0 l1 σ) := by
  unfold fX12_errors_0b0
  refine lqbd2 fun v3 _ => ?_
  exact lqite2 (lqb_fX12_errors_0b9  h_σ) (lqb_fX12_errors_0b11  h_σ)
theorem lq_fX12_errors_0 {u w : Int64} {p1 : Int32} {σ : ST} (h : LQ u w σ) : LQ u w (fX12_errors_0 p1 σ).2 := lqb_fX12_errors_0b0 h
theorem lqb_fX12_weight_0b22 {u w : Int64}  {σ : ST} (h_σ : LQ u w σ) : LQP u w (fX12_weight_0b22 σ) := by
  unfold fX12_weight_0b22
  exact h_σ
theorem lqb_fX12_weight_0b96 {u w : Int64}  {l3 : Int32} {σ : ST} (h_σ : LQ u w σ) : LQP u w (fX12_weight_0b96 l3 σ) := by
  unfold fX12_weight_0b96
  refine lqbd2 fun v98 _ => ?_
  refine lqbd2 fun v102 _ => ?_
  refine lqbd2 fun s103 e_s103 => ?_
  have h_s103 : LQ u w s103 := by rw [e_s103]; exact h_σ
  exact h_s103
theorem lqb_fX12_weight_0b108 {u w : Int64}  {l4 : Int32} {σ : ST} (h_σ : LQ u w σ) : LQP u w (fX12_weight_0b108 l4 σ) := by
  unfold fX12_weight_0b108
  refine lqbd2 fun v110 _ => ?_
  refine lqbd2 fun v116 _ => ?_
  refine lqbd2 fun s117 e_s117 => ?_
  have h_s117 : LQ u w s117 := by rw [e_s117]; exact h_σ
  exact h_s117
theorem lqb_fX12_weight_0b123 {u w : Int64}  {l5 : Int32} {σ : ST} (h_σ : LQ u w σ) : LQP u w (fX12_weight_0b123 l5 σ) := by
  unfold fX12_weight_0b123
  refine lqbd2 fun v125 _ => ?_
  refine lqbd2 fun v131 _ => ?_
  refine lqbd2 fun s132 e_s132 => ?_
  have h_s132 : LQ u w s132 := by rw [e_s132]; exact h_σ
  exact h_s132
theorem lqb_fX12_weight_0b138 {u w : Int64}  {l5 : Int32} {σ : ST} (h_σ : LQ u w σ) : LQP u w (fX12_weight_0b138 l5 σ) := by
  unfold fX12_weight_0b138
  refine lqbd2 fun v140 _ => ?_
  refine lqbd2 fun v146 _ => ?_
  refine lqbd2 fun s147 e_s147 => ?_
  have h_s147 : LQ u w s147 := by rw [e_s147]; exact h_σ
  refine lqbd2 fun v153 _ => ?_
  refine lqbd2 fun v155 _ => ?_
  exact h_s147
theorem lqb_fX12_weight_0b183 {u w : Int64}  {t0 : Int32} {σ : ST} (h_σ : LQ u w σ) : LQP u w (fX12_weight_0b183 t0 σ) := by
  unfold fX12_weight_0b183
  exact h_σ
theorem lqb_fX12_weight_0b179 {u w : Int64}  {l5 : Int32} {σ : ST} (h_σ : LQ u w σ) : LQP u w (fX12_weight_0b179 l5 σ) := by
  unfold fX12_weight_0b179
  refine lqbd2 fun v182 _ => ?_
  exact lqb_fX12_weight_0b183  h_σ
theorem lqb_fX12_weight_0b175 {u w : Int64}  {σ : ST} (h_σ : LQ u w σ) : LQP u w (fX12_weight_0b175 σ) := by
  unfold fX12_weight_0b175
  exact lqb_fX12_weight_0b183  h_σ
theorem lqb_fX12_weight_0b157 {u w : Int64}  {l5 : Int32} {σ : ST} (h_σ : LQ u w σ) : LQP u w (fX12_weight_0b157 l5 σ) := by
  unfold fX12_weight_0b157
  refine lqbd2 fun v159 _ => ?_
  refine lqbd2 fun v165 _ => ?_
  refine lqbd2 fun s166 e_s166 => ?_
  have h_s166 : LQ u w s166 := by rw [e_s166]; exact h_σ
  exact lqite2 (lqb_fX12_weight_0b179  h_s166) (lqb_fX12_weight_0b175  h_s166)
theorem lqb_fX12_weight_0b184 {u w : Int64}  {l4 : Int32} {σ : ST} (h_σ : LQ u w σ) : LQP u w (fX12_weight_0b184 l4 σ) := by
  unfold fX12_weight_0b184
  refine lqbd2 fun v186 _ => ?_
  refine lqbd2 fun v192 _ => ?_
  refine lqbd2 fun s193 e_s193 => ?_
  have h_s193 : LQ u w s193 := by rw [e_s193]; exact h_σ
  refine lqbd2 fun v199 _ => ?_
  exact h_s193
theorem lqb_fX12_weight_0b201 {u w : Int64}  {l4 : Int32} {σ : ST} (h_σ : LQ u w σ) : LQP u w (fX12_weight_0b201 l4 σ) := by
  unfold fX12_weight_0b201
  refine lqbd2 fun v203 _ => ?_
  refine lqbd2 fun v209 _ => ?_
  refine lqbd2 fun s210 e_s210 => ?_
  have h_s210 : LQ u w s210 := by rw [e_s210]; exact h_σ
  refine lqbd2 fun v218 _ => ?_
  refine lqbd2 fun v221 _ => ?_
  refine lqbd2 fun v222 _ => ?_
  exact h_s210
theorem lqb_fX12_weight_0b224 {u w : Int64}  {l3 : Int32} {σ : ST} (h_σ : LQ u w σ) : LQP u w (fX12_weight_0b224 l3 σ) := by
  unfold fX12_weight_0b224
  refine lqbd2 fun v226 _ => ?_
  refine lqbd2 fun v232 _ => ?_
  refine lqbd2 fun s233 e_s233 => ?_
  have h_s233 : LQ u w s233 := by rw [e_s233]; exact h_σ
  refine lqbd2 fun v238 _ => ?_
  refine lqbd2 fun v241 _ => ?_
  exact h_s233
theorem lqb_fX12_weight_0b24 {u w : Int64}  {l1 : Int32} {l2 : Int32} {σ : ST} (h_σ : LQ u w σ) : LQP u w (fX12_weight_0b24 l1 l2 σ) := by
  unfold fX12_weight_0b24
  refine lqbd2 fun v29 _ => ?_
  refine lqbd2 fun v38 _ => ?_
  refine lqbd2 fun v39 _ => ?_
  refine lqbd2 fun v40 _ => ?_
  refine lqbd2 fun v50 _ => ?_
  refine lqbd2 fun v51 _ => ?_
  refine lqite2 (lqb_fX12_weight_0b96  h_σ) ?_
  refine lqite2 (lqb_fX12_weight_0b108  h_σ) ?_
  refine lqite2 (lqb_fX12_weight_0b123  h_σ) ?_
  refine lqite2 (lqb_fX12_weight_0b138  h_σ) ?_
  refine lqite2 (lqb_fX12_weight_0b157  h_σ) ?_
  refine lqite2 (lqb_fX12_weight_0b184  h_σ) ?_
  refine lqite2 (lqb_fX12_weight_0b201  h_σ) ?_
  exact lqb_fX12_weight_0b224  h_σ
theorem lqb_fX12_weight_0b14 {u w : Int64}  {l1 : Int32} {l2 : Int32} {σ : ST} (h_σ : LQ u w σ) : LQP u w (fX12_weight_0b14 l1 l2 σ) := by
  unfold fX12_weight_0b14
  refine lqbd2 fun v16 _ => ?_
  exact lqite2 (lqb_fX12_weight_0b22  h_σ) (lqb_fX12_weight_0b24  h_σ)
theorem lqb_fX12_weight_0b0 {u w : Int64}  {l1 : Int32} {l2 : Int32} {σ : ST} (h_σ : LQ u w σ) : LQP u w (fX12_weight_0b0 l1 l2 σ) := by
  unfold fX12_weight_0b0
  refine lqbd2 fun s1 e_s1 => ?_
  have h_s1 : LQ u w s1 := by rw [e_s1]; exact lq_fX12_findPieces_0 h_σ
  refine lqbd2 fun v8 _ => ?_
  exact lqite2 (lqb_fX12_weight_0b22  h_s1) (lqb_fX12_weight_0b14  h_s1)
theorem lq_fX12_weight_0 {u w : Int64} {p1 : Int32} {p2 : Int32} {σ : ST} (h : LQ u w σ) : LQ u w (fX12_weight_0 p1 p2 σ).2 := lqb_fX12_weight_0b0 h
