/-! what each function leaves alone; made by wip/gen3/frames.py -/
theorem bdF {α : Type} {I A : List (Nat × Nat)} {σ0 : ST} {x : α} {F : α → ST} (h : ∀ y, y = x → Fr I A σ0 (F y)) : Fr I A σ0 (bd x F) := h x rfl
def FrP {γ : Type} (I A : List (Nat × Nat)) (σ0 : ST) (x : γ × ST) : Prop := Fr I A σ0 x.2
theorem bdF2 {α γ : Type} {I A : List (Nat × Nat)} {σ0 : ST} {x : α} {F : α → γ × ST} (h : ∀ y, y = x → FrP I A σ0 (F y)) : FrP I A σ0 (bd x F) := h x rfl
theorem bpF {α : Type} {I A : List (Nat × Nat)} {σ0 : ST} {x : α × ST} {F : α → ST → ST} (h : ∀ a b, x.2 = b → Fr I A σ0 (F a b)) : Fr I A σ0 (bp x F) := h x.1 x.2 rfl
theorem bpF2 {α γ : Type} {I A : List (Nat × Nat)} {σ0 : ST} {x : α × ST} {F : α → ST → γ × ST} (h : ∀ a b, x.2 = b → FrP I A σ0 (F a b)) : FrP I A σ0 (bp x F) := h x.1 x.2 rfl
theorem iteF {I A : List (Nat × Nat)} {σ0 : ST} {c : Prop} {i : Decidable c} {a b : ST} (h1 : Fr I A σ0 a) (h2 : Fr I A σ0 b) : Fr I A σ0 (@ite ST c i a b) := by
  cases i with
  | isTrue q => exact h1
  | isFalse q => exact h2
theorem iteF2 {γ : Type} {I A : List (Nat × Nat)} {σ0 : ST} {c : Prop} {i : Decidable c} {a b : γ × ST} (h1 : FrP I A σ0 a) (h2 : FrP I A σ0 b) : FrP I A σ0 (@ite (γ × ST) c i a b) := by
  cases i with
  | isTrue q => exact h1
  | isFalse q => exact h2
theorem fb_fX8_append_0b16 {σ0 : ST}  {σ : ST} (h_σ : Fr [(0, 0)] [(0, 0)] σ0 σ) : FrP [(0, 0)] [(0, 0)] σ0 (fX8_append_0b16 σ) := by
  unfold fX8_append_0b16
  exact h_σ
theorem fb_fX8_append_0b65 {σ0 : ST}  {σ : ST} (h_σ : Fr [(0, 0)] [(0, 0)] σ0 σ) : FrP [(0, 0)] [(0, 0)] σ0 (fX8_append_0b65 σ) := by
  unfold fX8_append_0b65
  exact h_σ
theorem fb_fX8_append_0b28 {σ0 : ST} {K23 : Int64 → Int32 → ST → (Int32 × ST)} (hK23 : ∀ (q0 : Int64) (q1 : Int32) (τ : ST), Fr [(0, 0)] [(0, 0)] σ0 τ → FrP [(0, 0)] [(0, 0)] σ0 (K23 q0 q1 τ)) {l1 : Int64} {l4 : Int32} {σ : ST} (h_σ : Fr [(0, 0)] [(0, 0)] σ0 σ) : FrP [(0, 0)] [(0, 0)] σ0 (fX8_append_0b28 K23 l1 l4 σ) := by
  unfold fX8_append_0b28
  refine bdF2 fun v33 _ => ?_
  refine bdF2 fun v41 _ => ?_
  refine bdF2 fun v42 _ => ?_
  refine bdF2 fun v43 _ => ?_
  refine bdF2 fun v47 _ => ?_
  refine bdF2 fun s48 e_s48 => ?_
  have h_s48 : Fr [(0, 0)] [(0, 0)] σ0 s48 := by rw [e_s48]; exact h_σ.putA rfl
  refine bdF2 fun v51 _ => ?_
  refine bdF2 fun v55 _ => ?_
  refine bdF2 fun s56 e_s56 => ?_
  have h_s56 : Fr [(0, 0)] [(0, 0)] σ0 s56 := by rw [e_s56]; exact h_s48.putI rfl
  refine bdF2 fun v59 _ => ?_
  exact hK23 _ _ _ h_s56
theorem fb_fX8_append_0b23 {σ0 : ST} {K23 : Int64 → Int32 → ST → (Int32 × ST)} (hK23 : ∀ (q0 : Int64) (q1 : Int32) (τ : ST), Fr [(0, 0)] [(0, 0)] σ0 τ → FrP [(0, 0)] [(0, 0)] σ0 (K23 q0 q1 τ)) {l1 : Int64} {l4 : Int32} {σ : ST} (h_σ : Fr [(0, 0)] [(0, 0)] σ0 σ) : FrP [(0, 0)] [(0, 0)] σ0 (fX8_append_0b23 K23 l1 l4 σ) := by
  unfold fX8_append_0b23
  exact iteF2 (fb_fX8_append_0b65  h_σ) (fb_fX8_append_0b28 hK23 h_σ)
theorem fb_fX8_append_0l23 {σ0 : ST}  : ∀ (fu : Nat) {q0 : Int64} {q1 : Int32} {τ : ST} (h : Fr [(0, 0)] [(0, 0)] σ0 τ), FrP [(0, 0)] [(0, 0)] σ0 (fX8_append_0l23 fu q0 q1 τ)
  | 0, _, _, _, h => h
  | fu + 1, _, _, _, h => fb_fX8_append_0b23 (fun _ _ _ q => fb_fX8_append_0l23  fu q) h
theorem fb_fX8_append_0b18 {σ0 : ST}  {l1 : Int64} {l3 : Int32} {σ : ST} (h_σ : Fr [(0, 0)] [(0, 0)] σ0 σ) : FrP [(0, 0)] [(0, 0)] σ0 (fX8_append_0b18 l1 l3 σ) := by
  unfold fX8_append_0b18
  refine bdF2 fun v20 _ => ?_
  exact fb_fX8_append_0l23  _ h_σ
theorem fb_fX8_append_0b4 {σ0 : ST}  {l1 : Int64} {l3 : Int32} {σ : ST} (h_σ : Fr [(0, 0)] [(0, 0)] σ0 σ) : FrP [(0, 0)] [(0, 0)] σ0 (fX8_append_0b4 l1 l3 σ) := by
  unfold fX8_append_0b4
  refine bdF2 fun v9 _ => ?_
  refine bdF2 fun v12 _ => ?_
  exact iteF2 (fb_fX8_append_0b18  h_σ) (fb_fX8_append_0b16  h_σ)
theorem fb_fX8_append_0b0 {σ0 : ST}  {l1 : Int64} {l3 : Int32} {σ : ST} (h_σ : Fr [(0, 0)] [(0, 0)] σ0 σ) : FrP [(0, 0)] [(0, 0)] σ0 (fX8_append_0b0 l1 l3 σ) := by
  unfold fX8_append_0b0
  exact iteF2 (fb_fX8_append_0b16  h_σ) (fb_fX8_append_0b4  h_σ)
theorem fr_fX8_append_0 {p1 : Int64} {p2 : Int32} {σ : ST} : Fr [(0, 0)] [(0, 0)] σ (fX8_append_0 p1 p2 σ).2 := fb_fX8_append_0b0 (Fr.refl σ)
theorem fb_fX11_type_0b36 {σ0 : ST}  {t0 : Int32} {σ : ST} (h_σ : Fr [(0, 0)] [(0, 0)] σ0 σ) : FrP [(0, 0)] [(0, 0)] σ0 (fX11_type_0b36 t0 σ) := by
  unfold fX11_type_0b36
  exact h_σ
theorem fb_fX11_type_0b34 {σ0 : ST}  {σ : ST} (h_σ : Fr [(0, 0)] [(0, 0)] σ0 σ) : FrP [(0, 0)] [(0, 0)] σ0 (fX11_type_0b34 σ) := by
  unfold fX11_type_0b34
  exact fb_fX11_type_0b36  h_σ
theorem fb_fX11_type_0b24 {σ0 : ST}  {σ : ST} (h_σ : Fr [(0, 0)] [(0, 0)] σ0 σ) : FrP [(0, 0)] [(0, 0)] σ0 (fX11_type_0b24 σ) := by
  unfold fX11_type_0b24
  refine bdF2 fun v28 _ => ?_
  exact fb_fX11_type_0b36  h_σ
theorem fb_fX11_type_0b12 {σ0 : ST}  {l1 : Int64} {l3 : Int32} {σ : ST} (h_σ : Fr [(0, 0)] [(0, 0)] σ0 σ) : FrP [(0, 0)] [(0, 0)] σ0 (fX11_type_0b12 l1 l3 σ) := by
  unfold fX11_type_0b12
  refine bpF2 fun v18 s18 e_s18 => ?_
  have h_s18 : Fr [(0, 0)] [(0, 0)] σ0 s18 := by rw [← e_s18]; exact h_σ.call fr_fX8_append_0 rfl rfl
  exact iteF2 (fb_fX11_type_0b34  h_s18) (fb_fX11_type_0b24  h_s18)
theorem fb_fX11_type_0b10 {σ0 : ST}  {σ : ST} (h_σ : Fr [(0, 0)] [(0, 0)] σ0 σ) : FrP [(0, 0)] [(0, 0)] σ0 (fX11_type_0b10 σ) := by
  unfold fX11_type_0b10
  exact h_σ
theorem fb_fX11_type_0b0 {σ0 : ST}  {l1 : Int64} {l3 : Int32} {σ : ST} (h_σ : Fr [(0, 0)] [(0, 0)] σ0 σ) : FrP [(0, 0)] [(0, 0)] σ0 (fX11_type_0b0 l1 l3 σ) := by
  unfold fX11_type_0b0
  refine bdF2 fun v4 _ => ?_
  exact iteF2 (fb_fX11_type_0b10  h_σ) (fb_fX11_type_0b12  h_σ)
theorem fr_fX11_type_0 {p1 : Int64} {p2 : Int32} {σ : ST} : Fr [(0, 0)] [(0, 0)] σ (fX11_type_0 p1 p2 σ).2 := fb_fX11_type_0b0 (Fr.refl σ)
theorem fb_fX11_clear_0b0 {σ0 : ST}  {σ : ST} (h_σ : Fr [(0, 0)] [] σ0 σ) : FrP [(0, 0)] [] σ0 (fX11_clear_0b0 σ) := by
  unfold fX11_clear_0b0
  refine bdF2 fun v4 _ => ?_
  refine bdF2 fun s13 e_s13 => ?_
  have h_s13 : Fr [(0, 0)] [] σ0 s13 := by rw [e_s13]; exact h_σ.putI rfl
  exact h_s13
theorem fr_fX11_clear_0 {σ : ST} : Fr [(0, 0)] [] σ (fX11_clear_0 σ).2 := fb_fX11_clear_0b0 (Fr.refl σ)
theorem fb_fX8_endsBehindBlanks_0b54 {σ0 : ST}  {t0 : Int32} {σ : ST} (h_σ : Fr [(1, 1)] [] σ0 σ) : FrP [(1, 1)] [] σ0 (fX8_endsBehindBlanks_0b54 t0 σ) := by
  unfold fX8_endsBehindBlanks_0b54
  exact h_σ
theorem fb_fX8_endsBehindBlanks_0b53 {σ0 : ST}  {σ : ST} (h_σ : Fr [(1, 1)] [] σ0 σ) : FrP [(1, 1)] [] σ0 (fX8_endsBehindBlanks_0b53 σ) := by
  unfold fX8_endsBehindBlanks_0b53
  exact fb_fX8_endsBehindBlanks_0b54  h_σ
theorem fb_fX8_endsBehindBlanks_0b49 {σ0 : ST}  {σ : ST} (h_σ : Fr [(1, 1)] [] σ0 σ) : FrP [(1, 1)] [] σ0 (fX8_endsBehindBlanks_0b49 σ) := by
  unfold fX8_endsBehindBlanks_0b49
  exact fb_fX8_endsBehindBlanks_0b54  h_σ
theorem fb_fX8_endsBehindBlanks_0b38 {σ0 : ST}  {σ : ST} (h_σ : Fr [(1, 1)] [] σ0 σ) : FrP [(1, 1)] [] σ0 (fX8_endsBehindBlanks_0b38 σ) := by
  unfold fX8_endsBehindBlanks_0b38
  refine bdF2 fun v39 _ => ?_
  refine bdF2 fun v43 _ => ?_
  exact iteF2 (fb_fX8_endsBehindBlanks_0b53  h_σ) (fb_fX8_endsBehindBlanks_0b49  h_σ)
theorem fb_fX8_endsBehindBlanks_0b25 {σ0 : ST} {K0 : ST → (Int32 × ST)} (hK0 : ∀ (τ : ST), Fr [(1, 1)] [] σ0 τ → FrP [(1, 1)] [] σ0 (K0 τ)) {σ : ST} (h_σ : Fr [(1, 1)] [] σ0 σ) : FrP [(1, 1)] [] σ0 (fX8_endsBehindBlanks_0b25 K0 σ) := by
  unfold fX8_endsBehindBlanks_0b25
  refine bdF2 fun v27 _ => ?_
  refine bdF2 fun v31 _ => ?_
  refine bdF2 fun s32 e_s32 => ?_
  have h_s32 : Fr [(1, 1)] [] σ0 s32 := by rw [e_s32]; exact h_σ.putI rfl
  exact hK0 _ h_s32
theorem fb_fX8_endsBehindBlanks_0b11 {σ0 : ST} {K0 : ST → (Int32 × ST)} (hK0 : ∀ (τ : ST), Fr [(1, 1)] [] σ0 τ → FrP [(1, 1)] [] σ0 (K0 τ)) {σ : ST} (h_σ : Fr [(1, 1)] [] σ0 σ) : FrP [(1, 1)] [] σ0 (fX8_endsBehindBlanks_0b11 K0 σ) := by
  unfold fX8_endsBehindBlanks_0b11
  refine bdF2 fun v16 _ => ?_
  refine bdF2 fun v19 _ => ?_
  exact iteF2 (fb_fX8_endsBehindBlanks_0b25 hK0 h_σ) (fb_fX8_endsBehindBlanks_0b38  h_σ)
theorem fb_fX8_endsBehindBlanks_0b0 {σ0 : ST} {K0 : ST → (Int32 × ST)} (hK0 : ∀ (τ : ST), Fr [(1, 1)] [] σ0 τ → FrP [(1, 1)] [] σ0 (K0 τ)) {σ : ST} (h_σ : Fr [(1, 1)] [] σ0 σ) : FrP [(1, 1)] [] σ0 (fX8_endsBehindBlanks_0b0 K0 σ) := by
  unfold fX8_endsBehindBlanks_0b0
  refine bdF2 fun v1 _ => ?_
  refine bdF2 fun v5 _ => ?_
  exact iteF2 (fb_fX8_endsBehindBlanks_0b38  h_σ) (fb_fX8_endsBehindBlanks_0b11 hK0 h_σ)
theorem fb_fX8_endsBehindBlanks_0l0 {σ0 : ST}  : ∀ (fu : Nat) {τ : ST} (h : Fr [(1, 1)] [] σ0 τ), FrP [(1, 1)] [] σ0 (fX8_endsBehindBlanks_0l0 fu  τ)
  | 0, _, h => h
  | fu + 1, _, h => fb_fX8_endsBehindBlanks_0b0 (fun _ q => fb_fX8_endsBehindBlanks_0l0  fu q) h
theorem fr_fX8_endsBehindBlanks_0 {σ : ST} : Fr [(1, 1)] [] σ (fX8_endsBehindBlanks_0 σ).2 := fb_fX8_endsBehindBlanks_0l0 4096 (Fr.refl σ)
theorem fb_fX8_readWord_0b76 {σ0 : ST}  {σ : ST} (h_σ : Fr [(1, 1)] [] σ0 σ) : FrP [(1, 1)] [] σ0 (fX8_readWord_0b76 σ) := by
  unfold fX8_readWord_0b76
  exact h_σ
theorem fb_fX8_readWord_0b70 {σ0 : ST} {K46 : Int32 → Int32 → ST → (Int32 × ST)} (hK46 : ∀ (q0 : Int32) (q1 : Int32) (τ : ST), Fr [(1, 1)] [] σ0 τ → FrP [(1, 1)] [] σ0 (K46 q0 q1 τ)) {l1 : Int32} {l2 : Int32} {σ : ST} (h_σ : Fr [(1, 1)] [] σ0 σ) : FrP [(1, 1)] [] σ0 (fX8_readWord_0b70 K46 l1 l2 σ) := by
  unfold fX8_readWord_0b70
  refine bdF2 fun v70 _ => ?_
  exact hK46 _ _ _ h_σ
theorem fb_fX8_readWord_0b68 {σ0 : ST} {K46 : Int32 → Int32 → ST → (Int32 × ST)} (hK46 : ∀ (q0 : Int32) (q1 : Int32) (τ : ST), Fr [(1, 1)] [] σ0 τ → FrP [(1, 1)] [] σ0 (K46 q0 q1 τ)) {l2 : Int32} {σ : ST} (h_σ : Fr [(1, 1)] [] σ0 σ) : FrP [(1, 1)] [] σ0 (fX8_readWord_0b68 K46 l2 σ) := by
  unfold fX8_readWord_0b68
  exact h_σ
theorem fb_fX8_readWord_0b52 {σ0 : ST} {K46 : Int32 → Int32 → ST → (Int32 × ST)} (hK46 : ∀ (q0 : Int32) (q1 : Int32) (τ : ST), Fr [(1, 1)] [] σ0 τ → FrP [(1, 1)] [] σ0 (K46 q0 q1 τ)) {l1 : Int32} {l2 : Int32} {σ : ST} (h_σ : Fr [(1, 1)] [] σ0 σ) : FrP [(1, 1)] [] σ0 (fX8_readWord_0b52 K46 l1 l2 σ) := by
  unfold fX8_readWord_0b52
  refine bdF2 fun v54 _ => ?_
  refine bdF2 fun v59 _ => ?_
  refine bdF2 fun v62 _ => ?_
  exact iteF2 (fb_fX8_readWord_0b70 hK46 h_σ) (fb_fX8_readWord_0b68 hK46 h_σ)
theorem fb_fX8_readWord_0b46 {σ0 : ST} {K46 : Int32 → Int32 → ST → (Int32 × ST)} (hK46 : ∀ (q0 : Int32) (q1 : Int32) (τ : ST), Fr [(1, 1)] [] σ0 τ → FrP [(1, 1)] [] σ0 (K46 q0 q1 τ)) {l1 : Int32} {l2 : Int32} {σ : ST} (h_σ : Fr [(1, 1)] [] σ0 σ) : FrP [(1, 1)] [] σ0 (fX8_readWord_0b46 K46 l1 l2 σ) := by
  unfold fX8_readWord_0b46
  exact iteF2 (fb_fX8_readWord_0b76  h_σ) (fb_fX8_readWord_0b52 hK46 h_σ)
theorem fb_fX8_readWord_0l46 {σ0 : ST}  : ∀ (fu : Nat) {q0 : Int32} {q1 : Int32} {τ : ST} (h : Fr [(1, 1)] [] σ0 τ), FrP [(1, 1)] [] σ0 (fX8_readWord_0l46 fu q0 q1 τ)
  | 0, _, _, _, h => h
  | fu + 1, _, _, _, h => fb_fX8_readWord_0b46 (fun _ _ _ q => fb_fX8_readWord_0l46  fu q) h
theorem fb_fX8_readWord_0b44 {σ0 : ST}  {l1 : Int32} {σ : ST} (h_σ : Fr [(1, 1)] [] σ0 σ) : FrP [(1, 1)] [] σ0 (fX8_readWord_0b44 l1 σ) := by
  unfold fX8_readWord_0b44
  exact fb_fX8_readWord_0l46  _ h_σ
theorem fb_fX8_readWord_0b31 {σ0 : ST} {K5 : Int32 → ST → (Int32 × ST)} (hK5 : ∀ (q0 : Int32) (τ : ST), Fr [(1, 1)] [] σ0 τ → FrP [(1, 1)] [] σ0 (K5 q0 τ)) {l1 : Int32} {σ : ST} (h_σ : Fr [(1, 1)] [] σ0 σ) : FrP [(1, 1)] [] σ0 (fX8_readWord_0b31 K5 l1 σ) := by
  unfold fX8_readWord_0b31
  refine bdF2 fun v33 _ => ?_
  refine bdF2 fun v37 _ => ?_
  refine bdF2 fun s38 e_s38 => ?_
  have h_s38 : Fr [(1, 1)] [] σ0 s38 := by rw [e_s38]; exact h_σ.putI rfl
  exact hK5 _ _ h_s38
theorem fb_fX8_readWord_0b16 {σ0 : ST} {K5 : Int32 → ST → (Int32 × ST)} (hK5 : ∀ (q0 : Int32) (τ : ST), Fr [(1, 1)] [] σ0 τ → FrP [(1, 1)] [] σ0 (K5 q0 τ)) {l1 : Int32} {σ : ST} (h_σ : Fr [(1, 1)] [] σ0 σ) : FrP [(1, 1)] [] σ0 (fX8_readWord_0b16 K5 l1 σ) := by
  unfold fX8_readWord_0b16
  refine bdF2 fun v21 _ => ?_
  refine bdF2 fun v24 _ => ?_
  refine bdF2 fun v25 _ => ?_
  exact iteF2 (fb_fX8_readWord_0b44  h_σ) (fb_fX8_readWord_0b31 hK5 h_σ)
theorem fb_fX8_readWord_0b5 {σ0 : ST} {K5 : Int32 → ST → (Int32 × ST)} (hK5 : ∀ (q0 : Int32) (τ : ST), Fr [(1, 1)] [] σ0 τ → FrP [(1, 1)] [] σ0 (K5 q0 τ)) {l1 : Int32} {σ : ST} (h_σ : Fr [(1, 1)] [] σ0 σ) : FrP [(1, 1)] [] σ0 (fX8_readWord_0b5 K5 l1 σ) := by
  unfold fX8_readWord_0b5
  refine bdF2 fun v6 _ => ?_
  refine bdF2 fun v10 _ => ?_
  exact iteF2 (fb_fX8_readWord_0b44  h_σ) (fb_fX8_readWord_0b16 hK5 h_σ)
theorem fb_fX8_readWord_0l5 {σ0 : ST}  : ∀ (fu : Nat) {q0 : Int32} {τ : ST} (h : Fr [(1, 1)] [] σ0 τ), FrP [(1, 1)] [] σ0 (fX8_readWord_0l5 fu q0 τ)
  | 0, _, _, h => h
  | fu + 1, _, _, h => fb_fX8_readWord_0b5 (fun _ _ q => fb_fX8_readWord_0l5  fu q) h
theorem fb_fX8_readWord_0b0 {σ0 : ST}  {σ : ST} (h_σ : Fr [(1, 1)] [] σ0 σ) : FrP [(1, 1)] [] σ0 (fX8_readWord_0b0 σ) := by
  unfold fX8_readWord_0b0
  refine bdF2 fun v1 _ => ?_
  exact fb_fX8_readWord_0l5  _ h_σ
theorem fr_fX8_readWord_0 {σ : ST} : Fr [(1, 1)] [] σ (fX8_readWord_0 σ).2 := fb_fX8_readWord_0b0 (Fr.refl σ)
theorem fb_fX8_readNumber_0b104 {σ0 : ST}  {σ : ST} (h_σ : Fr [(1, 1)] [] σ0 σ) : FrP [(1, 1)] [] σ0 (fX8_readNumber_0b104 σ) := by
  unfold fX8_readNumber_0b104
  exact h_σ
theorem fb_fX8_readNumber_0b106 {σ0 : ST}  {l2 : Int32} {σ : ST} (h_σ : Fr [(1, 1)] [] σ0 σ) : FrP [(1, 1)] [] σ0 (fX8_readNumber_0b106 l2 σ) := by
  unfold fX8_readNumber_0b106
  exact h_σ
theorem fb_fX8_readNumber_0b93 {σ0 : ST}  {l1 : Int32} {l2 : Int32} {σ : ST} (h_σ : Fr [(1, 1)] [] σ0 σ) : FrP [(1, 1)] [] σ0 (fX8_readNumber_0b93 l1 l2 σ) := by
  unfold fX8_readNumber_0b93
  refine bdF2 fun v98 _ => ?_
  exact iteF2 (fb_fX8_readNumber_0b104  h_σ) (fb_fX8_readNumber_0b106  h_σ)
theorem fb_fX8_readNumber_0b88 {σ0 : ST}  {l1 : Int32} {l2 : Int32} {l3 : Int32} {σ : ST} (h_σ : Fr [(1, 1)] [] σ0 σ) : FrP [(1, 1)] [] σ0 (fX8_readNumber_0b88 l1 l2 l3 σ) := by
  unfold fX8_readNumber_0b88
  exact iteF2 (fb_fX8_readNumber_0b106  h_σ) (fb_fX8_readNumber_0b93  h_σ)
theorem fb_fX8_readNumber_0b81 {σ0 : ST}  {l1 : Int32} {l2 : Int32} {l3 : Int32} {σ : ST} (h_σ : Fr [(1, 1)] [] σ0 σ) : FrP [(1, 1)] [] σ0 (fX8_readNumber_0b81 l1 l2 l3 σ) := by
  unfold fX8_readNumber_0b81
  exact iteF2 (fb_fX8_readNumber_0b104  h_σ) (fb_fX8_readNumber_0b88  h_σ)
theorem fb_fX8_readNumber_0b70 {σ0 : ST}  {l1 : Int32} {l2 : Int32} {σ : ST} (h_σ : Fr [(1, 1)] [] σ0 σ) : FrP [(1, 1)] [] σ0 (fX8_readNumber_0b70 l1 l2 σ) := by
  unfold fX8_readNumber_0b70
  refine bdF2 fun v71 _ => ?_
  refine bdF2 fun v75 _ => ?_
  exact iteF2 (fb_fX8_readNumber_0b104  h_σ) (fb_fX8_readNumber_0b81  h_σ)
theorem fb_fX8_readNumber_0b33 {σ0 : ST} {K7 : Int32 → Int32 → ST → (Int32 × ST)} (hK7 : ∀ (q0 : Int32) (q1 : Int32) (τ : ST), Fr [(1, 1)] [] σ0 τ → FrP [(1, 1)] [] σ0 (K7 q0 q1 τ)) {l1 : Int32} {l2 : Int32} {σ : ST} (h_σ : Fr [(1, 1)] [] σ0 σ) : FrP [(1, 1)] [] σ0 (fX8_readNumber_0b33 K7 l1 l2 σ) := by
  unfold fX8_readNumber_0b33
  refine bdF2 fun v36 _ => ?_
  refine bdF2 fun v42 _ => ?_
  refine bdF2 fun v45 _ => ?_
  refine bdF2 fun v46 _ => ?_
  refine bdF2 fun v49 _ => ?_
  refine bdF2 fun v53 _ => ?_
  refine bdF2 fun v59 _ => ?_
  refine bdF2 fun v63 _ => ?_
  refine bdF2 fun s64 e_s64 => ?_
  have h_s64 : Fr [(1, 1)] [] σ0 s64 := by rw [e_s64]; exact h_σ.putI rfl
  exact hK7 _ _ _ h_s64
theorem fb_fX8_readNumber_0b18 {σ0 : ST} {K7 : Int32 → Int32 → ST → (Int32 × ST)} (hK7 : ∀ (q0 : Int32) (q1 : Int32) (τ : ST), Fr [(1, 1)] [] σ0 τ → FrP [(1, 1)] [] σ0 (K7 q0 q1 τ)) {l1 : Int32} {l2 : Int32} {σ : ST} (h_σ : Fr [(1, 1)] [] σ0 σ) : FrP [(1, 1)] [] σ0 (fX8_readNumber_0b18 K7 l1 l2 σ) := by
  unfold fX8_readNumber_0b18
  refine bdF2 fun v23 _ => ?_
  refine bdF2 fun v26 _ => ?_
  refine bdF2 fun v27 _ => ?_
  exact iteF2 (fb_fX8_readNumber_0b70  h_σ) (fb_fX8_readNumber_0b33 hK7 h_σ)
theorem fb_fX8_readNumber_0b7 {σ0 : ST} {K7 : Int32 → Int32 → ST → (Int32 × ST)} (hK7 : ∀ (q0 : Int32) (q1 : Int32) (τ : ST), Fr [(1, 1)] [] σ0 τ → FrP [(1, 1)] [] σ0 (K7 q0 q1 τ)) {l1 : Int32} {l2 : Int32} {σ : ST} (h_σ : Fr [(1, 1)] [] σ0 σ) : FrP [(1, 1)] [] σ0 (fX8_readNumber_0b7 K7 l1 l2 σ) := by
  unfold fX8_readNumber_0b7
  refine bdF2 fun v8 _ => ?_
  refine bdF2 fun v12 _ => ?_
  exact iteF2 (fb_fX8_readNumber_0b70  h_σ) (fb_fX8_readNumber_0b18 hK7 h_σ)
theorem fb_fX8_readNumber_0l7 {σ0 : ST}  : ∀ (fu : Nat) {q0 : Int32} {q1 : Int32} {τ : ST} (h : Fr [(1, 1)] [] σ0 τ), FrP [(1, 1)] [] σ0 (fX8_readNumber_0l7 fu q0 q1 τ)
  | 0, _, _, _, h => h
  | fu + 1, _, _, _, h => fb_fX8_readNumber_0b7 (fun _ _ _ q => fb_fX8_readNumber_0l7  fu q) h
theorem fb_fX8_readNumber_0b0 {σ0 : ST}  {σ : ST} (h_σ : Fr [(1, 1)] [] σ0 σ) : FrP [(1, 1)] [] σ0 (fX8_readNumber_0b0 σ) := by
  unfold fX8_readNumber_0b0
  refine bdF2 fun v1 _ => ?_
  exact fb_fX8_readNumber_0l7  _ h_σ
theorem fr_fX8_readNumber_0 {σ : ST} : Fr [(1, 1)] [] σ (fX8_readNumber_0 σ).2 := fb_fX8_readNumber_0b0 (Fr.refl σ)
theorem fb_fX8_readItem_0b25 {σ0 : ST}  {l1 : Int32} {σ : ST} (h_σ : Fr [(1, 1)] [(2, 2)] σ0 σ) : FrP [(1, 1)] [(2, 2)] σ0 (fX8_readItem_0b25 l1 σ) := by
  unfold fX8_readItem_0b25
  exact h_σ
theorem fb_fX8_readItem_0b63 {σ0 : ST}  {l1 : Int32} {σ : ST} (h_σ : Fr [(1, 1)] [(2, 2)] σ0 σ) : FrP [(1, 1)] [(2, 2)] σ0 (fX8_readItem_0b63 l1 σ) := by
  unfold fX8_readItem_0b63
  exact h_σ
theorem fb_fX8_readItem_0b96 {σ0 : ST}  {l2 : Int32} {l3 : Int32} {σ : ST} (h_σ : Fr [(1, 1)] [(2, 2)] σ0 σ) : FrP [(1, 1)] [(2, 2)] σ0 (fX8_readItem_0b96 l2 l3 σ) := by
  unfold fX8_readItem_0b96
  refine bdF2 fun v98 _ => ?_
  refine bdF2 fun v102 _ => ?_
  refine bdF2 fun s103 e_s103 => ?_
  have h_s103 : Fr [(1, 1)] [(2, 2)] σ0 s103 := by rw [e_s103]; exact h_σ.putI rfl
  refine bdF2 fun s112 e_s112 => ?_
  have h_s112 : Fr [(1, 1)] [(2, 2)] σ0 s112 := by rw [e_s112]; exact h_s103.putA rfl
  exact h_s112
theorem fb_fX8_readItem_0b91 {σ0 : ST}  {σ : ST} (h_σ : Fr [(1, 1)] [(2, 2)] σ0 σ) : FrP [(1, 1)] [(2, 2)] σ0 (fX8_readItem_0b91 σ) := by
  unfold fX8_readItem_0b91
  refine bdF2 fun v92 _ => ?_
  exact h_σ
theorem fb_fX8_readItem_0b77 {σ0 : ST}  {l2 : Int32} {l3 : Int32} {σ : ST} (h_σ : Fr [(1, 1)] [(2, 2)] σ0 σ) : FrP [(1, 1)] [(2, 2)] σ0 (fX8_readItem_0b77 l2 l3 σ) := by
  unfold fX8_readItem_0b77
  refine bdF2 fun v82 _ => ?_
  refine bdF2 fun v85 _ => ?_
  exact iteF2 (fb_fX8_readItem_0b96  h_σ) (fb_fX8_readItem_0b91  h_σ)
theorem fb_fX8_readItem_0b72 {σ0 : ST}  {σ : ST} (h_σ : Fr [(1, 1)] [(2, 2)] σ0 σ) : FrP [(1, 1)] [(2, 2)] σ0 (fX8_readItem_0b72 σ) := by
  unfold fX8_readItem_0b72
  refine bdF2 fun v73 _ => ?_
  exact h_σ
theorem fb_fX8_readItem_0b65 {σ0 : ST}  {l2 : Int32} {l3 : Int32} {σ : ST} (h_σ : Fr [(1, 1)] [(2, 2)] σ0 σ) : FrP [(1, 1)] [(2, 2)] σ0 (fX8_readItem_0b65 l2 l3 σ) := by
  unfold fX8_readItem_0b65
  refine bpF2 fun v66 s66 e_s66 => ?_
  have h_s66 : Fr [(1, 1)] [(2, 2)] σ0 s66 := by rw [← e_s66]; exact h_σ.call fr_fX8_endsBehindBlanks_0 rfl rfl
  exact iteF2 (fb_fX8_readItem_0b77  h_s66) (fb_fX8_readItem_0b72  h_s66)
theorem fb_fX8_readItem_0b54 {σ0 : ST}  {l1 : Int32} {l2 : Int32} {l3 : Int32} {σ : ST} (h_σ : Fr [(1, 1)] [(2, 2)] σ0 σ) : FrP [(1, 1)] [(2, 2)] σ0 (fX8_readItem_0b54 l1 l2 l3 σ) := by
  unfold fX8_readItem_0b54
  refine bdF2 fun v59 _ => ?_
  exact iteF2 (fb_fX8_readItem_0b65  h_σ) (fb_fX8_readItem_0b63  h_σ)
theorem fb_fX8_readItem_0b39 {σ0 : ST}  {l2 : Int32} {σ : ST} (h_σ : Fr [(1, 1)] [(2, 2)] σ0 σ) : FrP [(1, 1)] [(2, 2)] σ0 (fX8_readItem_0b39 l2 σ) := by
  unfold fX8_readItem_0b39
  refine bdF2 fun v40 _ => ?_
  refine bpF2 fun v45 s45 e_s45 => ?_
  have h_s45 : Fr [(1, 1)] [(2, 2)] σ0 s45 := by rw [← e_s45]; exact h_σ.call fr_fX8_readNumber_0 rfl rfl
  exact iteF2 (fb_fX8_readItem_0b63  h_s45) (fb_fX8_readItem_0b54  h_s45)
theorem fb_fX8_readItem_0b34 {σ0 : ST}  {σ : ST} (h_σ : Fr [(1, 1)] [(2, 2)] σ0 σ) : FrP [(1, 1)] [(2, 2)] σ0 (fX8_readItem_0b34 σ) := by
  unfold fX8_readItem_0b34
  refine bdF2 fun v35 _ => ?_
  exact h_σ
theorem fb_fX8_readItem_0b27 {σ0 : ST}  {l2 : Int32} {σ : ST} (h_σ : Fr [(1, 1)] [(2, 2)] σ0 σ) : FrP [(1, 1)] [(2, 2)] σ0 (fX8_readItem_0b27 l2 σ) := by
  unfold fX8_readItem_0b27
  refine bpF2 fun v28 s28 e_s28 => ?_
  have h_s28 : Fr [(1, 1)] [(2, 2)] σ0 s28 := by rw [← e_s28]; exact h_σ.call fr_fX8_endsBehindBlanks_0 rfl rfl
  exact iteF2 (fb_fX8_readItem_0b39  h_s28) (fb_fX8_readItem_0b34  h_s28)
theorem fb_fX8_readItem_0b15 {σ0 : ST}  {l1 : Int32} {l2 : Int32} {σ : ST} (h_σ : Fr [(1, 1)] [(2, 2)] σ0 σ) : FrP [(1, 1)] [(2, 2)] σ0 (fX8_readItem_0b15 l1 l2 σ) := by
  unfold fX8_readItem_0b15
  refine bdF2 fun v20 _ => ?_
  exact iteF2 (fb_fX8_readItem_0b27  h_σ) (fb_fX8_readItem_0b25  h_σ)
theorem fb_fX8_readItem_0b0 {σ0 : ST}  {σ : ST} (h_σ : Fr [(1, 1)] [(2, 2)] σ0 σ) : FrP [(1, 1)] [(2, 2)] σ0 (fX8_readItem_0b0 σ) := by
  unfold fX8_readItem_0b0
  refine bdF2 fun v1 _ => ?_
  refine bpF2 fun v6 s6 e_s6 => ?_
  have h_s6 : Fr [(1, 1)] [(2, 2)] σ0 s6 := by rw [← e_s6]; exact h_σ.call fr_fX8_readWord_0 rfl rfl
  exact iteF2 (fb_fX8_readItem_0b25  h_s6) (fb_fX8_readItem_0b15  h_s6)
theorem fr_fX8_readItem_0 {σ : ST} : Fr [(1, 1)] [(2, 2)] σ (fX8_readItem_0 σ).2 := fb_fX8_readItem_0b0 (Fr.refl σ)
theorem fb_fX8_adopt_0b44 {σ0 : ST}  {σ : ST} (h_σ : Fr [(0, 0)] [(1, 1)] σ0 σ) : Fr [(0, 0)] [(1, 1)] σ0 (fX8_adopt_0b44 σ) := by
  unfold fX8_adopt_0b44
  refine bdF fun s46 e_s46 => ?_
  have h_s46 : Fr [(0, 0)] [(1, 1)] σ0 s46 := by rw [e_s46]; exact h_σ.putI rfl
  exact h_s46
theorem fb_fX8_adopt_0b37 {σ0 : ST} {K2 : Int32 → ST → ST} (hK2 : ∀ (q0 : Int32) (τ : ST), Fr [(0, 0)] [(1, 1)] σ0 τ → Fr [(0, 0)] [(1, 1)] σ0 (K2 q0 τ)) {l1 : Int32} {t0 : Int32} {t1 : Int32} {σ : ST} (h_σ : Fr [(0, 0)] [(1, 1)] σ0 σ) : Fr [(0, 0)] [(1, 1)] σ0 (fX8_adopt_0b37 K2 l1 t0 t1 σ) := by
  unfold fX8_adopt_0b37
  refine bdF fun s37 e_s37 => ?_
  have h_s37 : Fr [(0, 0)] [(1, 1)] σ0 s37 := by rw [e_s37]; exact h_σ.putA rfl
  refine bdF fun v38 _ => ?_
  exact hK2 _ _ h_s37
theorem fb_fX8_adopt_0b31 {σ0 : ST} {K2 : Int32 → ST → ST} (hK2 : ∀ (q0 : Int32) (τ : ST), Fr [(0, 0)] [(1, 1)] σ0 τ → Fr [(0, 0)] [(1, 1)] σ0 (K2 q0 τ)) {l1 : Int32} {t0 : Int32} {σ : ST} (h_σ : Fr [(0, 0)] [(1, 1)] σ0 σ) : Fr [(0, 0)] [(1, 1)] σ0 (fX8_adopt_0b31 K2 l1 t0 σ) := by
  unfold fX8_adopt_0b31
  refine bdF fun v36 _ => ?_
  exact fb_fX8_adopt_0b37 hK2 h_σ
theorem fb_fX8_adopt_0b23 {σ0 : ST} {K2 : Int32 → ST → ST} (hK2 : ∀ (q0 : Int32) (τ : ST), Fr [(0, 0)] [(1, 1)] σ0 τ → Fr [(0, 0)] [(1, 1)] σ0 (K2 q0 τ)) {l1 : Int32} {t0 : Int32} {σ : ST} (h_σ : Fr [(0, 0)] [(1, 1)] σ0 σ) : Fr [(0, 0)] [(1, 1)] σ0 (fX8_adopt_0b23 K2 l1 t0 σ) := by
  unfold fX8_adopt_0b23
  refine bdF fun v27 _ => ?_
  exact fb_fX8_adopt_0b37 hK2 h_σ
theorem fb_fX8_adopt_0b8 {σ0 : ST} {K2 : Int32 → ST → ST} (hK2 : ∀ (q0 : Int32) (τ : ST), Fr [(0, 0)] [(1, 1)] σ0 τ → Fr [(0, 0)] [(1, 1)] σ0 (K2 q0 τ)) {l1 : Int32} {σ : ST} (h_σ : Fr [(0, 0)] [(1, 1)] σ0 σ) : Fr [(0, 0)] [(1, 1)] σ0 (fX8_adopt_0b8 K2 l1 σ) := by
  unfold fX8_adopt_0b8
  refine bdF fun v18 _ => ?_
  exact iteF (fb_fX8_adopt_0b23 hK2 h_σ) (fb_fX8_adopt_0b31 hK2 h_σ)
theorem fb_fX8_adopt_0b2 {σ0 : ST} {K2 : Int32 → ST → ST} (hK2 : ∀ (q0 : Int32) (τ : ST), Fr [(0, 0)] [(1, 1)] σ0 τ → Fr [(0, 0)] [(1, 1)] σ0 (K2 q0 τ)) {l1 : Int32} {σ : ST} (h_σ : Fr [(0, 0)] [(1, 1)] σ0 σ) : Fr [(0, 0)] [(1, 1)] σ0 (fX8_adopt_0b2 K2 l1 σ) := by
  unfold fX8_adopt_0b2
  exact iteF (fb_fX8_adopt_0b44  h_σ) (fb_fX8_adopt_0b8 hK2 h_σ)
theorem fb_fX8_adopt_0l2 {σ0 : ST}  : ∀ (fu : Nat) {q0 : Int32} {τ : ST} (h : Fr [(0, 0)] [(1, 1)] σ0 τ), Fr [(0, 0)] [(1, 1)] σ0 (fX8_adopt_0l2 fu q0 τ)
  | 0, _, _, h => h
  | fu + 1, _, _, h => fb_fX8_adopt_0b2 (fun _ _ q => fb_fX8_adopt_0l2  fu q) h
theorem fb_fX8_adopt_0b0 {σ0 : ST}  {σ : ST} (h_σ : Fr [(0, 0)] [(1, 1)] σ0 σ) : Fr [(0, 0)] [(1, 1)] σ0 (fX8_adopt_0b0 σ) := by
  unfold fX8_adopt_0b0
  exact fb_fX8_adopt_0l2  _ h_σ
theorem fr_fX8_adopt_0 {σ : ST} : Fr [(0, 0)] [(1, 1)] σ (fX8_adopt_0 σ) := fb_fX8_adopt_0b0 (Fr.refl σ)
theorem fb_fX8_read_0b54 {σ0 : ST}  {σ : ST} (h_σ : Fr [(0, 1)] [(1, 2)] σ0 σ) : FrP [(0, 1)] [(1, 2)] σ0 (fX8_read_0b54 σ) := by
  unfold fX8_read_0b54
  refine bdF2 fun v57 _ => ?_
  refine bdF2 fun v60 _ => ?_
  exact h_σ
theorem fb_fX8_read_0b48 {σ0 : ST} {K15 : Int32 → ST → (Int32 × ST)} (hK15 : ∀ (q0 : Int32) (τ : ST), Fr [(0, 1)] [(1, 2)] σ0 τ → FrP [(0, 1)] [(1, 2)] σ0 (K15 q0 τ)) {l1 : Int32} {σ : ST} (h_σ : Fr [(0, 1)] [(1, 2)] σ0 σ) : FrP [(0, 1)] [(1, 2)] σ0 (fX8_read_0b48 K15 l1 σ) := by
  unfold fX8_read_0b48
  refine bdF2 fun v48 _ => ?_
  exact hK15 _ _ h_σ
theorem fb_fX8_read_0b43 {σ0 : ST} {K15 : Int32 → ST → (Int32 × ST)} (hK15 : ∀ (q0 : Int32) (τ : ST), Fr [(0, 1)] [(1, 2)] σ0 τ → FrP [(0, 1)] [(1, 2)] σ0 (K15 q0 τ)) {l2 : Int32} {σ : ST} (h_σ : Fr [(0, 1)] [(1, 2)] σ0 σ) : FrP [(0, 1)] [(1, 2)] σ0 (fX8_read_0b43 K15 l2 σ) := by
  unfold fX8_read_0b43
  refine bdF2 fun v46 _ => ?_
  exact h_σ
theorem fb_fX8_read_0b34 {σ0 : ST} {K15 : Int32 → ST → (Int32 × ST)} (hK15 : ∀ (q0 : Int32) (τ : ST), Fr [(0, 1)] [(1, 2)] σ0 τ → FrP [(0, 1)] [(1, 2)] σ0 (K15 q0 τ)) {l1 : Int32} {σ : ST} (h_σ : Fr [(0, 1)] [(1, 2)] σ0 σ) : FrP [(0, 1)] [(1, 2)] σ0 (fX8_read_0b34 K15 l1 σ) := by
  unfold fX8_read_0b34
  refine bpF2 fun v35 s35 e_s35 => ?_
  have h_s35 : Fr [(0, 1)] [(1, 2)] σ0 s35 := by rw [← e_s35]; exact h_σ.call fr_fX8_readItem_0 rfl rfl
  exact iteF2 (fb_fX8_read_0b48 hK15 h_s35) (fb_fX8_read_0b43 hK15 h_s35)
theorem fb_fX8_read_0b28 {σ0 : ST} {K15 : Int32 → ST → (Int32 × ST)} (hK15 : ∀ (q0 : Int32) (τ : ST), Fr [(0, 1)] [(1, 2)] σ0 τ → FrP [(0, 1)] [(1, 2)] σ0 (K15 q0 τ)) {l1 : Int32} {σ : ST} (h_σ : Fr [(0, 1)] [(1, 2)] σ0 σ) : FrP [(0, 1)] [(1, 2)] σ0 (fX8_read_0b28 K15 l1 σ) := by
  unfold fX8_read_0b28
  refine bdF2 fun s29 e_s29 => ?_
  have h_s29 : Fr [(0, 1)] [(1, 2)] σ0 s29 := by rw [e_s29]; exact h_σ.call fr_fX8_adopt_0 rfl rfl
  exact h_s29
theorem fb_fX8_read_0b21 {σ0 : ST} {K15 : Int32 → ST → (Int32 × ST)} (hK15 : ∀ (q0 : Int32) (τ : ST), Fr [(0, 1)] [(1, 2)] σ0 τ → FrP [(0, 1)] [(1, 2)] σ0 (K15 q0 τ)) {l1 : Int32} {σ : ST} (h_σ : Fr [(0, 1)] [(1, 2)] σ0 σ) : FrP [(0, 1)] [(1, 2)] σ0 (fX8_read_0b21 K15 l1 σ) := by
  unfold fX8_read_0b21
  refine bpF2 fun v22 s22 e_s22 => ?_
  have h_s22 : Fr [(0, 1)] [(1, 2)] σ0 s22 := by rw [← e_s22]; exact h_σ.call fr_fX8_endsBehindBlanks_0 rfl rfl
  exact iteF2 (fb_fX8_read_0b34 hK15 h_s22) (fb_fX8_read_0b28 hK15 h_s22)
theorem fb_fX8_read_0b15 {σ0 : ST} {K15 : Int32 → ST → (Int32 × ST)} (hK15 : ∀ (q0 : Int32) (τ : ST), Fr [(0, 1)] [(1, 2)] σ0 τ → FrP [(0, 1)] [(1, 2)] σ0 (K15 q0 τ)) {l1 : Int32} {σ : ST} (h_σ : Fr [(0, 1)] [(1, 2)] σ0 σ) : FrP [(0, 1)] [(1, 2)] σ0 (fX8_read_0b15 K15 l1 σ) := by
  unfold fX8_read_0b15
  exact iteF2 (fb_fX8_read_0b54  h_σ) (fb_fX8_read_0b21 hK15 h_σ)
theorem fb_fX8_read_0l15 {σ0 : ST}  : ∀ (fu : Nat) {q0 : Int32} {τ : ST} (h : Fr [(0, 1)] [(1, 2)] σ0 τ), FrP [(0, 1)] [(1, 2)] σ0 (fX8_read_0l15 fu q0 τ)
  | 0, _, _, h => h
  | fu + 1, _, _, h => fb_fX8_read_0b15 (fun _ _ q => fb_fX8_read_0l15  fu q) h
theorem fb_fX8_read_0b0 {σ0 : ST}  {σ : ST} (h_σ : Fr [(0, 1)] [(1, 2)] σ0 σ) : FrP [(0, 1)] [(1, 2)] σ0 (fX8_read_0b0 σ) := by
  unfold fX8_read_0b0
  refine bdF2 fun s5 e_s5 => ?_
  have h_s5 : Fr [(0, 1)] [(1, 2)] σ0 s5 := by rw [e_s5]; exact h_σ.putA rfl
  refine bdF2 fun s10 e_s10 => ?_
  have h_s10 : Fr [(0, 1)] [(1, 2)] σ0 s10 := by rw [e_s10]; exact h_s5.putI rfl
  exact fb_fX8_read_0l15  _ h_s10
theorem fr_fX8_read_0 {σ : ST} : Fr [(0, 1)] [(1, 2)] σ (fX8_read_0 σ).2 := fb_fX8_read_0b0 (Fr.refl σ)
theorem fb_fX11_nothingIsFound_0b0 {σ0 : ST}  {σ : ST} (h_σ : Fr [(22, 24)] [] σ0 σ) : Fr [(22, 24)] [] σ0 (fX11_nothingIsFound_0b0 σ) := by
  unfold fX11_nothingIsFound_0b0
  refine bdF fun s2 e_s2 => ?_
  have h_s2 : Fr [(22, 24)] [] σ0 s2 := by rw [e_s2]; exact h_σ.putI rfl
  refine bdF fun s7 e_s7 => ?_
  have h_s7 : Fr [(22, 24)] [] σ0 s7 := by rw [e_s7]; exact h_s2.putI rfl
  refine bdF fun s12 e_s12 => ?_
  have h_s12 : Fr [(22, 24)] [] σ0 s12 := by rw [e_s12]; exact h_s7.putI rfl
  exact h_s12
theorem fr_fX11_nothingIsFound_0 {σ : ST} : Fr [(22, 24)] [] σ (fX11_nothingIsFound_0 σ) := fb_fX11_nothingIsFound_0b0 (Fr.refl σ)
theorem fb_fX11_rules_0b16 {σ0 : ST}  {l1 : Int32} {σ : ST} (h_σ : Fr [(0, 1), (22, 24)] [(1, 2)] σ0 σ) : FrP [(0, 1), (22, 24)] [(1, 2)] σ0 (fX11_rules_0b16 l1 σ) := by
  unfold fX11_rules_0b16
  exact h_σ
theorem fb_fX11_rules_0b12 {σ0 : ST}  {l1 : Int32} {σ : ST} (h_σ : Fr [(0, 1), (22, 24)] [(1, 2)] σ0 σ) : FrP [(0, 1), (22, 24)] [(1, 2)] σ0 (fX11_rules_0b12 l1 σ) := by
  unfold fX11_rules_0b12
  refine bdF2 fun s13 e_s13 => ?_
  have h_s13 : Fr [(0, 1), (22, 24)] [(1, 2)] σ0 s13 := by rw [e_s13]; exact h_σ.call fr_fX11_nothingIsFound_0 rfl rfl
  exact fb_fX11_rules_0b16  h_s13
theorem fb_fX11_rules_0b0 {σ0 : ST}  {σ : ST} (h_σ : Fr [(0, 1), (22, 24)] [(1, 2)] σ0 σ) : FrP [(0, 1), (22, 24)] [(1, 2)] σ0 (fX11_rules_0b0 σ) := by
  unfold fX11_rules_0b0
  refine bpF2 fun v4 s4 e_s4 => ?_
  have h_s4 : Fr [(0, 1), (22, 24)] [(1, 2)] σ0 s4 := by rw [← e_s4]; exact h_σ.call fr_fX8_read_0 rfl rfl
  exact iteF2 (fb_fX11_rules_0b16  h_s4) (fb_fX11_rules_0b12  h_s4)
theorem fr_fX11_rules_0 {σ : ST} : Fr [(0, 1), (22, 24)] [(1, 2)] σ (fX11_rules_0 σ).2 := fb_fX11_rules_0b0 (Fr.refl σ)
theorem fb_fX7_addDeaf_0b12 {σ0 : ST}  {σ : ST} (h_σ : Fr [(2, 2)] [(4, 6)] σ0 σ) : FrP [(2, 2)] [(4, 6)] σ0 (fX7_addDeaf_0b12 σ) := by
  unfold fX7_addDeaf_0b12
  refine bdF2 fun v13 _ => ?_
  refine bdF2 fun s23 e_s23 => ?_
  have h_s23 : Fr [(2, 2)] [(4, 6)] σ0 s23 := by rw [e_s23]; exact h_σ.putA rfl
  refine bdF2 fun s30 e_s30 => ?_
  have h_s30 : Fr [(2, 2)] [(4, 6)] σ0 s30 := by rw [e_s30]; exact h_s23.putA rfl
  refine bdF2 fun s37 e_s37 => ?_
  have h_s37 : Fr [(2, 2)] [(4, 6)] σ0 s37 := by rw [e_s37]; exact h_s30.putA rfl
  refine bdF2 fun v40 _ => ?_
  refine bdF2 fun v44 _ => ?_
  refine bdF2 fun s45 e_s45 => ?_
  have h_s45 : Fr [(2, 2)] [(4, 6)] σ0 s45 := by rw [e_s45]; exact h_s37.putI rfl
  exact h_s45
theorem fb_fX7_addDeaf_0b9 {σ0 : ST}  {σ : ST} (h_σ : Fr [(2, 2)] [(4, 6)] σ0 σ) : FrP [(2, 2)] [(4, 6)] σ0 (fX7_addDeaf_0b9 σ) := by
  unfold fX7_addDeaf_0b9
  exact h_σ
theorem fb_fX7_addDeaf_0b0 {σ0 : ST}  {σ : ST} (h_σ : Fr [(2, 2)] [(4, 6)] σ0 σ) : FrP [(2, 2)] [(4, 6)] σ0 (fX7_addDeaf_0b0 σ) := by
  unfold fX7_addDeaf_0b0
  refine bdF2 fun v1 _ => ?_
  exact iteF2 (fb_fX7_addDeaf_0b12  h_σ) (fb_fX7_addDeaf_0b9  h_σ)
theorem fr_fX7_addDeaf_0 {σ : ST} : Fr [(2, 2)] [(4, 6)] σ (fX7_addDeaf_0 σ).2 := fb_fX7_addDeaf_0b0 (Fr.refl σ)
theorem fb_fX7_addRow_0b66 {σ0 : ST}  {l5 : Int32} {σ : ST} (h_σ : Fr [(2, 2)] [(3, 6)] σ0 σ) : FrP [(2, 2)] [(3, 6)] σ0 (fX7_addRow_0b66 l5 σ) := by
  unfold fX7_addRow_0b66
  exact h_σ
theorem fb_fX7_addRow_0b11 {σ0 : ST}  {l1 : Int32} {l2 : Int32} {l3 : Int32} {l4 : Int32} {l5 : Int32} {σ : ST} (h_σ : Fr [(2, 2)] [(3, 6)] σ0 σ) : FrP [(2, 2)] [(3, 6)] σ0 (fX7_addRow_0b11 l1 l2 l3 l4 l5 σ) := by
  unfold fX7_addRow_0b11
  refine bdF2 fun s18 e_s18 => ?_
  have h_s18 : Fr [(2, 2)] [(3, 6)] σ0 s18 := by rw [e_s18]; exact h_σ.putA rfl
  refine bdF2 fun v26 _ => ?_
  refine bdF2 fun s28 e_s28 => ?_
  have h_s28 : Fr [(2, 2)] [(3, 6)] σ0 s28 := by rw [e_s28]; exact h_s18.putA rfl
  refine bdF2 fun v36 _ => ?_
  refine bdF2 fun v38 _ => ?_
  refine bdF2 fun s40 e_s40 => ?_
  have h_s40 : Fr [(2, 2)] [(3, 6)] σ0 s40 := by rw [e_s40]; exact h_s28.putA rfl
  refine bdF2 fun v48 _ => ?_
  refine bdF2 fun v50 _ => ?_
  refine bdF2 fun s52 e_s52 => ?_
  have h_s52 : Fr [(2, 2)] [(3, 6)] σ0 s52 := by rw [e_s52]; exact h_s40.putA rfl
  refine bdF2 fun v60 _ => ?_
  refine bdF2 fun v62 _ => ?_
  refine bdF2 fun s65 e_s65 => ?_
  have h_s65 : Fr [(2, 2)] [(3, 6)] σ0 s65 := by rw [e_s65]; exact h_s52.putA rfl
  exact fb_fX7_addRow_0b66  h_s65
theorem fb_fX7_addRow_0b0 {σ0 : ST}  {l1 : Int32} {l2 : Int32} {l3 : Int32} {l4 : Int32} {σ : ST} (h_σ : Fr [(2, 2)] [(3, 6)] σ0 σ) : FrP [(2, 2)] [(3, 6)] σ0 (fX7_addRow_0b0 l1 l2 l3 l4 σ) := by
  unfold fX7_addRow_0b0
  refine bpF2 fun v1 s1 e_s1 => ?_
  have h_s1 : Fr [(2, 2)] [(3, 6)] σ0 s1 := by rw [← e_s1]; exact h_σ.call fr_fX7_addDeaf_0 rfl rfl
  exact iteF2 (fb_fX7_addRow_0b66  h_s1) (fb_fX7_addRow_0b11  h_s1)
theorem fr_fX7_addRow_0 {p1 : Int32} {p2 : Int32} {p3 : Int32} {p4 : Int32} {σ : ST} : Fr [(2, 2)] [(3, 6)] σ (fX7_addRow_0 p1 p2 p3 p4 σ).2 := fb_fX7_addRow_0b0 (Fr.refl σ)
theorem fb_fX11_row_0b29 {σ0 : ST}  {σ : ST} (h_σ : Fr [(2, 2), (22, 24)] [(3, 6)] σ0 σ) : FrP [(2, 2), (22, 24)] [(3, 6)] σ0 (fX11_row_0b29 σ) := by
  unfold fX11_row_0b29
  exact h_σ
theorem fb_fX11_row_0b46 {σ0 : ST}  {l1 : Int32} {l2 : Int32} {l3 : Int32} {l4 : Int32} {σ : ST} (h_σ : Fr [(2, 2), (22, 24)] [(3, 6)] σ0 σ) : FrP [(2, 2), (22, 24)] [(3, 6)] σ0 (fX11_row_0b46 l1 l2 l3 l4 σ) := by
  unfold fX11_row_0b46
  refine bdF2 fun s47 e_s47 => ?_
  have h_s47 : Fr [(2, 2), (22, 24)] [(3, 6)] σ0 s47 := by rw [e_s47]; exact h_σ.call fr_fX11_nothingIsFound_0 rfl rfl
  refine bpF2 fun v59 s59 e_s59 => ?_
  have h_s59 : Fr [(2, 2), (22, 24)] [(3, 6)] σ0 s59 := by rw [← e_s59]; exact h_s47.call fr_fX7_addRow_0 rfl rfl
  exact h_s59
theorem fb_fX11_row_0b43 {σ0 : ST}  {σ : ST} (h_σ : Fr [(2, 2), (22, 24)] [(3, 6)] σ0 σ) : FrP [(2, 2), (22, 24)] [(3, 6)] σ0 (fX11_row_0b43 σ) := by
  unfold fX11_row_0b43
  exact h_σ
theorem fb_fX11_row_0b31 {σ0 : ST}  {l1 : Int32} {l2 : Int32} {l3 : Int32} {l4 : Int32} {σ : ST} (h_σ : Fr [(2, 2), (22, 24)] [(3, 6)] σ0 σ) : FrP [(2, 2), (22, 24)] [(3, 6)] σ0 (fX11_row_0b31 l1 l2 l3 l4 σ) := by
  unfold fX11_row_0b31
  refine bdF2 fun v35 _ => ?_
  exact iteF2 (fb_fX11_row_0b46  h_σ) (fb_fX11_row_0b43  h_σ)
theorem fb_fX11_row_0b21 {σ0 : ST}  {l1 : Int32} {l2 : Int32} {l3 : Int32} {l4 : Int32} {σ : ST} (h_σ : Fr [(2, 2), (22, 24)] [(3, 6)] σ0 σ) : FrP [(2, 2), (22, 24)] [(3, 6)] σ0 (fX11_row_0b21 l1 l2 l3 l4 σ) := by
  unfold fX11_row_0b21
  refine bdF2 fun v23 _ => ?_
  exact iteF2 (fb_fX11_row_0b29  h_σ) (fb_fX11_row_0b31  h_σ)
theorem fb_fX11_row_0b14 {σ0 : ST}  {l1 : Int32} {l2 : Int32} {l3 : Int32} {l4 : Int32} {σ : ST} (h_σ : Fr [(2, 2), (22, 24)] [(3, 6)] σ0 σ) : FrP [(2, 2), (22, 24)] [(3, 6)] σ0 (fX11_row_0b14 l1 l2 l3 l4 σ) := by
  unfold fX11_row_0b14
  refine bdF2 fun v15 _ => ?_
  exact iteF2 (fb_fX11_row_0b29  h_σ) (fb_fX11_row_0b21  h_σ)
theorem fb_fX11_row_0b7 {σ0 : ST}  {l1 : Int32} {l2 : Int32} {l3 : Int32} {l4 : Int32} {σ : ST} (h_σ : Fr [(2, 2), (22, 24)] [(3, 6)] σ0 σ) : FrP [(2, 2), (22, 24)] [(3, 6)] σ0 (fX11_row_0b7 l1 l2 l3 l4 σ) := by
  unfold fX11_row_0b7
  refine bdF2 fun v8 _ => ?_
  exact iteF2 (fb_fX11_row_0b29  h_σ) (fb_fX11_row_0b14  h_σ)
theorem fb_fX11_row_0b0 {σ0 : ST}  {l1 : Int32} {l2 : Int32} {l3 : Int32} {l4 : Int32} {σ : ST} (h_σ : Fr [(2, 2), (22, 24)] [(3, 6)] σ0 σ) : FrP [(2, 2), (22, 24)] [(3, 6)] σ0 (fX11_row_0b0 l1 l2 l3 l4 σ) := by
  unfold fX11_row_0b0
  refine bdF2 fun v1 _ => ?_
  exact iteF2 (fb_fX11_row_0b29  h_σ) (fb_fX11_row_0b7  h_σ)
theorem fr_fX11_row_0 {p1 : Int32} {p2 : Int32} {p3 : Int32} {p4 : Int32} {σ : ST} : Fr [(2, 2), (22, 24)] [(3, 6)] σ (fX11_row_0 p1 p2 p3 p4 σ).2 := fb_fX11_row_0b0 (Fr.refl σ)
theorem fb_fX11_deaf_0b54 {σ0 : ST}  {σ : ST} (h_σ : Fr [(2, 2), (22, 24)] [(4, 6)] σ0 σ) : FrP [(2, 2), (22, 24)] [(4, 6)] σ0 (fX11_deaf_0b54 σ) := by
  unfold fX11_deaf_0b54
  refine bdF2 fun v58 _ => ?_
  exact h_σ
theorem fb_fX11_deaf_0b40 {σ0 : ST} {K35 : Int32 → Int32 → ST → (Int32 × ST)} (hK35 : ∀ (q0 : Int32) (q1 : Int32) (τ : ST), Fr [(2, 2), (22, 24)] [(4, 6)] σ0 τ → FrP [(2, 2), (22, 24)] [(4, 6)] σ0 (K35 q0 q1 τ)) {l1 : Int32} {l2 : Int32} {σ : ST} (h_σ : Fr [(2, 2), (22, 24)] [(4, 6)] σ0 σ) : FrP [(2, 2), (22, 24)] [(4, 6)] σ0 (fX11_deaf_0b40 K35 l1 l2 σ) := by
  unfold fX11_deaf_0b40
  refine bpF2 fun v44 s44 e_s44 => ?_
  have h_s44 : Fr [(2, 2), (22, 24)] [(4, 6)] σ0 s44 := by rw [← e_s44]; exact h_σ.call fr_fX7_addDeaf_0 rfl rfl
  refine bdF2 fun v48 _ => ?_
  exact hK35 _ _ _ h_s44
theorem fb_fX11_deaf_0b35 {σ0 : ST} {K35 : Int32 → Int32 → ST → (Int32 × ST)} (hK35 : ∀ (q0 : Int32) (q1 : Int32) (τ : ST), Fr [(2, 2), (22, 24)] [(4, 6)] σ0 τ → FrP [(2, 2), (22, 24)] [(4, 6)] σ0 (K35 q0 q1 τ)) {l1 : Int32} {l2 : Int32} {σ : ST} (h_σ : Fr [(2, 2), (22, 24)] [(4, 6)] σ0 σ) : FrP [(2, 2), (22, 24)] [(4, 6)] σ0 (fX11_deaf_0b35 K35 l1 l2 σ) := by
  unfold fX11_deaf_0b35
  exact iteF2 (fb_fX11_deaf_0b54  h_σ) (fb_fX11_deaf_0b40 hK35 h_σ)
theorem fb_fX11_deaf_0l35 {σ0 : ST}  : ∀ (fu : Nat) {q0 : Int32} {q1 : Int32} {τ : ST} (h : Fr [(2, 2), (22, 24)] [(4, 6)] σ0 τ), FrP [(2, 2), (22, 24)] [(4, 6)] σ0 (fX11_deaf_0l35 fu q0 q1 τ)
  | 0, _, _, _, h => h
  | fu + 1, _, _, _, h => fb_fX11_deaf_0b35 (fun _ _ _ q => fb_fX11_deaf_0l35  fu q) h
theorem fb_fX11_deaf_0b29 {σ0 : ST}  {l1 : Int32} {σ : ST} (h_σ : Fr [(2, 2), (22, 24)] [(4, 6)] σ0 σ) : FrP [(2, 2), (22, 24)] [(4, 6)] σ0 (fX11_deaf_0b29 l1 σ) := by
  unfold fX11_deaf_0b29
  refine bdF2 fun s30 e_s30 => ?_
  have h_s30 : Fr [(2, 2), (22, 24)] [(4, 6)] σ0 s30 := by rw [e_s30]; exact h_σ.call fr_fX11_nothingIsFound_0 rfl rfl
  exact fb_fX11_deaf_0l35  _ h_s30
theorem fb_fX11_deaf_0b26 {σ0 : ST}  {σ : ST} (h_σ : Fr [(2, 2), (22, 24)] [(4, 6)] σ0 σ) : FrP [(2, 2), (22, 24)] [(4, 6)] σ0 (fX11_deaf_0b26 σ) := by
  unfold fX11_deaf_0b26
  exact h_σ
theorem fb_fX11_deaf_0b12 {σ0 : ST}  {l1 : Int32} {σ : ST} (h_σ : Fr [(2, 2), (22, 24)] [(4, 6)] σ0 σ) : FrP [(2, 2), (22, 24)] [(4, 6)] σ0 (fX11_deaf_0b12 l1 σ) := by
  unfold fX11_deaf_0b12
  refine bdF2 fun v16 _ => ?_
  refine bdF2 fun v20 _ => ?_
  exact iteF2 (fb_fX11_deaf_0b29  h_σ) (fb_fX11_deaf_0b26  h_σ)
theorem fb_fX11_deaf_0b10 {σ0 : ST}  {σ : ST} (h_σ : Fr [(2, 2), (22, 24)] [(4, 6)] σ0 σ) : FrP [(2, 2), (22, 24)] [(4, 6)] σ0 (fX11_deaf_0b10 σ) := by
  unfold fX11_deaf_0b10
  exact h_σ
theorem fb_fX11_deaf_0b0 {σ0 : ST}  {l1 : Int32} {σ : ST} (h_σ : Fr [(2, 2), (22, 24)] [(4, 6)] σ0 σ) : FrP [(2, 2), (22, 24)] [(4, 6)] σ0 (fX11_deaf_0b0 l1 σ) := by
  unfold fX11_deaf_0b0
  refine bdF2 fun v4 _ => ?_
  exact iteF2 (fb_fX11_deaf_0b10  h_σ) (fb_fX11_deaf_0b12  h_σ)
theorem fr_fX11_deaf_0 {p1 : Int32} {σ : ST} : Fr [(2, 2), (22, 24)] [(4, 6)] σ (fX11_deaf_0 p1 σ).2 := fb_fX11_deaf_0b0 (Fr.refl σ)
theorem fb_fX7_setOut_0b53 {σ0 : ST}  {l4 : Int32} {σ : ST} (h_σ : Fr [] [(5, 5)] σ0 σ) : FrP [] [(5, 5)] σ0 (fX7_setOut_0b53 l4 σ) := by
  unfold fX7_setOut_0b53
  exact h_σ
theorem fb_fX7_setOut_0b47 {σ0 : ST} {K10 : Int32 → Int32 → Int32 → Int32 → ST → (Int32 × ST)} (hK10 : ∀ (q0 : Int32) (q1 : Int32) (q2 : Int32) (q3 : Int32) (τ : ST), Fr [] [(5, 5)] σ0 τ → FrP [] [(5, 5)] σ0 (K10 q0 q1 q2 q3 τ)) {l2 : Int32} {l3 : Int32} {l4 : Int32} {l5 : Int32} {σ : ST} (h_σ : Fr [] [(5, 5)] σ0 σ) : FrP [] [(5, 5)] σ0 (fX7_setOut_0b47 K10 l2 l3 l4 l5 σ) := by
  unfold fX7_setOut_0b47
  refine bdF2 fun v47 _ => ?_
  exact hK10 _ _ _ _ _ h_σ
theorem fb_fX7_setOut_0b36 {σ0 : ST} {K10 : Int32 → Int32 → Int32 → Int32 → ST → (Int32 × ST)} (hK10 : ∀ (q0 : Int32) (q1 : Int32) (q2 : Int32) (q3 : Int32) (τ : ST), Fr [] [(5, 5)] σ0 τ → FrP [] [(5, 5)] σ0 (K10 q0 q1 q2 q3 τ)) {l2 : Int32} {l3 : Int32} {l4 : Int32} {l5 : Int32} {σ : ST} (h_σ : Fr [] [(5, 5)] σ0 σ) : FrP [] [(5, 5)] σ0 (fX7_setOut_0b36 K10 l2 l3 l4 l5 σ) := by
  unfold fX7_setOut_0b36
  refine bdF2 fun s43 e_s43 => ?_
  have h_s43 : Fr [] [(5, 5)] σ0 s43 := by rw [e_s43]; exact h_σ.putA rfl
  refine bdF2 fun v44 _ => ?_
  exact fb_fX7_setOut_0b47 hK10 h_s43
theorem fb_fX7_setOut_0b25 {σ0 : ST} {K10 : Int32 → Int32 → Int32 → Int32 → ST → (Int32 × ST)} (hK10 : ∀ (q0 : Int32) (q1 : Int32) (q2 : Int32) (q3 : Int32) (τ : ST), Fr [] [(5, 5)] σ0 τ → FrP [] [(5, 5)] σ0 (K10 q0 q1 q2 q3 τ)) {l2 : Int32} {l3 : Int32} {l4 : Int32} {l5 : Int32} {σ : ST} (h_σ : Fr [] [(5, 5)] σ0 σ) : FrP [] [(5, 5)] σ0 (fX7_setOut_0b25 K10 l2 l3 l4 l5 σ) := by
  unfold fX7_setOut_0b25
  refine bdF2 fun v31 _ => ?_
  exact iteF2 (fb_fX7_setOut_0b47 hK10 h_σ) (fb_fX7_setOut_0b36 hK10 h_σ)
theorem fb_fX7_setOut_0b16 {σ0 : ST} {K10 : Int32 → Int32 → Int32 → Int32 → ST → (Int32 × ST)} (hK10 : ∀ (q0 : Int32) (q1 : Int32) (q2 : Int32) (q3 : Int32) (τ : ST), Fr [] [(5, 5)] σ0 τ → FrP [] [(5, 5)] σ0 (K10 q0 q1 q2 q3 τ)) {l2 : Int32} {l3 : Int32} {l4 : Int32} {l5 : Int32} {σ : ST} (h_σ : Fr [] [(5, 5)] σ0 σ) : FrP [] [(5, 5)] σ0 (fX7_setOut_0b16 K10 l2 l3 l4 l5 σ) := by
  unfold fX7_setOut_0b16
  refine bdF2 fun v19 _ => ?_
  exact iteF2 (fb_fX7_setOut_0b53  h_σ) (fb_fX7_setOut_0b25 hK10 h_σ)
theorem fb_fX7_setOut_0b10 {σ0 : ST} {K10 : Int32 → Int32 → Int32 → Int32 → ST → (Int32 × ST)} (hK10 : ∀ (q0 : Int32) (q1 : Int32) (q2 : Int32) (q3 : Int32) (τ : ST), Fr [] [(5, 5)] σ0 τ → FrP [] [(5, 5)] σ0 (K10 q0 q1 q2 q3 τ)) {l2 : Int32} {l3 : Int32} {l4 : Int32} {l5 : Int32} {σ : ST} (h_σ : Fr [] [(5, 5)] σ0 σ) : FrP [] [(5, 5)] σ0 (fX7_setOut_0b10 K10 l2 l3 l4 l5 σ) := by
  unfold fX7_setOut_0b10
  exact iteF2 (fb_fX7_setOut_0b53  h_σ) (fb_fX7_setOut_0b16 hK10 h_σ)
theorem fb_fX7_setOut_0l10 {σ0 : ST}  : ∀ (fu : Nat) {q0 : Int32} {q1 : Int32} {q2 : Int32} {q3 : Int32} {τ : ST} (h : Fr [] [(5, 5)] σ0 τ), FrP [] [(5, 5)] σ0 (fX7_setOut_0l10 fu q0 q1 q2 q3 τ)
  | 0, _, _, _, _, _, h => h
  | fu + 1, _, _, _, _, _, h => fb_fX7_setOut_0b10 (fun _ _ _ _ _ q => fb_fX7_setOut_0l10  fu q) h
theorem fb_fX7_setOut_0b0 {σ0 : ST}  {l1 : Int32} {l2 : Int32} {l3 : Int32} {σ : ST} (h_σ : Fr [] [(5, 5)] σ0 σ) : FrP [] [(5, 5)] σ0 (fX7_setOut_0b0 l1 l2 l3 σ) := by
  unfold fX7_setOut_0b0
  refine bdF2 fun v5 _ => ?_
  exact fb_fX7_setOut_0l10  _ h_σ
theorem fr_fX7_setOut_0 {p1 : Int32} {p2 : Int32} {p3 : Int32} {σ : ST} : Fr [] [(5, 5)] σ (fX7_setOut_0 p1 p2 p3 σ).2 := fb_fX7_setOut_0b0 (Fr.refl σ)
theorem fb_fX11_out_0b18 {σ0 : ST}  {σ : ST} (h_σ : Fr [(22, 24)] [(5, 5)] σ0 σ) : FrP [(22, 24)] [(5, 5)] σ0 (fX11_out_0b18 σ) := by
  unfold fX11_out_0b18
  exact h_σ
theorem fb_fX11_out_0b50 {σ0 : ST}  {l4 : Int32} {σ : ST} (h_σ : Fr [(22, 24)] [(5, 5)] σ0 σ) : FrP [(22, 24)] [(5, 5)] σ0 (fX11_out_0b50 l4 σ) := by
  unfold fX11_out_0b50
  exact h_σ
theorem fb_fX11_out_0b46 {σ0 : ST}  {l4 : Int32} {σ : ST} (h_σ : Fr [(22, 24)] [(5, 5)] σ0 σ) : FrP [(22, 24)] [(5, 5)] σ0 (fX11_out_0b46 l4 σ) := by
  unfold fX11_out_0b46
  refine bdF2 fun s47 e_s47 => ?_
  have h_s47 : Fr [(22, 24)] [(5, 5)] σ0 s47 := by rw [e_s47]; exact h_σ.call fr_fX11_nothingIsFound_0 rfl rfl
  exact fb_fX11_out_0b50  h_s47
theorem fb_fX11_out_0b36 {σ0 : ST}  {t0 : Int32} {t1 : Int32} {t2 : Int32} {σ : ST} (h_σ : Fr [(22, 24)] [(5, 5)] σ0 σ) : FrP [(22, 24)] [(5, 5)] σ0 (fX11_out_0b36 t0 t1 t2 σ) := by
  unfold fX11_out_0b36
  refine bpF2 fun v36 s36 e_s36 => ?_
  have h_s36 : Fr [(22, 24)] [(5, 5)] σ0 s36 := by rw [← e_s36]; exact h_σ.call fr_fX7_setOut_0 rfl rfl
  exact iteF2 (fb_fX11_out_0b50  h_s36) (fb_fX11_out_0b46  h_s36)
theorem fb_fX11_out_0b35 {σ0 : ST}  {t0 : Int32} {t1 : Int32} {σ : ST} (h_σ : Fr [(22, 24)] [(5, 5)] σ0 σ) : FrP [(22, 24)] [(5, 5)] σ0 (fX11_out_0b35 t0 t1 σ) := by
  unfold fX11_out_0b35
  exact fb_fX11_out_0b36  h_σ
theorem fb_fX11_out_0b31 {σ0 : ST}  {t0 : Int32} {t1 : Int32} {σ : ST} (h_σ : Fr [(22, 24)] [(5, 5)] σ0 σ) : FrP [(22, 24)] [(5, 5)] σ0 (fX11_out_0b31 t0 t1 σ) := by
  unfold fX11_out_0b31
  exact fb_fX11_out_0b36  h_σ
theorem fb_fX11_out_0b20 {σ0 : ST}  {l1 : Int32} {l2 : Int32} {l3 : Int32} {σ : ST} (h_σ : Fr [(22, 24)] [(5, 5)] σ0 σ) : FrP [(22, 24)] [(5, 5)] σ0 (fX11_out_0b20 l1 l2 l3 σ) := by
  unfold fX11_out_0b20
  exact iteF2 (fb_fX11_out_0b31  h_σ) (fb_fX11_out_0b35  h_σ)
theorem fb_fX11_out_0b9 {σ0 : ST}  {l1 : Int32} {l2 : Int32} {l3 : Int32} {σ : ST} (h_σ : Fr [(22, 24)] [(5, 5)] σ0 σ) : FrP [(22, 24)] [(5, 5)] σ0 (fX11_out_0b9 l1 l2 l3 σ) := by
  unfold fX11_out_0b9
  refine bdF2 fun v12 _ => ?_
  exact iteF2 (fb_fX11_out_0b18  h_σ) (fb_fX11_out_0b20  h_σ)
theorem fb_fX11_out_0b0 {σ0 : ST}  {l1 : Int32} {l2 : Int32} {l3 : Int32} {σ : ST} (h_σ : Fr [(22, 24)] [(5, 5)] σ0 σ) : FrP [(22, 24)] [(5, 5)] σ0 (fX11_out_0b0 l1 l2 l3 σ) := by
  unfold fX11_out_0b0
  refine bdF2 fun v3 _ => ?_
  exact iteF2 (fb_fX11_out_0b18  h_σ) (fb_fX11_out_0b9  h_σ)
theorem fr_fX11_out_0 {p1 : Int32} {p2 : Int32} {p3 : Int32} {σ : ST} : Fr [(22, 24)] [(5, 5)] σ (fX11_out_0 p1 p2 p3 σ).2 := fb_fX11_out_0b0 (Fr.refl σ)
theorem fb_fX11_hush_0b0 {σ0 : ST}  {σ : ST} (h_σ : Fr [(2, 2), (20, 24)] [] σ0 σ) : FrP [(2, 2), (20, 24)] [] σ0 (fX11_hush_0b0 σ) := by
  unfold fX11_hush_0b0
  refine bdF2 fun v4 _ => ?_
  refine bdF2 fun s13 e_s13 => ?_
  have h_s13 : Fr [(2, 2), (20, 24)] [] σ0 s13 := by rw [e_s13]; exact h_σ.putI rfl
  refine bdF2 fun s21 e_s21 => ?_
  have h_s21 : Fr [(2, 2), (20, 24)] [] σ0 s21 := by rw [e_s21]; exact h_s13.putI rfl
  refine bdF2 fun s26 e_s26 => ?_
  have h_s26 : Fr [(2, 2), (20, 24)] [] σ0 s26 := by rw [e_s26]; exact h_s21.putI rfl
  refine bdF2 fun s30 e_s30 => ?_
  have h_s30 : Fr [(2, 2), (20, 24)] [] σ0 s30 := by rw [e_s30]; exact h_s26.call fr_fX11_nothingIsFound_0 rfl rfl
  exact h_s30
theorem fr_fX11_hush_0 {σ : ST} : Fr [(2, 2), (20, 24)] [] σ (fX11_hush_0 σ).2 := fb_fX11_hush_0b0 (Fr.refl σ)
theorem fb_fX3_empty_0b0 {σ0 : ST}  {σ : ST} (h_σ : Fr [(3, 4)] [] σ0 σ) : Fr [(3, 4)] [] σ0 (fX3_empty_0b0 σ) := by
  unfold fX3_empty_0b0
  refine bdF fun s2 e_s2 => ?_
  have h_s2 : Fr [(3, 4)] [] σ0 s2 := by rw [e_s2]; exact h_σ.putI rfl
  refine bdF fun s7 e_s7 => ?_
  have h_s7 : Fr [(3, 4)] [] σ0 s7 := by rw [e_s7]; exact h_s2.putI rfl
  exact h_s7
theorem fr_fX3_empty_0 {σ : ST} : Fr [(3, 4)] [] σ (fX3_empty_0 σ) := fb_fX3_empty_0b0 (Fr.refl σ)
theorem fb_fX3_writeMiddle_0b19 {σ0 : ST}  {σ : ST} (h_σ : Fr [] [(15, 15)] σ0 σ) : Fr [] [(15, 15)] σ0 (fX3_writeMiddle_0b19 σ) := by
  unfold fX3_writeMiddle_0b19
  exact h_σ
theorem fb_fX3_writeMiddle_0b53 {σ0 : ST}  {σ : ST} (h_σ : Fr [] [(15, 15)] σ0 σ) : Fr [] [(15, 15)] σ0 (fX3_writeMiddle_0b53 σ) := by
  unfold fX3_writeMiddle_0b53
  exact h_σ
theorem fb_fX3_writeMiddle_0b27 {σ0 : ST} {K22 : Int32 → Int32 → ST → ST} (hK22 : ∀ (q0 : Int32) (q1 : Int32) (τ : ST), Fr [] [(15, 15)] σ0 τ → Fr [] [(15, 15)] σ0 (K22 q0 q1 τ)) {l2 : Int32} {l3 : Int32} {σ : ST} (h_σ : Fr [] [(15, 15)] σ0 σ) : Fr [] [(15, 15)] σ0 (fX3_writeMiddle_0b27 K22 l2 l3 σ) := by
  unfold fX3_writeMiddle_0b27
  refine bdF fun v30 _ => ?_
  refine bdF fun v36 _ => ?_
  refine bdF fun v38 _ => ?_
  refine bdF fun v42 _ => ?_
  refine bdF fun v44 _ => ?_
  refine bdF fun v45 _ => ?_
  refine bdF fun s46 e_s46 => ?_
  have h_s46 : Fr [] [(15, 15)] σ0 s46 := by rw [e_s46]; exact h_σ.putA rfl
  refine bdF fun v47 _ => ?_
  exact hK22 _ _ _ h_s46
theorem fb_fX3_writeMiddle_0b22 {σ0 : ST} {K22 : Int32 → Int32 → ST → ST} (hK22 : ∀ (q0 : Int32) (q1 : Int32) (τ : ST), Fr [] [(15, 15)] σ0 τ → Fr [] [(15, 15)] σ0 (K22 q0 q1 τ)) {l2 : Int32} {l3 : Int32} {σ : ST} (h_σ : Fr [] [(15, 15)] σ0 σ) : Fr [] [(15, 15)] σ0 (fX3_writeMiddle_0b22 K22 l2 l3 σ) := by
  unfold fX3_writeMiddle_0b22
  exact iteF (fb_fX3_writeMiddle_0b53  h_σ) (fb_fX3_writeMiddle_0b27 hK22 h_σ)
theorem fb_fX3_writeMiddle_0l22 {σ0 : ST}  : ∀ (fu : Nat) {q0 : Int32} {q1 : Int32} {τ : ST} (h : Fr [] [(15, 15)] σ0 τ), Fr [] [(15, 15)] σ0 (fX3_writeMiddle_0l22 fu q0 q1 τ)
  | 0, _, _, _, h => h
  | fu + 1, _, _, _, h => fb_fX3_writeMiddle_0b22 (fun _ _ _ q => fb_fX3_writeMiddle_0l22  fu q) h
theorem fb_fX3_writeMiddle_0b20 {σ0 : ST}  {l2 : Int32} {σ : ST} (h_σ : Fr [] [(15, 15)] σ0 σ) : Fr [] [(15, 15)] σ0 (fX3_writeMiddle_0b20 l2 σ) := by
  unfold fX3_writeMiddle_0b20
  exact fb_fX3_writeMiddle_0l22  _ h_σ
theorem fb_fX3_writeMiddle_0b11 {σ0 : ST}  {l2 : Int32} {σ : ST} (h_σ : Fr [] [(15, 15)] σ0 σ) : Fr [] [(15, 15)] σ0 (fX3_writeMiddle_0b11 l2 σ) := by
  unfold fX3_writeMiddle_0b11
  refine bdF fun v15 _ => ?_
  exact iteF (fb_fX3_writeMiddle_0b20  h_σ) (fb_fX3_writeMiddle_0b19  h_σ)
theorem fb_fX3_writeMiddle_0b7 {σ0 : ST}  {l2 : Int32} {σ : ST} (h_σ : Fr [] [(15, 15)] σ0 σ) : Fr [] [(15, 15)] σ0 (fX3_writeMiddle_0b7 l2 σ) := by
  unfold fX3_writeMiddle_0b7
  exact iteF (fb_fX3_writeMiddle_0b19  h_σ) (fb_fX3_writeMiddle_0b11  h_σ)
theorem fb_fX3_writeMiddle_0b0 {σ0 : ST}  {l2 : Int32} {σ : ST} (h_σ : Fr [] [(15, 15)] σ0 σ) : Fr [] [(15, 15)] σ0 (fX3_writeMiddle_0b0 l2 σ) := by
  unfold fX3_writeMiddle_0b0
  refine bdF fun v1 _ => ?_
  exact iteF (fb_fX3_writeMiddle_0b19  h_σ) (fb_fX3_writeMiddle_0b7  h_σ)
theorem fr_fX3_writeMiddle_0 {p2 : Int32} {σ : ST} : Fr [] [(15, 15)] σ (fX3_writeMiddle_0 p2 σ) := fb_fX3_writeMiddle_0b0 (Fr.refl σ)
theorem fb_fX1_fillGains_0b75 {σ0 : ST}  {σ : ST} (h_σ : Fr [] [(40, 40)] σ0 σ) : Fr [] [(40, 40)] σ0 (fX1_fillGains_0b75 σ) := by
  unfold fX1_fillGains_0b75
  exact h_σ
theorem fb_fX1_fillGains_0b69 {σ0 : ST} {K13 : Int32 → Int32 → Int32 → ST → ST} (hK13 : ∀ (q0 : Int32) (q1 : Int32) (q2 : Int32) (τ : ST), Fr [] [(40, 40)] σ0 τ → Fr [] [(40, 40)] σ0 (K13 q0 q1 q2 τ)) {l1 : Int32} {l2 : Int32} {l3 : Int32} {σ : ST} (h_σ : Fr [] [(40, 40)] σ0 σ) : Fr [] [(40, 40)] σ0 (fX1_fillGains_0b69 K13 l1 l2 l3 σ) := by
  unfold fX1_fillGains_0b69
  refine bdF fun v69 _ => ?_
  exact hK13 _ _ _ _ h_σ
theorem fb_fX1_fillGains_0b33 {σ0 : ST} {K13 : Int32 → Int32 → Int32 → ST → ST} (hK13 : ∀ (q0 : Int32) (q1 : Int32) (q2 : Int32) (τ : ST), Fr [] [(40, 40)] σ0 τ → Fr [] [(40, 40)] σ0 (K13 q0 q1 q2 τ)) {K26 : Int32 → Int32 → Int32 → Int32 → Int32 → ST → ST} (hK26 : ∀ (q0 : Int32) (q1 : Int32) (q2 : Int32) (q3 : Int32) (q4 : Int32) (τ : ST), Fr [] [(40, 40)] σ0 τ → Fr [] [(40, 40)] σ0 (K26 q0 q1 q2 q3 q4 τ)) {l1 : Int32} {l2 : Int32} {l3 : Int32} {l4 : Int32} {l5 : Int32} {σ : ST} (h_σ : Fr [] [(40, 40)] σ0 σ) : Fr [] [(40, 40)] σ0 (fX1_fillGains_0b33 K13 K26 l1 l2 l3 l4 l5 σ) := by
  unfold fX1_fillGains_0b33
  refine bdF fun v40 _ => ?_
  refine bdF fun v43 _ => ?_
  refine bdF fun v51 _ => ?_
  refine bdF fun v52 _ => ?_
  refine bdF fun v58 _ => ?_
  refine bdF fun v60 _ => ?_
  refine bdF fun v61 _ => ?_
  refine bdF fun s62 e_s62 => ?_
  have h_s62 : Fr [] [(40, 40)] σ0 s62 := by rw [e_s62]; exact h_σ.putA rfl
  refine bdF fun v63 _ => ?_
  exact hK26 _ _ _ _ _ _ h_s62
theorem fb_fX1_fillGains_0b26 {σ0 : ST} {K13 : Int32 → Int32 → Int32 → ST → ST} (hK13 : ∀ (q0 : Int32) (q1 : Int32) (q2 : Int32) (τ : ST), Fr [] [(40, 40)] σ0 τ → Fr [] [(40, 40)] σ0 (K13 q0 q1 q2 τ)) {K26 : Int32 → Int32 → Int32 → Int32 → Int32 → ST → ST} (hK26 : ∀ (q0 : Int32) (q1 : Int32) (q2 : Int32) (q3 : Int32) (q4 : Int32) (τ : ST), Fr [] [(40, 40)] σ0 τ → Fr [] [(40, 40)] σ0 (K26 q0 q1 q2 q3 q4 τ)) {l1 : Int32} {l2 : Int32} {l3 : Int32} {l4 : Int32} {l5 : Int32} {σ : ST} (h_σ : Fr [] [(40, 40)] σ0 σ) : Fr [] [(40, 40)] σ0 (fX1_fillGains_0b26 K13 K26 l1 l2 l3 l4 l5 σ) := by
  unfold fX1_fillGains_0b26
  exact iteF (fb_fX1_fillGains_0b69 hK13 h_σ) (fb_fX1_fillGains_0b33 hK13 hK26 h_σ)
theorem fb_fX1_fillGains_0l26 {σ0 : ST} {K13 : Int32 → Int32 → Int32 → ST → ST} (hK13 : ∀ (q0 : Int32) (q1 : Int32) (q2 : Int32) (τ : ST), Fr [] [(40, 40)] σ0 τ → Fr [] [(40, 40)] σ0 (K13 q0 q1 q2 τ)) : ∀ (fu : Nat) {q0 : Int32} {q1 : Int32} {q2 : Int32} {q3 : Int32} {q4 : Int32} {τ : ST} (h : Fr [] [(40, 40)] σ0 τ), Fr [] [(40, 40)] σ0 (fX1_fillGains_0l26 K13 fu q0 q1 q2 q3 q4 τ)
  | 0, _, _, _, _, _, _, h => h
  | fu + 1, _, _, _, _, _, _, h => fb_fX1_fillGains_0b26 hK13 (fun _ _ _ _ _ _ q => fb_fX1_fillGains_0l26 hK13 fu q) h
theorem fb_fX1_fillGains_0b18 {σ0 : ST} {K13 : Int32 → Int32 → Int32 → ST → ST} (hK13 : ∀ (q0 : Int32) (q1 : Int32) (q2 : Int32) (τ : ST), Fr [] [(40, 40)] σ0 τ → Fr [] [(40, 40)] σ0 (K13 q0 q1 q2 τ)) {l1 : Int32} {l2 : Int32} {l3 : Int32} {σ : ST} (h_σ : Fr [] [(40, 40)] σ0 σ) : Fr [] [(40, 40)] σ0 (fX1_fillGains_0b18 K13 l1 l2 l3 σ) := by
  unfold fX1_fillGains_0b18
  refine bdF fun v20 _ => ?_
  exact fb_fX1_fillGains_0l26 hK13 _ h_σ
theorem fb_fX1_fillGains_0b13 {σ0 : ST} {K13 : Int32 → Int32 → Int32 → ST → ST} (hK13 : ∀ (q0 : Int32) (q1 : Int32) (q2 : Int32) (τ : ST), Fr [] [(40, 40)] σ0 τ → Fr [] [(40, 40)] σ0 (K13 q0 q1 q2 τ)) {l1 : Int32} {l2 : Int32} {l3 : Int32} {σ : ST} (h_σ : Fr [] [(40, 40)] σ0 σ) : Fr [] [(40, 40)] σ0 (fX1_fillGains_0b13 K13 l1 l2 l3 σ) := by
  unfold fX1_fillGains_0b13
  exact iteF (fb_fX1_fillGains_0b75  h_σ) (fb_fX1_fillGains_0b18 hK13 h_σ)
theorem fb_fX1_fillGains_0l13 {σ0 : ST}  : ∀ (fu : Nat) {q0 : Int32} {q1 : Int32} {q2 : Int32} {τ : ST} (h : Fr [] [(40, 40)] σ0 τ), Fr [] [(40, 40)] σ0 (fX1_fillGains_0l13 fu q0 q1 q2 τ)
  | 0, _, _, _, _, h => h
  | fu + 1, _, _, _, _, h => fb_fX1_fillGains_0b13 (fun _ _ _ _ q => fb_fX1_fillGains_0l13  fu q) h
theorem fb_fX1_fillGains_0b0 {σ0 : ST}  {l1 : Int32} {σ : ST} (h_σ : Fr [] [(40, 40)] σ0 σ) : Fr [] [(40, 40)] σ0 (fX1_fillGains_0b0 l1 σ) := by
  unfold fX1_fillGains_0b0
  refine bdF fun v2 _ => ?_
  refine bdF fun s10 e_s10 => ?_
  have h_s10 : Fr [] [(40, 40)] σ0 s10 := by rw [e_s10]; exact h_σ.putA rfl
  exact fb_fX1_fillGains_0l13  _ h_s10
theorem fr_fX1_fillGains_0 {p1 : Int32} {σ : ST} : Fr [] [(40, 40)] σ (fX1_fillGains_0 p1 σ) := fb_fX1_fillGains_0b0 (Fr.refl σ)
theorem fb_fX0_meetNear_0b62 {σ0 : ST}  {σ : ST} (h_σ : Fr [(14, 16)] [] σ0 σ) : Fr [(14, 16)] [] σ0 (fX0_meetNear_0b62 σ) := by
  unfold fX0_meetNear_0b62
  exact h_σ
theorem fb_fX0_meetNear_0b8 {σ0 : ST}  {l1 : Int32} {l3 : Int64} {σ : ST} (h_σ : Fr [(14, 16)] [] σ0 σ) : Fr [(14, 16)] [] σ0 (fX0_meetNear_0b8 l1 l3 σ) := by
  unfold fX0_meetNear_0b8
  refine bdF fun v10 _ => ?_
  refine bdF fun v14 _ => ?_
  refine bdF fun s15 e_s15 => ?_
  have h_s15 : Fr [(14, 16)] [] σ0 s15 := by rw [e_s15]; exact h_σ.putI rfl
  refine bdF fun v20 _ => ?_
  refine bdF fun v24 _ => ?_
  refine bdF fun s27 e_s27 => ?_
  have h_s27 : Fr [(14, 16)] [] σ0 s27 := by rw [e_s27]; exact h_s15.putI rfl
  refine bdF fun v32 _ => ?_
  refine bdF fun v36 _ => ?_
  refine bdF fun s39 e_s39 => ?_
  have h_s39 : Fr [(14, 16)] [] σ0 s39 := by rw [e_s39]; exact h_s27.putI rfl
  refine bdF fun v44 _ => ?_
  refine bdF fun v48 _ => ?_
  refine bdF fun s49 e_s49 => ?_
  have h_s49 : Fr [(14, 16)] [] σ0 s49 := by rw [e_s49]; exact ⟨h_s39.1, h_s39.2⟩
  refine bdF fun v54 _ => ?_
  refine bdF fun v58 _ => ?_
  refine bdF fun s59 e_s59 => ?_
  have h_s59 : Fr [(14, 16)] [] σ0 s59 := by rw [e_s59]; exact ⟨h_s49.1, h_s49.2⟩
  exact fb_fX0_meetNear_0b62  h_s59
theorem fb_fX0_meetNear_0b0 {σ0 : ST}  {l1 : Int32} {l2 : Int32} {l3 : Int64} {σ : ST} (h_σ : Fr [(14, 16)] [] σ0 σ) : Fr [(14, 16)] [] σ0 (fX0_meetNear_0b0 l1 l2 l3 σ) := by
  unfold fX0_meetNear_0b0
  refine bdF fun v2 _ => ?_
  exact iteF (fb_fX0_meetNear_0b62  h_σ) (fb_fX0_meetNear_0b8  h_σ)
theorem fr_fX0_meetNear_0 {p1 : Int32} {p2 : Int32} {p3 : Int64} {σ : ST} : Fr [(14, 16)] [] σ (fX0_meetNear_0 p1 p2 p3 σ) := fb_fX0_meetNear_0b0 (Fr.refl σ)
theorem fb_fX0_meet_0b84 {σ0 : ST}  {σ : ST} (h_σ : Fr [(10, 11), (14, 16)] [(41, 41)] σ0 σ) : Fr [(10, 11), (14, 16)] [(41, 41)] σ0 (fX0_meet_0b84 σ) := by
  unfold fX0_meet_0b84
  exact h_σ
theorem fb_fX0_meet_0b61 {σ0 : ST} {K48 : Int32 → Int32 → ST → ST} (hK48 : ∀ (q0 : Int32) (q1 : Int32) (τ : ST), Fr [(10, 11), (14, 16)] [(41, 41)] σ0 τ → Fr [(10, 11), (14, 16)] [(41, 41)] σ0 (K48 q0 q1 τ)) {l1 : Int32} {l6 : Int32} {σ : ST} (h_σ : Fr [(10, 11), (14, 16)] [(41, 41)] σ0 σ) : Fr [(10, 11), (14, 16)] [(41, 41)] σ0 (fX0_meet_0b61 K48 l1 l6 σ) := by
  unfold fX0_meet_0b61
  refine bdF fun v76 _ => ?_
  refine bdF fun s77 e_s77 => ?_
  have h_s77 : Fr [(10, 11), (14, 16)] [(41, 41)] σ0 s77 := by rw [e_s77]; exact h_σ.putA rfl
  refine bdF fun v78 _ => ?_
  exact hK48 _ _ _ h_s77
theorem fb_fX0_meet_0b54 {σ0 : ST} {K48 : Int32 → Int32 → ST → ST} (hK48 : ∀ (q0 : Int32) (q1 : Int32) (τ : ST), Fr [(10, 11), (14, 16)] [(41, 41)] σ0 τ → Fr [(10, 11), (14, 16)] [(41, 41)] σ0 (K48 q0 q1 τ)) {l1 : Int32} {l6 : Int32} {σ : ST} (h_σ : Fr [(10, 11), (14, 16)] [(41, 41)] σ0 σ) : Fr [(10, 11), (14, 16)] [(41, 41)] σ0 (fX0_meet_0b54 K48 l1 l6 σ) := by
  unfold fX0_meet_0b54
  exact iteF (fb_fX0_meet_0b84  h_σ) (fb_fX0_meet_0b61 hK48 h_σ)
theorem fb_fX0_meet_0b48 {σ0 : ST} {K48 : Int32 → Int32 → ST → ST} (hK48 : ∀ (q0 : Int32) (q1 : Int32) (τ : ST), Fr [(10, 11), (14, 16)] [(41, 41)] σ0 τ → Fr [(10, 11), (14, 16)] [(41, 41)] σ0 (K48 q0 q1 τ)) {l1 : Int32} {l6 : Int32} {σ : ST} (h_σ : Fr [(10, 11), (14, 16)] [(41, 41)] σ0 σ) : Fr [(10, 11), (14, 16)] [(41, 41)] σ0 (fX0_meet_0b48 K48 l1 l6 σ) := by
  unfold fX0_meet_0b48
  exact iteF (fb_fX0_meet_0b84  h_σ) (fb_fX0_meet_0b54 hK48 h_σ)
theorem fb_fX0_meet_0l48 {σ0 : ST}  : ∀ (fu : Nat) {q0 : Int32} {q1 : Int32} {τ : ST} (h : Fr [(10, 11), (14, 16)] [(41, 41)] σ0 τ), Fr [(10, 11), (14, 16)] [(41, 41)] σ0 (fX0_meet_0l48 fu q0 q1 τ)
  | 0, _, _, _, h => h
  | fu + 1, _, _, _, h => fb_fX0_meet_0b48 (fun _ _ _ q => fb_fX0_meet_0l48  fu q) h
theorem fb_fX0_meet_0b29 {σ0 : ST}  {l1 : Int32} {l2 : Int32} {l3 : Int32} {σ : ST} (h_σ : Fr [(10, 11), (14, 16)] [(41, 41)] σ0 σ) : Fr [(10, 11), (14, 16)] [(41, 41)] σ0 (fX0_meet_0b29 l1 l2 l3 σ) := by
  unfold fX0_meet_0b29
  refine bdF fun s34 e_s34 => ?_
  have h_s34 : Fr [(10, 11), (14, 16)] [(41, 41)] σ0 s34 := by rw [e_s34]; exact h_σ.putI rfl
  refine bdF fun s42 e_s42 => ?_
  have h_s42 : Fr [(10, 11), (14, 16)] [(41, 41)] σ0 s42 := by rw [e_s42]; exact h_s34.putI rfl
  exact fb_fX0_meet_0l48  _ h_s42
theorem fb_fX0_meet_0b18 {σ0 : ST}  {l1 : Int32} {l2 : Int32} {l3 : Int32} {σ : ST} (h_σ : Fr [(10, 11), (14, 16)] [(41, 41)] σ0 σ) : Fr [(10, 11), (14, 16)] [(41, 41)] σ0 (fX0_meet_0b18 l1 l2 l3 σ) := by
  unfold fX0_meet_0b18
  refine bdF fun v23 _ => ?_
  exact iteF (fb_fX0_meet_0b84  h_σ) (fb_fX0_meet_0b29  h_σ)
theorem fb_fX0_meet_0b7 {σ0 : ST}  {l2 : Int32} {l3 : Int32} {l4 : Int64} {σ : ST} (h_σ : Fr [(10, 11), (14, 16)] [(41, 41)] σ0 σ) : Fr [(10, 11), (14, 16)] [(41, 41)] σ0 (fX0_meet_0b7 l2 l3 l4 σ) := by
  unfold fX0_meet_0b7
  refine bdF fun s12 e_s12 => ?_
  have h_s12 : Fr [(10, 11), (14, 16)] [(41, 41)] σ0 s12 := by rw [e_s12]; exact h_σ.call fr_fX0_meetNear_0 rfl rfl
  exact fb_fX0_meet_0b84  h_s12
theorem fb_fX0_meet_0b0 {σ0 : ST}  {l1 : Int32} {l2 : Int32} {l3 : Int32} {l4 : Int64} {σ : ST} (h_σ : Fr [(10, 11), (14, 16)] [(41, 41)] σ0 σ) : Fr [(10, 11), (14, 16)] [(41, 41)] σ0 (fX0_meet_0b0 l1 l2 l3 l4 σ) := by
  unfold fX0_meet_0b0
  refine bdF fun v1 _ => ?_
  exact iteF (fb_fX0_meet_0b18  h_σ) (fb_fX0_meet_0b7  h_σ)
theorem fr_fX0_meet_0 {p1 : Int32} {p2 : Int32} {p3 : Int32} {p4 : Int64} {σ : ST} : Fr [(10, 11), (14, 16)] [(41, 41)] σ (fX0_meet_0 p1 p2 p3 p4 σ) := fb_fX0_meet_0b0 (Fr.refl σ)
theorem fb_fX0_deal_0b14 {σ0 : ST} {REC : Int32 → Int32 → Int32 → Int64 → ST → ST} (hREC : ∀ (q0 : Int32) (q1 : Int32) (q2 : Int32) (q3 : Int64) (τ : ST), Fr [(10, 11), (14, 16)] [(41, 41), (44, 45)] σ0 τ → Fr [(10, 11), (14, 16)] [(41, 41), (44, 45)] σ0 (REC q0 q1 q2 q3 τ)) {l3 : Int32} {l4 : Int32} {l5 : Int64} {σ : ST} (h_σ : Fr [(10, 11), (14, 16)] [(41, 41), (44, 45)] σ0 σ) : Fr [(10, 11), (14, 16)] [(41, 41), (44, 45)] σ0 (fX0_deal_0b14 REC l3 l4 l5 σ) := by
  unfold fX0_deal_0b14
  refine bdF fun v16 _ => ?_
  refine bdF fun s24 e_s24 => ?_
  have h_s24 : Fr [(10, 11), (14, 16)] [(41, 41), (44, 45)] σ0 s24 := by rw [e_s24]; exact h_σ.call fr_fX0_meet_0 rfl rfl
  exact h_s24
theorem fb_fX0_deal_0b126 {σ0 : ST} {REC : Int32 → Int32 → Int32 → Int64 → ST → ST} (hREC : ∀ (q0 : Int32) (q1 : Int32) (q2 : Int32) (q3 : Int64) (τ : ST), Fr [(10, 11), (14, 16)] [(41, 41), (44, 45)] σ0 τ → Fr [(10, 11), (14, 16)] [(41, 41), (44, 45)] σ0 (REC q0 q1 q2 q3 τ)) {σ : ST} (h_σ : Fr [(10, 11), (14, 16)] [(41, 41), (44, 45)] σ0 σ) : Fr [(10, 11), (14, 16)] [(41, 41), (44, 45)] σ0 (fX0_deal_0b126 REC σ) := by
  unfold fX0_deal_0b126
  exact h_σ
theorem fb_fX0_deal_0b44 {σ0 : ST} {REC : Int32 → Int32 → Int32 → Int64 → ST → ST} (hREC : ∀ (q0 : Int32) (q1 : Int32) (q2 : Int32) (q3 : Int64) (τ : ST), Fr [(10, 11), (14, 16)] [(41, 41), (44, 45)] σ0 τ → Fr [(10, 11), (14, 16)] [(41, 41), (44, 45)] σ0 (REC q0 q1 q2 q3 τ)) {K31 : Int32 → Int32 → Int32 → Int64 → Int32 → ST → ST} (hK31 : ∀ (q0 : Int32) (q1 : Int32) (q2 : Int32) (q3 : Int64) (q4 : Int32) (τ : ST), Fr [(10, 11), (14, 16)] [(41, 41), (44, 45)] σ0 τ → Fr [(10, 11), (14, 16)] [(41, 41), (44, 45)] σ0 (K31 q0 q1 q2 q3 q4 τ)) {l2 : Int32} {l3 : Int32} {l4 : Int32} {l5 : Int64} {l7 : Int32} {σ : ST} (h_σ : Fr [(10, 11), (14, 16)] [(41, 41), (44, 45)] σ0 σ) : Fr [(10, 11), (14, 16)] [(41, 41), (44, 45)] σ0 (fX0_deal_0b44 REC K31 l2 l3 l4 l5 l7 σ) := by
  unfold fX0_deal_0b44
  refine bdF fun v50 _ => ?_
  refine bdF fun s60 e_s60 => ?_
  have h_s60 : Fr [(10, 11), (14, 16)] [(41, 41), (44, 45)] σ0 s60 := by rw [e_s60]; exact h_σ.putA rfl
  refine bdF fun v71 _ => ?_
  refine bdF fun v72 _ => ?_
  refine bdF fun s73 e_s73 => ?_
  have h_s73 : Fr [(10, 11), (14, 16)] [(41, 41), (44, 45)] σ0 s73 := by rw [e_s73]; exact h_s60.putA rfl
  refine bdF fun v78 _ => ?_
  refine bdF fun v83 _ => ?_
  refine bdF fun v84 _ => ?_
  refine bdF fun v93 _ => ?_
  refine bdF fun v96 _ => ?_
  refine bdF fun v101 _ => ?_
  refine bdF fun v103 _ => ?_
  refine bdF fun v106 _ => ?_
  refine bdF fun v107 _ => ?_
  refine bdF fun s108 e_s108 => ?_
  have h_s108 : Fr [(10, 11), (14, 16)] [(41, 41), (44, 45)] σ0 s108 := by rw [e_s108]; exact hREC _ _ _ _ _ h_s73
  refine bdF fun s119 e_s119 => ?_
  have h_s119 : Fr [(10, 11), (14, 16)] [(41, 41), (44, 45)] σ0 s119 := by rw [e_s119]; exact h_s108.putA rfl
  refine bdF fun v120 _ => ?_
  exact hK31 _ _ _ _ _ _ h_s119
theorem fb_fX0_deal_0b37 {σ0 : ST} {REC : Int32 → Int32 → Int32 → Int64 → ST → ST} (hREC : ∀ (q0 : Int32) (q1 : Int32) (q2 : Int32) (q3 : Int64) (τ : ST), Fr [(10, 11), (14, 16)] [(41, 41), (44, 45)] σ0 τ → Fr [(10, 11), (14, 16)] [(41, 41), (44, 45)] σ0 (REC q0 q1 q2 q3 τ)) {K31 : Int32 → Int32 → Int32 → Int64 → Int32 → ST → ST} (hK31 : ∀ (q0 : Int32) (q1 : Int32) (q2 : Int32) (q3 : Int64) (q4 : Int32) (τ : ST), Fr [(10, 11), (14, 16)] [(41, 41), (44, 45)] σ0 τ → Fr [(10, 11), (14, 16)] [(41, 41), (44, 45)] σ0 (K31 q0 q1 q2 q3 q4 τ)) {l2 : Int32} {l3 : Int32} {l4 : Int32} {l5 : Int64} {l7 : Int32} {σ : ST} (h_σ : Fr [(10, 11), (14, 16)] [(41, 41), (44, 45)] σ0 σ) : Fr [(10, 11), (14, 16)] [(41, 41), (44, 45)] σ0 (fX0_deal_0b37 REC K31 l2 l3 l4 l5 l7 σ) := by
  unfold fX0_deal_0b37
  exact iteF (fb_fX0_deal_0b126 hREC h_σ) (fb_fX0_deal_0b44 hREC hK31 h_σ)
theorem fb_fX0_deal_0b31 {σ0 : ST} {REC : Int32 → Int32 → Int32 → Int64 → ST → ST} (hREC : ∀ (q0 : Int32) (q1 : Int32) (q2 : Int32) (q3 : Int64) (τ : ST), Fr [(10, 11), (14, 16)] [(41, 41), (44, 45)] σ0 τ → Fr [(10, 11), (14, 16)] [(41, 41), (44, 45)] σ0 (REC q0 q1 q2 q3 τ)) {K31 : Int32 → Int32 → Int32 → Int64 → Int32 → ST → ST} (hK31 : ∀ (q0 : Int32) (q1 : Int32) (q2 : Int32) (q3 : Int64) (q4 : Int32) (τ : ST), Fr [(10, 11), (14, 16)] [(41, 41), (44, 45)] σ0 τ → Fr [(10, 11), (14, 16)] [(41, 41), (44, 45)] σ0 (K31 q0 q1 q2 q3 q4 τ)) {l2 : Int32} {l3 : Int32} {l4 : Int32} {l5 : Int64} {l7 : Int32} {σ : ST} (h_σ : Fr [(10, 11), (14, 16)] [(41, 41), (44, 45)] σ0 σ) : Fr [(10, 11), (14, 16)] [(41, 41), (44, 45)] σ0 (fX0_deal_0b31 REC K31 l2 l3 l4 l5 l7 σ) := by
  unfold fX0_deal_0b31
  exact iteF (fb_fX0_deal_0b126 hREC h_σ) (fb_fX0_deal_0b37 hREC hK31 h_σ)
theorem fb_fX0_deal_0l31 {σ0 : ST} {REC : Int32 → Int32 → Int32 → Int64 → ST → ST} (hREC : ∀ (q0 : Int32) (q1 : Int32) (q2 : Int32) (q3 : Int64) (τ : ST), Fr [(10, 11), (14, 16)] [(41, 41), (44, 45)] σ0 τ → Fr [(10, 11), (14, 16)] [(41, 41), (44, 45)] σ0 (REC q0 q1 q2 q3 τ)) : ∀ (fu : Nat) {q0 : Int32} {q1 : Int32} {q2 : Int32} {q3 : Int64} {q4 : Int32} {τ : ST} (h : Fr [(10, 11), (14, 16)] [(41, 41), (44, 45)] σ0 τ), Fr [(10, 11), (14, 16)] [(41, 41), (44, 45)] σ0 (fX0_deal_0l31 REC fu q0 q1 q2 q3 q4 τ)
  | 0, _, _, _, _, _, _, h => h
  | fu + 1, _, _, _, _, _, _, h => fb_fX0_deal_0b31 hREC (fun _ _ _ _ _ _ q => fb_fX0_deal_0l31 hREC fu q) h
theorem fb_fX0_deal_0b28 {σ0 : ST} {REC : Int32 → Int32 → Int32 → Int64 → ST → ST} (hREC : ∀ (q0 : Int32) (q1 : Int32) (q2 : Int32) (q3 : Int64) (τ : ST), Fr [(10, 11), (14, 16)] [(41, 41), (44, 45)] σ0 τ → Fr [(10, 11), (14, 16)] [(41, 41), (44, 45)] σ0 (REC q0 q1 q2 q3 τ)) {l2 : Int32} {l3 : Int32} {l4 : Int32} {l5 : Int64} {σ : ST} (h_σ : Fr [(10, 11), (14, 16)] [(41, 41), (44, 45)] σ0 σ) : Fr [(10, 11), (14, 16)] [(41, 41), (44, 45)] σ0 (fX0_deal_0b28 REC l2 l3 l4 l5 σ) := by
  unfold fX0_deal_0b28
  exact fb_fX0_deal_0l31 hREC _ h_σ
theorem fb_fX0_deal_0b8 {σ0 : ST} {REC : Int32 → Int32 → Int32 → Int64 → ST → ST} (hREC : ∀ (q0 : Int32) (q1 : Int32) (q2 : Int32) (q3 : Int64) (τ : ST), Fr [(10, 11), (14, 16)] [(41, 41), (44, 45)] σ0 τ → Fr [(10, 11), (14, 16)] [(41, 41), (44, 45)] σ0 (REC q0 q1 q2 q3 τ)) {l2 : Int32} {l3 : Int32} {l4 : Int32} {l5 : Int64} {σ : ST} (h_σ : Fr [(10, 11), (14, 16)] [(41, 41), (44, 45)] σ0 σ) : Fr [(10, 11), (14, 16)] [(41, 41), (44, 45)] σ0 (fX0_deal_0b8 REC l2 l3 l4 l5 σ) := by
  unfold fX0_deal_0b8
  exact iteF (fb_fX0_deal_0b28 hREC h_σ) (fb_fX0_deal_0b14 hREC h_σ)
theorem fb_fX0_deal_0b0 {σ0 : ST} {REC : Int32 → Int32 → Int32 → Int64 → ST → ST} (hREC : ∀ (q0 : Int32) (q1 : Int32) (q2 : Int32) (q3 : Int64) (τ : ST), Fr [(10, 11), (14, 16)] [(41, 41), (44, 45)] σ0 τ → Fr [(10, 11), (14, 16)] [(41, 41), (44, 45)] σ0 (REC q0 q1 q2 q3 τ)) {l2 : Int32} {l3 : Int32} {l4 : Int32} {l5 : Int64} {σ : ST} (h_σ : Fr [(10, 11), (14, 16)] [(41, 41), (44, 45)] σ0 σ) : Fr [(10, 11), (14, 16)] [(41, 41), (44, 45)] σ0 (fX0_deal_0b0 REC l2 l3 l4 l5 σ) := by
  unfold fX0_deal_0b0
  refine bdF fun v2 _ => ?_
  exact iteF (fb_fX0_deal_0b14 hREC h_σ) (fb_fX0_deal_0b8 hREC h_σ)
theorem fd_fX0_deal_0 {σ0 : ST} : ∀ (d : Nat) {q0 : Int32} {q1 : Int32} {q2 : Int32} {q3 : Int64} {τ : ST} (h : Fr [(10, 11), (14, 16)] [(41, 41), (44, 45)] σ0 τ), Fr [(10, 11), (14, 16)] [(41, 41), (44, 45)] σ0 (fX0_deal_0 d q0 q1 q2 q3 τ)
  | 0, _, _, _, _, _, h => h
  | d + 1, _, _, _, _, _, h => fb_fX0_deal_0b0 (fun _ _ _ _ _ q => fd_fX0_deal_0 d q) h
theorem fr_fX0_deal_0 {d : Nat} {q0 : Int32} {q1 : Int32} {q2 : Int32} {q3 : Int64} {σ : ST} : Fr [(10, 11), (14, 16)] [(41, 41), (44, 45)] σ (fX0_deal_0 d q0 q1 q2 q3 σ) := fd_fX0_deal_0 d (Fr.refl σ)
theorem fb_fX0_findBest_0b0 {σ0 : ST}  {σ : ST} (h_σ : Fr [(10, 12), (14, 16)] [(41, 41), (44, 45)] σ0 σ) : Fr [(10, 12), (14, 16)] [(41, 41), (44, 45)] σ0 (fX0_findBest_0b0 σ) := by
  unfold fX0_findBest_0b0
  refine bdF fun s2 e_s2 => ?_
  have h_s2 : Fr [(10, 12), (14, 16)] [(41, 41), (44, 45)] σ0 s2 := by rw [e_s2]; exact h_σ.putI rfl
  refine bdF fun s11 e_s11 => ?_
  have h_s11 : Fr [(10, 12), (14, 16)] [(41, 41), (44, 45)] σ0 s11 := by rw [e_s11]; exact h_s2.putI rfl
  refine bdF fun s19 e_s19 => ?_
  have h_s19 : Fr [(10, 12), (14, 16)] [(41, 41), (44, 45)] σ0 s19 := by rw [e_s19]; exact h_s11.putA rfl
  refine bdF fun s28 e_s28 => ?_
  have h_s28 : Fr [(10, 12), (14, 16)] [(41, 41), (44, 45)] σ0 s28 := by rw [e_s28]; exact h_s19.call fr_fX0_deal_0 rfl rfl
  exact h_s28
theorem fr_fX0_findBest_0 {σ : ST} : Fr [(10, 12), (14, 16)] [(41, 41), (44, 45)] σ (fX0_findBest_0 σ) := fb_fX0_findBest_0b0 (Fr.refl σ)
theorem fb_fX3_writeMiddle_1b19 {σ0 : ST}  {σ : ST} (h_σ : Fr [] [(43, 43)] σ0 σ) : Fr [] [(43, 43)] σ0 (fX3_writeMiddle_1b19 σ) := by
  unfold fX3_writeMiddle_1b19
  exact h_σ
theorem fb_fX3_writeMiddle_1b53 {σ0 : ST}  {σ : ST} (h_σ : Fr [] [(43, 43)] σ0 σ) : Fr [] [(43, 43)] σ0 (fX3_writeMiddle_1b53 σ) := by
  unfold fX3_writeMiddle_1b53
  exact h_σ
theorem fb_fX3_writeMiddle_1b27 {σ0 : ST} {K22 : Int32 → Int32 → ST → ST} (hK22 : ∀ (q0 : Int32) (q1 : Int32) (τ : ST), Fr [] [(43, 43)] σ0 τ → Fr [] [(43, 43)] σ0 (K22 q0 q1 τ)) {l2 : Int32} {l3 : Int32} {σ : ST} (h_σ : Fr [] [(43, 43)] σ0 σ) : Fr [] [(43, 43)] σ0 (fX3_writeMiddle_1b27 K22 l2 l3 σ) := by
  unfold fX3_writeMiddle_1b27
  refine bdF fun v30 _ => ?_
  refine bdF fun v36 _ => ?_
  refine bdF fun v38 _ => ?_
  refine bdF fun v42 _ => ?_
  refine bdF fun v44 _ => ?_
  refine bdF fun v45 _ => ?_
  refine bdF fun s46 e_s46 => ?_
  have h_s46 : Fr [] [(43, 43)] σ0 s46 := by rw [e_s46]; exact h_σ.putA rfl
  refine bdF fun v47 _ => ?_
  exact hK22 _ _ _ h_s46
theorem fb_fX3_writeMiddle_1b22 {σ0 : ST} {K22 : Int32 → Int32 → ST → ST} (hK22 : ∀ (q0 : Int32) (q1 : Int32) (τ : ST), Fr [] [(43, 43)] σ0 τ → Fr [] [(43, 43)] σ0 (K22 q0 q1 τ)) {l2 : Int32} {l3 : Int32} {σ : ST} (h_σ : Fr [] [(43, 43)] σ0 σ) : Fr [] [(43, 43)] σ0 (fX3_writeMiddle_1b22 K22 l2 l3 σ) := by
  unfold fX3_writeMiddle_1b22
  exact iteF (fb_fX3_writeMiddle_1b53  h_σ) (fb_fX3_writeMiddle_1b27 hK22 h_σ)
theorem fb_fX3_writeMiddle_1l22 {σ0 : ST}  : ∀ (fu : Nat) {q0 : Int32} {q1 : Int32} {τ : ST} (h : Fr [] [(43, 43)] σ0 τ), Fr [] [(43, 43)] σ0 (fX3_writeMiddle_1l22 fu q0 q1 τ)
  | 0, _, _, _, h => h
  | fu + 1, _, _, _, h => fb_fX3_writeMiddle_1b22 (fun _ _ _ q => fb_fX3_writeMiddle_1l22  fu q) h
theorem fb_fX3_writeMiddle_1b20 {σ0 : ST}  {l2 : Int32} {σ : ST} (h_σ : Fr [] [(43, 43)] σ0 σ) : Fr [] [(43, 43)] σ0 (fX3_writeMiddle_1b20 l2 σ) := by
  unfold fX3_writeMiddle_1b20
  exact fb_fX3_writeMiddle_1l22  _ h_σ
theorem fb_fX3_writeMiddle_1b11 {σ0 : ST}  {l2 : Int32} {σ : ST} (h_σ : Fr [] [(43, 43)] σ0 σ) : Fr [] [(43, 43)] σ0 (fX3_writeMiddle_1b11 l2 σ) := by
  unfold fX3_writeMiddle_1b11
  refine bdF fun v15 _ => ?_
  exact iteF (fb_fX3_writeMiddle_1b20  h_σ) (fb_fX3_writeMiddle_1b19  h_σ)
theorem fb_fX3_writeMiddle_1b7 {σ0 : ST}  {l2 : Int32} {σ : ST} (h_σ : Fr [] [(43, 43)] σ0 σ) : Fr [] [(43, 43)] σ0 (fX3_writeMiddle_1b7 l2 σ) := by
  unfold fX3_writeMiddle_1b7
  exact iteF (fb_fX3_writeMiddle_1b19  h_σ) (fb_fX3_writeMiddle_1b11  h_σ)
theorem fb_fX3_writeMiddle_1b0 {σ0 : ST}  {l2 : Int32} {σ : ST} (h_σ : Fr [] [(43, 43)] σ0 σ) : Fr [] [(43, 43)] σ0 (fX3_writeMiddle_1b0 l2 σ) := by
  unfold fX3_writeMiddle_1b0
  refine bdF fun v1 _ => ?_
  exact iteF (fb_fX3_writeMiddle_1b19  h_σ) (fb_fX3_writeMiddle_1b7  h_σ)
theorem fr_fX3_writeMiddle_1 {p2 : Int32} {σ : ST} : Fr [] [(43, 43)] σ (fX3_writeMiddle_1 p2 σ) := fb_fX3_writeMiddle_1b0 (Fr.refl σ)
theorem fb_fX4_numberHeaps_0b107 {σ0 : ST}  {σ : ST} (h_σ : Fr [(17, 17)] [(46, 47)] σ0 σ) : Fr [(17, 17)] [(46, 47)] σ0 (fX4_numberHeaps_0b107 σ) := by
  unfold fX4_numberHeaps_0b107
  exact h_σ
theorem fb_fX4_numberHeaps_0b100 {σ0 : ST} {K16 : Int32 → Int32 → ST → ST} (hK16 : ∀ (q0 : Int32) (q1 : Int32) (τ : ST), Fr [(17, 17)] [(46, 47)] σ0 τ → Fr [(17, 17)] [(46, 47)] σ0 (K16 q0 q1 τ)) {l1 : Int32} {l2 : Int32} {t0 : Int32} {t1 : Int32} {σ : ST} (h_σ : Fr [(17, 17)] [(46, 47)] σ0 σ) : Fr [(17, 17)] [(46, 47)] σ0 (fX4_numberHeaps_0b100 K16 l1 l2 t0 t1 σ) := by
  unfold fX4_numberHeaps_0b100
  refine bdF fun s100 e_s100 => ?_
  have h_s100 : Fr [(17, 17)] [(46, 47)] σ0 s100 := by rw [e_s100]; exact h_σ.putA rfl
  refine bdF fun v101 _ => ?_
  exact hK16 _ _ _ h_s100
theorem fb_fX4_numberHeaps_0b99 {σ0 : ST} {K16 : Int32 → Int32 → ST → ST} (hK16 : ∀ (q0 : Int32) (q1 : Int32) (τ : ST), Fr [(17, 17)] [(46, 47)] σ0 τ → Fr [(17, 17)] [(46, 47)] σ0 (K16 q0 q1 τ)) {l1 : Int32} {l2 : Int32} {t0 : Int32} {σ : ST} (h_σ : Fr [(17, 17)] [(46, 47)] σ0 σ) : Fr [(17, 17)] [(46, 47)] σ0 (fX4_numberHeaps_0b99 K16 l1 l2 t0 σ) := by
  unfold fX4_numberHeaps_0b99
  exact fb_fX4_numberHeaps_0b100 hK16 h_σ
theorem fb_fX4_numberHeaps_0b90 {σ0 : ST} {K16 : Int32 → Int32 → ST → ST} (hK16 : ∀ (q0 : Int32) (q1 : Int32) (τ : ST), Fr [(17, 17)] [(46, 47)] σ0 τ → Fr [(17, 17)] [(46, 47)] σ0 (K16 q0 q1 τ)) {l1 : Int32} {l2 : Int32} {l3 : Int32} {t0 : Int32} {σ : ST} (h_σ : Fr [(17, 17)] [(46, 47)] σ0 σ) : Fr [(17, 17)] [(46, 47)] σ0 (fX4_numberHeaps_0b90 K16 l1 l2 l3 t0 σ) := by
  unfold fX4_numberHeaps_0b90
  refine bdF fun v95 _ => ?_
  exact fb_fX4_numberHeaps_0b100 hK16 h_σ
theorem fb_fX4_numberHeaps_0b84 {σ0 : ST} {K16 : Int32 → Int32 → ST → ST} (hK16 : ∀ (q0 : Int32) (q1 : Int32) (τ : ST), Fr [(17, 17)] [(46, 47)] σ0 τ → Fr [(17, 17)] [(46, 47)] σ0 (K16 q0 q1 τ)) {l1 : Int32} {l2 : Int32} {l3 : Int32} {t0 : Int32} {σ : ST} (h_σ : Fr [(17, 17)] [(46, 47)] σ0 σ) : Fr [(17, 17)] [(46, 47)] σ0 (fX4_numberHeaps_0b84 K16 l1 l2 l3 t0 σ) := by
  unfold fX4_numberHeaps_0b84
  exact iteF (fb_fX4_numberHeaps_0b99 hK16 h_σ) (fb_fX4_numberHeaps_0b90 hK16 h_σ)
theorem fb_fX4_numberHeaps_0b75 {σ0 : ST} {K16 : Int32 → Int32 → ST → ST} (hK16 : ∀ (q0 : Int32) (q1 : Int32) (τ : ST), Fr [(17, 17)] [(46, 47)] σ0 τ → Fr [(17, 17)] [(46, 47)] σ0 (K16 q0 q1 τ)) {l1 : Int32} {l2 : Int32} {l3 : Int32} {σ : ST} (h_σ : Fr [(17, 17)] [(46, 47)] σ0 σ) : Fr [(17, 17)] [(46, 47)] σ0 (fX4_numberHeaps_0b75 K16 l1 l2 l3 σ) := by
  unfold fX4_numberHeaps_0b75
  exact iteF (fb_fX4_numberHeaps_0b99 hK16 h_σ) (fb_fX4_numberHeaps_0b84 hK16 h_σ)
theorem fb_fX4_numberHeaps_0b55 {σ0 : ST} {K16 : Int32 → Int32 → ST → ST} (hK16 : ∀ (q0 : Int32) (q1 : Int32) (τ : ST), Fr [(17, 17)] [(46, 47)] σ0 τ → Fr [(17, 17)] [(46, 47)] σ0 (K16 q0 q1 τ)) {l1 : Int32} {l2 : Int32} {l3 : Int32} {σ : ST} (h_σ : Fr [(17, 17)] [(46, 47)] σ0 σ) : Fr [(17, 17)] [(46, 47)] σ0 (fX4_numberHeaps_0b55 K16 l1 l2 l3 σ) := by
  unfold fX4_numberHeaps_0b55
  refine bdF fun v61 _ => ?_
  refine bdF fun s64 e_s64 => ?_
  have h_s64 : Fr [(17, 17)] [(46, 47)] σ0 s64 := by rw [e_s64]; exact h_σ.putA rfl
  refine bdF fun v67 _ => ?_
  refine bdF fun v71 _ => ?_
  refine bdF fun s72 e_s72 => ?_
  have h_s72 : Fr [(17, 17)] [(46, 47)] σ0 s72 := by rw [e_s72]; exact h_s64.putI rfl
  exact fb_fX4_numberHeaps_0b75 hK16 h_s72
theorem fb_fX4_numberHeaps_0b44 {σ0 : ST} {K16 : Int32 → Int32 → ST → ST} (hK16 : ∀ (q0 : Int32) (q1 : Int32) (τ : ST), Fr [(17, 17)] [(46, 47)] σ0 τ → Fr [(17, 17)] [(46, 47)] σ0 (K16 q0 q1 τ)) {l1 : Int32} {l2 : Int32} {l3 : Int32} {σ : ST} (h_σ : Fr [(17, 17)] [(46, 47)] σ0 σ) : Fr [(17, 17)] [(46, 47)] σ0 (fX4_numberHeaps_0b44 K16 l1 l2 l3 σ) := by
  unfold fX4_numberHeaps_0b44
  refine bdF fun v49 _ => ?_
  exact iteF (fb_fX4_numberHeaps_0b55 hK16 h_σ) (fb_fX4_numberHeaps_0b75 hK16 h_σ)
theorem fb_fX4_numberHeaps_0b38 {σ0 : ST} {K16 : Int32 → Int32 → ST → ST} (hK16 : ∀ (q0 : Int32) (q1 : Int32) (τ : ST), Fr [(17, 17)] [(46, 47)] σ0 τ → Fr [(17, 17)] [(46, 47)] σ0 (K16 q0 q1 τ)) {l1 : Int32} {l2 : Int32} {l3 : Int32} {σ : ST} (h_σ : Fr [(17, 17)] [(46, 47)] σ0 σ) : Fr [(17, 17)] [(46, 47)] σ0 (fX4_numberHeaps_0b38 K16 l1 l2 l3 σ) := by
  unfold fX4_numberHeaps_0b38
  exact iteF (fb_fX4_numberHeaps_0b75 hK16 h_σ) (fb_fX4_numberHeaps_0b44 hK16 h_σ)
theorem fb_fX4_numberHeaps_0b27 {σ0 : ST} {K16 : Int32 → Int32 → ST → ST} (hK16 : ∀ (q0 : Int32) (q1 : Int32) (τ : ST), Fr [(17, 17)] [(46, 47)] σ0 τ → Fr [(17, 17)] [(46, 47)] σ0 (K16 q0 q1 τ)) {l1 : Int32} {l2 : Int32} {σ : ST} (h_σ : Fr [(17, 17)] [(46, 47)] σ0 σ) : Fr [(17, 17)] [(46, 47)] σ0 (fX4_numberHeaps_0b27 K16 l1 l2 σ) := by
  unfold fX4_numberHeaps_0b27
  refine bdF fun v32 _ => ?_
  exact iteF (fb_fX4_numberHeaps_0b75 hK16 h_σ) (fb_fX4_numberHeaps_0b38 hK16 h_σ)
theorem fb_fX4_numberHeaps_0b21 {σ0 : ST} {K16 : Int32 → Int32 → ST → ST} (hK16 : ∀ (q0 : Int32) (q1 : Int32) (τ : ST), Fr [(17, 17)] [(46, 47)] σ0 τ → Fr [(17, 17)] [(46, 47)] σ0 (K16 q0 q1 τ)) {l1 : Int32} {l2 : Int32} {σ : ST} (h_σ : Fr [(17, 17)] [(46, 47)] σ0 σ) : Fr [(17, 17)] [(46, 47)] σ0 (fX4_numberHeaps_0b21 K16 l1 l2 σ) := by
  unfold fX4_numberHeaps_0b21
  exact iteF (fb_fX4_numberHeaps_0b107  h_σ) (fb_fX4_numberHeaps_0b27 hK16 h_σ)
theorem fb_fX4_numberHeaps_0b16 {σ0 : ST} {K16 : Int32 → Int32 → ST → ST} (hK16 : ∀ (q0 : Int32) (q1 : Int32) (τ : ST), Fr [(17, 17)] [(46, 47)] σ0 τ → Fr [(17, 17)] [(46, 47)] σ0 (K16 q0 q1 τ)) {l1 : Int32} {l2 : Int32} {σ : ST} (h_σ : Fr [(17, 17)] [(46, 47)] σ0 σ) : Fr [(17, 17)] [(46, 47)] σ0 (fX4_numberHeaps_0b16 K16 l1 l2 σ) := by
  unfold fX4_numberHeaps_0b16
  exact iteF (fb_fX4_numberHeaps_0b107  h_σ) (fb_fX4_numberHeaps_0b21 hK16 h_σ)
theorem fb_fX4_numberHeaps_0l16 {σ0 : ST}  : ∀ (fu : Nat) {q0 : Int32} {q1 : Int32} {τ : ST} (h : Fr [(17, 17)] [(46, 47)] σ0 τ), Fr [(17, 17)] [(46, 47)] σ0 (fX4_numberHeaps_0l16 fu q0 q1 τ)
  | 0, _, _, _, h => h
  | fu + 1, _, _, _, h => fb_fX4_numberHeaps_0b16 (fun _ _ _ q => fb_fX4_numberHeaps_0l16  fu q) h
theorem fb_fX4_numberHeaps_0b0 {σ0 : ST}  {l1 : Int32} {σ : ST} (h_σ : Fr [(17, 17)] [(46, 47)] σ0 σ) : Fr [(17, 17)] [(46, 47)] σ0 (fX4_numberHeaps_0b0 l1 σ) := by
  unfold fX4_numberHeaps_0b0
  refine bdF fun s6 e_s6 => ?_
  have h_s6 : Fr [(17, 17)] [(46, 47)] σ0 s6 := by rw [e_s6]; exact h_σ.putA rfl
  refine bdF fun s11 e_s11 => ?_
  have h_s11 : Fr [(17, 17)] [(46, 47)] σ0 s11 := by rw [e_s11]; exact h_s6.putI rfl
  exact fb_fX4_numberHeaps_0l16  _ h_s11
theorem fr_fX4_numberHeaps_0 {p1 : Int32} {σ : ST} : Fr [(17, 17)] [(46, 47)] σ (fX4_numberHeaps_0 p1 σ) := fb_fX4_numberHeaps_0b0 (Fr.refl σ)
theorem fb_fX0_findNear_0b0 {σ0 : ST}  {l2 : Int32} {σ : ST} (h_σ : Fr [(10, 16)] [(41, 41), (44, 45)] σ0 σ) : Fr [(10, 16)] [(41, 41), (44, 45)] σ0 (fX0_findNear_0b0 l2 σ) := by
  unfold fX0_findNear_0b0
  refine bdF fun s2 e_s2 => ?_
  have h_s2 : Fr [(10, 16)] [(41, 41), (44, 45)] σ0 s2 := by rw [e_s2]; exact h_σ.putI rfl
  refine bdF fun v10 _ => ?_
  refine bdF fun v14 _ => ?_
  refine bdF fun s15 e_s15 => ?_
  have h_s15 : Fr [(10, 16)] [(41, 41), (44, 45)] σ0 s15 := by rw [e_s15]; exact h_s2.putI rfl
  refine bdF fun s20 e_s20 => ?_
  have h_s20 : Fr [(10, 16)] [(41, 41), (44, 45)] σ0 s20 := by rw [e_s20]; exact h_s15.putI rfl
  refine bdF fun s26 e_s26 => ?_
  have h_s26 : Fr [(10, 16)] [(41, 41), (44, 45)] σ0 s26 := by rw [e_s26]; exact h_s20.putI rfl
  refine bdF fun s31 e_s31 => ?_
  have h_s31 : Fr [(10, 16)] [(41, 41), (44, 45)] σ0 s31 := by rw [e_s31]; exact h_s26.putI rfl
  refine bdF fun s38 e_s38 => ?_
  have h_s38 : Fr [(10, 16)] [(41, 41), (44, 45)] σ0 s38 := by rw [e_s38]; exact ⟨h_s31.1, h_s31.2⟩
  refine bdF fun s43 e_s43 => ?_
  have h_s43 : Fr [(10, 16)] [(41, 41), (44, 45)] σ0 s43 := by rw [e_s43]; exact ⟨h_s38.1, h_s38.2⟩
  refine bdF fun s51 e_s51 => ?_
  have h_s51 : Fr [(10, 16)] [(41, 41), (44, 45)] σ0 s51 := by rw [e_s51]; exact h_s43.putA rfl
  refine bdF fun s60 e_s60 => ?_
  have h_s60 : Fr [(10, 16)] [(41, 41), (44, 45)] σ0 s60 := by rw [e_s60]; exact h_s51.call fr_fX0_deal_0 rfl rfl
  exact h_s60
theorem fr_fX0_findNear_0 {p2 : Int32} {σ : ST} : Fr [(10, 16)] [(41, 41), (44, 45)] σ (fX0_findNear_0 p2 σ) := fb_fX0_findNear_0b0 (Fr.refl σ)
theorem fb_fX11_nearNow_0b31 {σ0 : ST}  {σ : ST} (h_σ : Fr [(10, 16), (24, 24)] [(41, 41), (44, 45)] σ0 σ) : Fr [(10, 16), (24, 24)] [(41, 41), (44, 45)] σ0 (fX11_nearNow_0b31 σ) := by
  unfold fX11_nearNow_0b31
  exact h_σ
theorem fb_fX11_nearNow_0b7 {σ0 : ST}  {σ : ST} (h_σ : Fr [(10, 16), (24, 24)] [(41, 41), (44, 45)] σ0 σ) : Fr [(10, 16), (24, 24)] [(41, 41), (44, 45)] σ0 (fX11_nearNow_0b7 σ) := by
  unfold fX11_nearNow_0b7
  refine bdF fun v20 _ => ?_
  refine bdF fun s23 e_s23 => ?_
  have h_s23 : Fr [(10, 16), (24, 24)] [(41, 41), (44, 45)] σ0 s23 := by rw [e_s23]; exact h_σ.call fr_fX0_findNear_0 rfl rfl
  refine bdF fun s28 e_s28 => ?_
  have h_s28 : Fr [(10, 16), (24, 24)] [(41, 41), (44, 45)] σ0 s28 := by rw [e_s28]; exact h_s23.putI rfl
  exact fb_fX11_nearNow_0b31  h_s28
theorem fb_fX11_nearNow_0b0 {σ0 : ST}  {σ : ST} (h_σ : Fr [(10, 16), (24, 24)] [(41, 41), (44, 45)] σ0 σ) : Fr [(10, 16), (24, 24)] [(41, 41), (44, 45)] σ0 (fX11_nearNow_0b0 σ) := by
  unfold fX11_nearNow_0b0
  refine bdF fun v1 _ => ?_
  exact iteF (fb_fX11_nearNow_0b31  h_σ) (fb_fX11_nearNow_0b7  h_σ)
theorem fr_fX11_nearNow_0 {σ : ST} : Fr [(10, 16), (24, 24)] [(41, 41), (44, 45)] σ (fX11_nearNow_0 σ) := fb_fX11_nearNow_0b0 (Fr.refl σ)
theorem fb_fX5_add_0b60 {σ0 : ST}  {l4 : Int32} {σ : ST} (h_σ : Fr [(19, 19)] [(49, 50)] σ0 σ) : FrP [(19, 19)] [(49, 50)] σ0 (fX5_add_0b60 l4 σ) := by
  unfold fX5_add_0b60
  refine bdF2 fun v62 _ => ?_
  refine bdF2 fun v66 _ => ?_
  refine bdF2 fun s67 e_s67 => ?_
  have h_s67 : Fr [(19, 19)] [(49, 50)] σ0 s67 := by rw [e_s67]; exact h_σ.putI rfl
  exact h_s67
theorem fb_fX5_add_0b35 {σ0 : ST} {K29 : Int32 → Int32 → Int32 → ST → (Int32 × ST)} (hK29 : ∀ (q0 : Int32) (q1 : Int32) (q2 : Int32) (τ : ST), Fr [(19, 19)] [(49, 50)] σ0 τ → FrP [(19, 19)] [(49, 50)] σ0 (K29 q0 q1 q2 τ)) {l2 : Int32} {l4 : Int32} {l5 : Int32} {σ : ST} (h_σ : Fr [(19, 19)] [(49, 50)] σ0 σ) : FrP [(19, 19)] [(49, 50)] σ0 (fX5_add_0b35 K29 l2 l4 l5 σ) := by
  unfold fX5_add_0b35
  refine bdF2 fun v42 _ => ?_
  refine bdF2 fun v45 _ => ?_
  refine bdF2 fun v50 _ => ?_
  refine bdF2 fun s53 e_s53 => ?_
  have h_s53 : Fr [(19, 19)] [(49, 50)] σ0 s53 := by rw [e_s53]; exact h_σ.putA rfl
  refine bdF2 fun v54 _ => ?_
  exact hK29 _ _ _ _ h_s53
theorem fb_fX5_add_0b29 {σ0 : ST} {K29 : Int32 → Int32 → Int32 → ST → (Int32 × ST)} (hK29 : ∀ (q0 : Int32) (q1 : Int32) (q2 : Int32) (τ : ST), Fr [(19, 19)] [(49, 50)] σ0 τ → FrP [(19, 19)] [(49, 50)] σ0 (K29 q0 q1 q2 τ)) {l2 : Int32} {l4 : Int32} {l5 : Int32} {σ : ST} (h_σ : Fr [(19, 19)] [(49, 50)] σ0 σ) : FrP [(19, 19)] [(49, 50)] σ0 (fX5_add_0b29 K29 l2 l4 l5 σ) := by
  unfold fX5_add_0b29
  exact iteF2 (fb_fX5_add_0b60  h_σ) (fb_fX5_add_0b35 hK29 h_σ)
theorem fb_fX5_add_0l29 {σ0 : ST}  : ∀ (fu : Nat) {q0 : Int32} {q1 : Int32} {q2 : Int32} {τ : ST} (h : Fr [(19, 19)] [(49, 50)] σ0 τ), FrP [(19, 19)] [(49, 50)] σ0 (fX5_add_0l29 fu q0 q1 q2 τ)
  | 0, _, _, _, _, h => h
  | fu + 1, _, _, _, _, h => fb_fX5_add_0b29 (fun _ _ _ _ q => fb_fX5_add_0l29  fu q) h
theorem fb_fX5_add_0b12 {σ0 : ST}  {l2 : Int32} {l3 : Int32} {σ : ST} (h_σ : Fr [(19, 19)] [(49, 50)] σ0 σ) : FrP [(19, 19)] [(49, 50)] σ0 (fX5_add_0b12 l2 l3 σ) := by
  unfold fX5_add_0b12
  refine bdF2 fun v13 _ => ?_
  refine bdF2 fun s25 e_s25 => ?_
  have h_s25 : Fr [(19, 19)] [(49, 50)] σ0 s25 := by rw [e_s25]; exact h_σ.putA rfl
  exact fb_fX5_add_0l29  _ h_s25
theorem fb_fX5_add_0b9 {σ0 : ST}  {σ : ST} (h_σ : Fr [(19, 19)] [(49, 50)] σ0 σ) : FrP [(19, 19)] [(49, 50)] σ0 (fX5_add_0b9 σ) := by
  unfold fX5_add_0b9
  exact h_σ
theorem fb_fX5_add_0b0 {σ0 : ST}  {l2 : Int32} {l3 : Int32} {σ : ST} (h_σ : Fr [(19, 19)] [(49, 50)] σ0 σ) : FrP [(19, 19)] [(49, 50)] σ0 (fX5_add_0b0 l2 l3 σ) := by
  unfold fX5_add_0b0
  refine bdF2 fun v1 _ => ?_
  exact iteF2 (fb_fX5_add_0b12  h_σ) (fb_fX5_add_0b9  h_σ)
theorem fr_fX5_add_0 {p2 : Int32} {p3 : Int32} {σ : ST} : Fr [(19, 19)] [(49, 50)] σ (fX5_add_0 p2 p3 σ).2 := fb_fX5_add_0b0 (Fr.refl σ)
theorem fb_fX5_remove_0b88 {σ0 : ST}  {l2 : Int32} {σ : ST} (h_σ : Fr [(19, 19)] [(49, 50)] σ0 σ) : FrP [(19, 19)] [(49, 50)] σ0 (fX5_remove_0b88 l2 σ) := by
  unfold fX5_remove_0b88
  refine bdF2 fun v90 _ => ?_
  refine bdF2 fun v94 _ => ?_
  refine bdF2 fun s95 e_s95 => ?_
  have h_s95 : Fr [(19, 19)] [(49, 50)] σ0 s95 := by rw [e_s95]; exact h_σ.putI rfl
  exact h_s95
theorem fb_fX5_remove_0b82 {σ0 : ST} {K19 : Int32 → Int32 → ST → (Int32 × ST)} (hK19 : ∀ (q0 : Int32) (q1 : Int32) (τ : ST), Fr [(19, 19)] [(49, 50)] σ0 τ → FrP [(19, 19)] [(49, 50)] σ0 (K19 q0 q1 τ)) {l2 : Int32} {l3 : Int32} {σ : ST} (h_σ : Fr [(19, 19)] [(49, 50)] σ0 σ) : FrP [(19, 19)] [(49, 50)] σ0 (fX5_remove_0b82 K19 l2 l3 σ) := by
  unfold fX5_remove_0b82
  refine bdF2 fun v82 _ => ?_
  exact hK19 _ _ _ h_σ
theorem fb_fX5_remove_0b52 {σ0 : ST} {K19 : Int32 → Int32 → ST → (Int32 × ST)} (hK19 : ∀ (q0 : Int32) (q1 : Int32) (τ : ST), Fr [(19, 19)] [(49, 50)] σ0 τ → FrP [(19, 19)] [(49, 50)] σ0 (K19 q0 q1 τ)) {K46 : Int32 → Int32 → Int32 → ST → (Int32 × ST)} (hK46 : ∀ (q0 : Int32) (q1 : Int32) (q2 : Int32) (τ : ST), Fr [(19, 19)] [(49, 50)] σ0 τ → FrP [(19, 19)] [(49, 50)] σ0 (K46 q0 q1 q2 τ)) {l2 : Int32} {l3 : Int32} {l4 : Int32} {σ : ST} (h_σ : Fr [(19, 19)] [(49, 50)] σ0 σ) : FrP [(19, 19)] [(49, 50)] σ0 (fX5_remove_0b52 K19 K46 l2 l3 l4 σ) := by
  unfold fX5_remove_0b52
  refine bdF2 fun v58 _ => ?_
  refine bdF2 fun v61 _ => ?_
  refine bdF2 fun v68 _ => ?_
  refine bdF2 fun v70 _ => ?_
  refine bdF2 fun v73 _ => ?_
  refine bdF2 fun v74 _ => ?_
  refine bdF2 fun s75 e_s75 => ?_
  have h_s75 : Fr [(19, 19)] [(49, 50)] σ0 s75 := by rw [e_s75]; exact h_σ.putA rfl
  refine bdF2 fun v76 _ => ?_
  exact hK46 _ _ _ _ h_s75
theorem fb_fX5_remove_0b46 {σ0 : ST} {K19 : Int32 → Int32 → ST → (Int32 × ST)} (hK19 : ∀ (q0 : Int32) (q1 : Int32) (τ : ST), Fr [(19, 19)] [(49, 50)] σ0 τ → FrP [(19, 19)] [(49, 50)] σ0 (K19 q0 q1 τ)) {K46 : Int32 → Int32 → Int32 → ST → (Int32 × ST)} (hK46 : ∀ (q0 : Int32) (q1 : Int32) (q2 : Int32) (τ : ST), Fr [(19, 19)] [(49, 50)] σ0 τ → FrP [(19, 19)] [(49, 50)] σ0 (K46 q0 q1 q2 τ)) {l2 : Int32} {l3 : Int32} {l4 : Int32} {σ : ST} (h_σ : Fr [(19, 19)] [(49, 50)] σ0 σ) : FrP [(19, 19)] [(49, 50)] σ0 (fX5_remove_0b46 K19 K46 l2 l3 l4 σ) := by
  unfold fX5_remove_0b46
  exact iteF2 (fb_fX5_remove_0b82 hK19 h_σ) (fb_fX5_remove_0b52 hK19 hK46 h_σ)
theorem fb_fX5_remove_0l46 {σ0 : ST} {K19 : Int32 → Int32 → ST → (Int32 × ST)} (hK19 : ∀ (q0 : Int32) (q1 : Int32) (τ : ST), Fr [(19, 19)] [(49, 50)] σ0 τ → FrP [(19, 19)] [(49, 50)] σ0 (K19 q0 q1 τ)) : ∀ (fu : Nat) {q0 : Int32} {q1 : Int32} {q2 : Int32} {τ : ST} (h : Fr [(19, 19)] [(49, 50)] σ0 τ), FrP [(19, 19)] [(49, 50)] σ0 (fX5_remove_0l46 K19 fu q0 q1 q2 τ)
  | 0, _, _, _, _, h => h
  | fu + 1, _, _, _, _, h => fb_fX5_remove_0b46 hK19 (fun _ _ _ _ q => fb_fX5_remove_0l46 hK19 fu q) h
theorem fb_fX5_remove_0b29 {σ0 : ST} {K19 : Int32 → Int32 → ST → (Int32 × ST)} (hK19 : ∀ (q0 : Int32) (q1 : Int32) (τ : ST), Fr [(19, 19)] [(49, 50)] σ0 τ → FrP [(19, 19)] [(49, 50)] σ0 (K19 q0 q1 τ)) {l2 : Int32} {l3 : Int32} {σ : ST} (h_σ : Fr [(19, 19)] [(49, 50)] σ0 σ) : FrP [(19, 19)] [(49, 50)] σ0 (fX5_remove_0b29 K19 l2 l3 σ) := by
  unfold fX5_remove_0b29
  refine bdF2 fun v40 _ => ?_
  refine bdF2 fun v41 _ => ?_
  refine bdF2 fun s42 e_s42 => ?_
  have h_s42 : Fr [(19, 19)] [(49, 50)] σ0 s42 := by rw [e_s42]; exact h_σ.putA rfl
  exact fb_fX5_remove_0l46 hK19 _ h_s42
theorem fb_fX5_remove_0b19 {σ0 : ST} {K19 : Int32 → Int32 → ST → (Int32 × ST)} (hK19 : ∀ (q0 : Int32) (q1 : Int32) (τ : ST), Fr [(19, 19)] [(49, 50)] σ0 τ → FrP [(19, 19)] [(49, 50)] σ0 (K19 q0 q1 τ)) {l2 : Int32} {l3 : Int32} {σ : ST} (h_σ : Fr [(19, 19)] [(49, 50)] σ0 σ) : FrP [(19, 19)] [(49, 50)] σ0 (fX5_remove_0b19 K19 l2 l3 σ) := by
  unfold fX5_remove_0b19
  refine bdF2 fun v21 _ => ?_
  refine bdF2 fun v25 _ => ?_
  exact iteF2 (fb_fX5_remove_0b88  h_σ) (fb_fX5_remove_0b29 hK19 h_σ)
theorem fb_fX5_remove_0l19 {σ0 : ST}  : ∀ (fu : Nat) {q0 : Int32} {q1 : Int32} {τ : ST} (h : Fr [(19, 19)] [(49, 50)] σ0 τ), FrP [(19, 19)] [(49, 50)] σ0 (fX5_remove_0l19 fu q0 q1 τ)
  | 0, _, _, _, h => h
  | fu + 1, _, _, _, h => fb_fX5_remove_0b19 (fun _ _ _ q => fb_fX5_remove_0l19  fu q) h
theorem fb_fX5_remove_0b10 {σ0 : ST}  {l1 : Int32} {σ : ST} (h_σ : Fr [(19, 19)] [(49, 50)] σ0 σ) : FrP [(19, 19)] [(49, 50)] σ0 (fX5_remove_0b10 l1 σ) := by
  unfold fX5_remove_0b10
  refine bdF2 fun v15 _ => ?_
  exact fb_fX5_remove_0l19  _ h_σ
theorem fb_fX5_remove_0b8 {σ0 : ST}  {σ : ST} (h_σ : Fr [(19, 19)] [(49, 50)] σ0 σ) : FrP [(19, 19)] [(49, 50)] σ0 (fX5_remove_0b8 σ) := by
  unfold fX5_remove_0b8
  exact h_σ
theorem fb_fX5_remove_0b0 {σ0 : ST}  {l1 : Int32} {σ : ST} (h_σ : Fr [(19, 19)] [(49, 50)] σ0 σ) : FrP [(19, 19)] [(49, 50)] σ0 (fX5_remove_0b0 l1 σ) := by
  unfold fX5_remove_0b0
  refine bdF2 fun v2 _ => ?_
  exact iteF2 (fb_fX5_remove_0b8  h_σ) (fb_fX5_remove_0b10  h_σ)
theorem fr_fX5_remove_0 {p1 : Int32} {σ : ST} : Fr [(19, 19)] [(49, 50)] σ (fX5_remove_0 p1 σ).2 := fb_fX5_remove_0b0 (Fr.refl σ)
theorem fb_fX11_forget_0b23 {σ0 : ST}  {t0 : Int32} {σ : ST} (h_σ : Fr [(19, 19)] [(49, 50)] σ0 σ) : FrP [(19, 19)] [(49, 50)] σ0 (fX11_forget_0b23 t0 σ) := by
  unfold fX11_forget_0b23
  exact h_σ
theorem fb_fX11_forget_0b22 {σ0 : ST}  {σ : ST} (h_σ : Fr [(19, 19)] [(49, 50)] σ0 σ) : FrP [(19, 19)] [(49, 50)] σ0 (fX11_forget_0b22 σ) := by
  unfold fX11_forget_0b22
  exact fb_fX11_forget_0b23  h_σ
theorem fb_fX11_forget_0b11 {σ0 : ST}  {l1 : Int32} {σ : ST} (h_σ : Fr [(19, 19)] [(49, 50)] σ0 σ) : FrP [(19, 19)] [(49, 50)] σ0 (fX11_forget_0b11 l1 σ) := by
  unfold fX11_forget_0b11
  refine bpF2 fun v16 s16 e_s16 => ?_
  have h_s16 : Fr [(19, 19)] [(49, 50)] σ0 s16 := by rw [← e_s16]; exact h_σ.call fr_fX5_remove_0 rfl rfl
  exact fb_fX11_forget_0b23  h_s16
theorem fb_fX11_forget_0b0 {σ0 : ST}  {l1 : Int32} {σ : ST} (h_σ : Fr [(19, 19)] [(49, 50)] σ0 σ) : FrP [(19, 19)] [(49, 50)] σ0 (fX11_forget_0b0 l1 σ) := by
  unfold fX11_forget_0b0
  refine bdF2 fun v5 _ => ?_
  exact iteF2 (fb_fX11_forget_0b22  h_σ) (fb_fX11_forget_0b11  h_σ)
theorem fr_fX11_forget_0 {p1 : Int32} {σ : ST} : Fr [(19, 19)] [(49, 50)] σ (fX11_forget_0 p1 σ).2 := fb_fX11_forget_0b0 (Fr.refl σ)
theorem fb_fX5_fillOffs_0b84 {σ0 : ST}  {σ : ST} (h_σ : Fr [] [(51, 51)] σ0 σ) : Fr [] [(51, 51)] σ0 (fX5_fillOffs_0b84 σ) := by
  unfold fX5_fillOffs_0b84
  exact h_σ
theorem fb_fX5_fillOffs_0b78 {σ0 : ST} {K10 : Int32 → Int32 → Int32 → ST → ST} (hK10 : ∀ (q0 : Int32) (q1 : Int32) (q2 : Int32) (τ : ST), Fr [] [(51, 51)] σ0 τ → Fr [] [(51, 51)] σ0 (K10 q0 q1 q2 τ)) {l2 : Int32} {l3 : Int32} {l4 : Int32} {σ : ST} (h_σ : Fr [] [(51, 51)] σ0 σ) : Fr [] [(51, 51)] σ0 (fX5_fillOffs_0b78 K10 l2 l3 l4 σ) := by
  unfold fX5_fillOffs_0b78
  refine bdF fun v78 _ => ?_
  exact hK10 _ _ _ _ h_σ
theorem fb_fX5_fillOffs_0b52 {σ0 : ST} {K10 : Int32 → Int32 → Int32 → ST → ST} (hK10 : ∀ (q0 : Int32) (q1 : Int32) (q2 : Int32) (τ : ST), Fr [] [(51, 51)] σ0 τ → Fr [] [(51, 51)] σ0 (K10 q0 q1 q2 τ)) {K45 : Int32 → Int32 → Int32 → Int32 → Int32 → Int32 → ST → ST} (hK45 : ∀ (q0 : Int32) (q1 : Int32) (q2 : Int32) (q3 : Int32) (q4 : Int32) (q5 : Int32) (τ : ST), Fr [] [(51, 51)] σ0 τ → Fr [] [(51, 51)] σ0 (K45 q0 q1 q2 q3 q4 q5 τ)) {l2 : Int32} {l3 : Int32} {l4 : Int32} {l5 : Int32} {l6 : Int32} {l7 : Int32} {σ : ST} (h_σ : Fr [] [(51, 51)] σ0 σ) : Fr [] [(51, 51)] σ0 (fX5_fillOffs_0b52 K10 K45 l2 l3 l4 l5 l6 l7 σ) := by
  unfold fX5_fillOffs_0b52
  refine bdF fun v60 _ => ?_
  refine bdF fun v67 _ => ?_
  refine bdF fun v70 _ => ?_
  refine bdF fun s71 e_s71 => ?_
  have h_s71 : Fr [] [(51, 51)] σ0 s71 := by rw [e_s71]; exact h_σ.putA rfl
  refine bdF fun v72 _ => ?_
  exact hK45 _ _ _ _ _ _ _ h_s71
theorem fb_fX5_fillOffs_0b45 {σ0 : ST} {K10 : Int32 → Int32 → Int32 → ST → ST} (hK10 : ∀ (q0 : Int32) (q1 : Int32) (q2 : Int32) (τ : ST), Fr [] [(51, 51)] σ0 τ → Fr [] [(51, 51)] σ0 (K10 q0 q1 q2 τ)) {K45 : Int32 → Int32 → Int32 → Int32 → Int32 → Int32 → ST → ST} (hK45 : ∀ (q0 : Int32) (q1 : Int32) (q2 : Int32) (q3 : Int32) (q4 : Int32) (q5 : Int32) (τ : ST), Fr [] [(51, 51)] σ0 τ → Fr [] [(51, 51)] σ0 (K45 q0 q1 q2 q3 q4 q5 τ)) {l2 : Int32} {l3 : Int32} {l4 : Int32} {l5 : Int32} {l6 : Int32} {l7 : Int32} {σ : ST} (h_σ : Fr [] [(51, 51)] σ0 σ) : Fr [] [(51, 51)] σ0 (fX5_fillOffs_0b45 K10 K45 l2 l3 l4 l5 l6 l7 σ) := by
  unfold fX5_fillOffs_0b45
  exact iteF (fb_fX5_fillOffs_0b78 hK10 h_σ) (fb_fX5_fillOffs_0b52 hK10 hK45 h_σ)
theorem fb_fX5_fillOffs_0l45 {σ0 : ST} {K10 : Int32 → Int32 → Int32 → ST → ST} (hK10 : ∀ (q0 : Int32) (q1 : Int32) (q2 : Int32) (τ : ST), Fr [] [(51, 51)] σ0 τ → Fr [] [(51, 51)] σ0 (K10 q0 q1 q2 τ)) : ∀ (fu : Nat) {q0 : Int32} {q1 : Int32} {q2 : Int32} {q3 : Int32} {q4 : Int32} {q5 : Int32} {τ : ST} (h : Fr [] [(51, 51)] σ0 τ), Fr [] [(51, 51)] σ0 (fX5_fillOffs_0l45 K10 fu q0 q1 q2 q3 q4 q5 τ)
  | 0, _, _, _, _, _, _, _, h => h
  | fu + 1, _, _, _, _, _, _, _, h => fb_fX5_fillOffs_0b45 hK10 (fun _ _ _ _ _ _ _ q => fb_fX5_fillOffs_0l45 hK10 fu q) h
theorem fb_fX5_fillOffs_0b16 {σ0 : ST} {K10 : Int32 → Int32 → Int32 → ST → ST} (hK10 : ∀ (q0 : Int32) (q1 : Int32) (q2 : Int32) (τ : ST), Fr [] [(51, 51)] σ0 τ → Fr [] [(51, 51)] σ0 (K10 q0 q1 q2 τ)) {l2 : Int32} {l3 : Int32} {l4 : Int32} {σ : ST} (h_σ : Fr [] [(51, 51)] σ0 σ) : Fr [] [(51, 51)] σ0 (fX5_fillOffs_0b16 K10 l2 l3 l4 σ) := by
  unfold fX5_fillOffs_0b16
  refine bdF fun v23 _ => ?_
  refine bdF fun v30 _ => ?_
  refine bdF fun v31 _ => ?_
  refine bdF fun v39 _ => ?_
  exact fb_fX5_fillOffs_0l45 hK10 _ h_σ
theorem fb_fX5_fillOffs_0b10 {σ0 : ST} {K10 : Int32 → Int32 → Int32 → ST → ST} (hK10 : ∀ (q0 : Int32) (q1 : Int32) (q2 : Int32) (τ : ST), Fr [] [(51, 51)] σ0 τ → Fr [] [(51, 51)] σ0 (K10 q0 q1 q2 τ)) {l2 : Int32} {l3 : Int32} {l4 : Int32} {σ : ST} (h_σ : Fr [] [(51, 51)] σ0 σ) : Fr [] [(51, 51)] σ0 (fX5_fillOffs_0b10 K10 l2 l3 l4 σ) := by
  unfold fX5_fillOffs_0b10
  exact iteF (fb_fX5_fillOffs_0b84  h_σ) (fb_fX5_fillOffs_0b16 hK10 h_σ)
theorem fb_fX5_fillOffs_0l10 {σ0 : ST}  : ∀ (fu : Nat) {q0 : Int32} {q1 : Int32} {q2 : Int32} {τ : ST} (h : Fr [] [(51, 51)] σ0 τ), Fr [] [(51, 51)] σ0 (fX5_fillOffs_0l10 fu q0 q1 q2 τ)
  | 0, _, _, _, _, h => h
  | fu + 1, _, _, _, _, h => fb_fX5_fillOffs_0b10 (fun _ _ _ _ q => fb_fX5_fillOffs_0l10  fu q) h
theorem fb_fX5_fillOffs_0b0 {σ0 : ST}  {l2 : Int32} {l3 : Int32} {σ : ST} (h_σ : Fr [] [(51, 51)] σ0 σ) : Fr [] [(51, 51)] σ0 (fX5_fillOffs_0b0 l2 l3 σ) := by
  unfold fX5_fillOffs_0b0
  refine bdF fun s6 e_s6 => ?_
  have h_s6 : Fr [] [(51, 51)] σ0 s6 := by rw [e_s6]; exact h_σ.putA rfl
  exact fb_fX5_fillOffs_0l10  _ h_s6
theorem fr_fX5_fillOffs_0 {p2 : Int32} {p3 : Int32} {σ : ST} : Fr [] [(51, 51)] σ (fX5_fillOffs_0 p2 p3 σ) := fb_fX5_fillOffs_0b0 (Fr.refl σ)
theorem fb_fX5_dealsOf_0b31 {σ0 : ST}  {σ : ST} (h_σ : Fr [] [(51, 51)] σ0 σ) : FrP [] [(51, 51)] σ0 (fX5_dealsOf_0b31 σ) := by
  unfold fX5_dealsOf_0b31
  exact h_σ
theorem fb_fX5_dealsOf_0b94 {σ0 : ST}  {l7 : Int32} {σ : ST} (h_σ : Fr [] [(51, 51)] σ0 σ) : FrP [] [(51, 51)] σ0 (fX5_dealsOf_0b94 l7 σ) := by
  unfold fX5_dealsOf_0b94
  exact h_σ
theorem fb_fX5_dealsOf_0b88 {σ0 : ST} {K45 : Int32 → Int32 → Int32 → Int32 → Int32 → Int32 → ST → (Int32 × ST)} (hK45 : ∀ (q0 : Int32) (q1 : Int32) (q2 : Int32) (q3 : Int32) (q4 : Int32) (q5 : Int32) (τ : ST), Fr [] [(51, 51)] σ0 τ → FrP [] [(51, 51)] σ0 (K45 q0 q1 q2 q3 q4 q5 τ)) {l2 : Int32} {l4 : Int32} {l5 : Int32} {l6 : Int32} {l7 : Int32} {l8 : Int32} {σ : ST} (h_σ : Fr [] [(51, 51)] σ0 σ) : FrP [] [(51, 51)] σ0 (fX5_dealsOf_0b88 K45 l2 l4 l5 l6 l7 l8 σ) := by
  unfold fX5_dealsOf_0b88
  refine bdF2 fun v88 _ => ?_
  exact hK45 _ _ _ _ _ _ _ h_σ
theorem fb_fX5_dealsOf_0b85 {σ0 : ST} {K45 : Int32 → Int32 → Int32 → Int32 → Int32 → Int32 → ST → (Int32 × ST)} (hK45 : ∀ (q0 : Int32) (q1 : Int32) (q2 : Int32) (q3 : Int32) (q4 : Int32) (q5 : Int32) (τ : ST), Fr [] [(51, 51)] σ0 τ → FrP [] [(51, 51)] σ0 (K45 q0 q1 q2 q3 q4 q5 τ)) {l2 : Int32} {l4 : Int32} {l5 : Int32} {l6 : Int32} {l7 : Int32} {l8 : Int32} {σ : ST} (h_σ : Fr [] [(51, 51)] σ0 σ) : FrP [] [(51, 51)] σ0 (fX5_dealsOf_0b85 K45 l2 l4 l5 l6 l7 l8 σ) := by
  unfold fX5_dealsOf_0b85
  refine bdF2 fun v85 _ => ?_
  exact fb_fX5_dealsOf_0b88 hK45 h_σ
theorem fb_fX5_dealsOf_0b69 {σ0 : ST} {K45 : Int32 → Int32 → Int32 → Int32 → Int32 → Int32 → ST → (Int32 × ST)} (hK45 : ∀ (q0 : Int32) (q1 : Int32) (q2 : Int32) (q3 : Int32) (q4 : Int32) (q5 : Int32) (τ : ST), Fr [] [(51, 51)] σ0 τ → FrP [] [(51, 51)] σ0 (K45 q0 q1 q2 q3 q4 q5 τ)) {l2 : Int32} {l4 : Int32} {l5 : Int32} {l6 : Int32} {l7 : Int32} {l8 : Int32} {σ : ST} (h_σ : Fr [] [(51, 51)] σ0 σ) : FrP [] [(51, 51)] σ0 (fX5_dealsOf_0b69 K45 l2 l4 l5 l6 l7 l8 σ) := by
  unfold fX5_dealsOf_0b69
  refine bdF2 fun v75 _ => ?_
  refine bdF2 fun v81 _ => ?_
  exact iteF2 (fb_fX5_dealsOf_0b88 hK45 h_σ) (fb_fX5_dealsOf_0b85 hK45 h_σ)
theorem fb_fX5_dealsOf_0b64 {σ0 : ST} {K45 : Int32 → Int32 → Int32 → Int32 → Int32 → Int32 → ST → (Int32 × ST)} (hK45 : ∀ (q0 : Int32) (q1 : Int32) (q2 : Int32) (q3 : Int32) (q4 : Int32) (q5 : Int32) (τ : ST), Fr [] [(51, 51)] σ0 τ → FrP [] [(51, 51)] σ0 (K45 q0 q1 q2 q3 q4 q5 τ)) {l2 : Int32} {l4 : Int32} {l5 : Int32} {l6 : Int32} {l7 : Int32} {l8 : Int32} {σ : ST} (h_σ : Fr [] [(51, 51)] σ0 σ) : FrP [] [(51, 51)] σ0 (fX5_dealsOf_0b64 K45 l2 l4 l5 l6 l7 l8 σ) := by
  unfold fX5_dealsOf_0b64
  exact iteF2 (fb_fX5_dealsOf_0b69 hK45 h_σ) (fb_fX5_dealsOf_0b85 hK45 h_σ)
theorem fb_fX5_dealsOf_0b54 {σ0 : ST} {K45 : Int32 → Int32 → Int32 → Int32 → Int32 → Int32 → ST → (Int32 × ST)} (hK45 : ∀ (q0 : Int32) (q1 : Int32) (q2 : Int32) (q3 : Int32) (q4 : Int32) (q5 : Int32) (τ : ST), Fr [] [(51, 51)] σ0 τ → FrP [] [(51, 51)] σ0 (K45 q0 q1 q2 q3 q4 q5 τ)) {l2 : Int32} {l4 : Int32} {l5 : Int32} {l6 : Int32} {l7 : Int32} {l8 : Int32} {σ : ST} (h_σ : Fr [] [(51, 51)] σ0 σ) : FrP [] [(51, 51)] σ0 (fX5_dealsOf_0b54 K45 l2 l4 l5 l6 l7 l8 σ) := by
  unfold fX5_dealsOf_0b54
  refine bdF2 fun v56 _ => ?_
  exact iteF2 (fb_fX5_dealsOf_0b64 hK45 h_σ) (fb_fX5_dealsOf_0b88 hK45 h_σ)
theorem fb_fX5_dealsOf_0b45 {σ0 : ST} {K45 : Int32 → Int32 → Int32 → Int32 → Int32 → Int32 → ST → (Int32 × ST)} (hK45 : ∀ (q0 : Int32) (q1 : Int32) (q2 : Int32) (q3 : Int32) (q4 : Int32) (q5 : Int32) (τ : ST), Fr [] [(51, 51)] σ0 τ → FrP [] [(51, 51)] σ0 (K45 q0 q1 q2 q3 q4 q5 τ)) {l2 : Int32} {l4 : Int32} {l5 : Int32} {l6 : Int32} {l7 : Int32} {l8 : Int32} {σ : ST} (h_σ : Fr [] [(51, 51)] σ0 σ) : FrP [] [(51, 51)] σ0 (fX5_dealsOf_0b45 K45 l2 l4 l5 l6 l7 l8 σ) := by
  unfold fX5_dealsOf_0b45
  refine bdF2 fun v50 _ => ?_
  exact iteF2 (fb_fX5_dealsOf_0b94  h_σ) (fb_fX5_dealsOf_0b54 hK45 h_σ)
theorem fb_fX5_dealsOf_0l45 {σ0 : ST}  : ∀ (fu : Nat) {q0 : Int32} {q1 : Int32} {q2 : Int32} {q3 : Int32} {q4 : Int32} {q5 : Int32} {τ : ST} (h : Fr [] [(51, 51)] σ0 τ), FrP [] [(51, 51)] σ0 (fX5_dealsOf_0l45 fu q0 q1 q2 q3 q4 q5 τ)
  | 0, _, _, _, _, _, _, _, h => h
  | fu + 1, _, _, _, _, _, _, _, h => fb_fX5_dealsOf_0b45 (fun _ _ _ _ _ _ _ q => fb_fX5_dealsOf_0l45  fu q) h
theorem fb_fX5_dealsOf_0b33 {σ0 : ST}  {l2 : Int32} {l4 : Int32} {l5 : Int32} {σ : ST} (h_σ : Fr [] [(51, 51)] σ0 σ) : FrP [] [(51, 51)] σ0 (fX5_dealsOf_0b33 l2 l4 l5 σ) := by
  unfold fX5_dealsOf_0b33
  refine bdF2 fun v34 _ => ?_
  exact fb_fX5_dealsOf_0l45  _ h_σ
theorem fb_fX5_dealsOf_0b23 {σ0 : ST}  {l2 : Int32} {l4 : Int32} {l5 : Int32} {σ : ST} (h_σ : Fr [] [(51, 51)] σ0 σ) : FrP [] [(51, 51)] σ0 (fX5_dealsOf_0b23 l2 l4 l5 σ) := by
  unfold fX5_dealsOf_0b23
  refine bdF2 fun v27 _ => ?_
  exact iteF2 (fb_fX5_dealsOf_0b33  h_σ) (fb_fX5_dealsOf_0b31  h_σ)
theorem fb_fX5_dealsOf_0b0 {σ0 : ST}  {l2 : Int32} {l3 : Int32} {l4 : Int32} {σ : ST} (h_σ : Fr [] [(51, 51)] σ0 σ) : FrP [] [(51, 51)] σ0 (fX5_dealsOf_0b0 l2 l3 l4 σ) := by
  unfold fX5_dealsOf_0b0
  refine bdF2 fun v1 _ => ?_
  refine bdF2 fun v6 _ => ?_
  refine bdF2 fun s16 e_s16 => ?_
  have h_s16 : Fr [] [(51, 51)] σ0 s16 := by rw [e_s16]; exact h_σ.call fr_fX5_fillOffs_0 rfl rfl
  exact iteF2 (fb_fX5_dealsOf_0b31  h_s16) (fb_fX5_dealsOf_0b23  h_s16)
theorem fr_fX5_dealsOf_0 {p2 : Int32} {p3 : Int32} {p4 : Int32} {σ : ST} : Fr [] [(51, 51)] σ (fX5_dealsOf_0 p2 p3 p4 σ).2 := fb_fX5_dealsOf_0b0 (Fr.refl σ)
theorem fb_fX10_add_0b12 {σ0 : ST}  {l1 : Int32} {l2 : Int32} {σ : ST} (h_σ : Fr [(20, 20)] [(52, 53)] σ0 σ) : FrP [(20, 20)] [(52, 53)] σ0 (fX10_add_0b12 l1 l2 σ) := by
  unfold fX10_add_0b12
  refine bdF2 fun v17 _ => ?_
  refine bdF2 fun s21 e_s21 => ?_
  have h_s21 : Fr [(20, 20)] [(52, 53)] σ0 s21 := by rw [e_s21]; exact h_σ.putA rfl
  refine bdF2 fun v27 _ => ?_
  refine bdF2 fun s31 e_s31 => ?_
  have h_s31 : Fr [(20, 20)] [(52, 53)] σ0 s31 := by rw [e_s31]; exact h_s21.putA rfl
  refine bdF2 fun v34 _ => ?_
  refine bdF2 fun v38 _ => ?_
  refine bdF2 fun s39 e_s39 => ?_
  have h_s39 : Fr [(20, 20)] [(52, 53)] σ0 s39 := by rw [e_s39]; exact h_s31.putI rfl
  refine bdF2 fun v43 _ => ?_
  refine bdF2 fun v47 _ => ?_
  exact h_s39
theorem fb_fX10_add_0b9 {σ0 : ST}  {σ : ST} (h_σ : Fr [(20, 20)] [(52, 53)] σ0 σ) : FrP [(20, 20)] [(52, 53)] σ0 (fX10_add_0b9 σ) := by
  unfold fX10_add_0b9
  exact h_σ
theorem fb_fX10_add_0b0 {σ0 : ST}  {l1 : Int32} {l2 : Int32} {σ : ST} (h_σ : Fr [(20, 20)] [(52, 53)] σ0 σ) : FrP [(20, 20)] [(52, 53)] σ0 (fX10_add_0b0 l1 l2 σ) := by
  unfold fX10_add_0b0
  refine bdF2 fun v1 _ => ?_
  exact iteF2 (fb_fX10_add_0b12  h_σ) (fb_fX10_add_0b9  h_σ)
theorem fr_fX10_add_0 {p1 : Int32} {p2 : Int32} {σ : ST} : Fr [(20, 20)] [(52, 53)] σ (fX10_add_0 p1 p2 σ).2 := fb_fX10_add_0b0 (Fr.refl σ)
theorem fb_fX11_word_0b22 {σ0 : ST}  {t0 : Int32} {σ : ST} (h_σ : Fr [(20, 20)] [(52, 53)] σ0 σ) : FrP [(20, 20)] [(52, 53)] σ0 (fX11_word_0b22 t0 σ) := by
  unfold fX11_word_0b22
  exact h_σ
theorem fb_fX11_word_0b21 {σ0 : ST}  {σ : ST} (h_σ : Fr [(20, 20)] [(52, 53)] σ0 σ) : FrP [(20, 20)] [(52, 53)] σ0 (fX11_word_0b21 σ) := by
  unfold fX11_word_0b21
  exact fb_fX11_word_0b22  h_σ
theorem fb_fX11_word_0b9 {σ0 : ST}  {l1 : Int32} {l2 : Int32} {σ : ST} (h_σ : Fr [(20, 20)] [(52, 53)] σ0 σ) : FrP [(20, 20)] [(52, 53)] σ0 (fX11_word_0b9 l1 l2 σ) := by
  unfold fX11_word_0b9
  refine bpF2 fun v15 s15 e_s15 => ?_
  have h_s15 : Fr [(20, 20)] [(52, 53)] σ0 s15 := by rw [← e_s15]; exact h_σ.call fr_fX10_add_0 rfl rfl
  exact fb_fX11_word_0b22  h_s15
theorem fb_fX11_word_0b0 {σ0 : ST}  {l1 : Int32} {l2 : Int32} {σ : ST} (h_σ : Fr [(20, 20)] [(52, 53)] σ0 σ) : FrP [(20, 20)] [(52, 53)] σ0 (fX11_word_0b0 l1 l2 σ) := by
  unfold fX11_word_0b0
  refine bdF2 fun v3 _ => ?_
  exact iteF2 (fb_fX11_word_0b21  h_σ) (fb_fX11_word_0b9  h_σ)
theorem fr_fX11_word_0 {p1 : Int32} {p2 : Int32} {σ : ST} : Fr [(20, 20)] [(52, 53)] σ (fX11_word_0 p1 p2 σ).2 := fb_fX11_word_0b0 (Fr.refl σ)
theorem fb_fX7_setTruth_0b53 {σ0 : ST}  {l4 : Int32} {σ : ST} (h_σ : Fr [] [(6, 6)] σ0 σ) : FrP [] [(6, 6)] σ0 (fX7_setTruth_0b53 l4 σ) := by
  unfold fX7_setTruth_0b53
  exact h_σ
theorem fb_fX7_setTruth_0b47 {σ0 : ST} {K10 : Int32 → Int32 → Int32 → Int32 → ST → (Int32 × ST)} (hK10 : ∀ (q0 : Int32) (q1 : Int32) (q2 : Int32) (q3 : Int32) (τ : ST), Fr [] [(6, 6)] σ0 τ → FrP [] [(6, 6)] σ0 (K10 q0 q1 q2 q3 τ)) {l2 : Int32} {l3 : Int32} {l4 : Int32} {l5 : Int32} {σ : ST} (h_σ : Fr [] [(6, 6)] σ0 σ) : FrP [] [(6, 6)] σ0 (fX7_setTruth_0b47 K10 l2 l3 l4 l5 σ) := by
  unfold fX7_setTruth_0b47
  refine bdF2 fun v47 _ => ?_
  exact hK10 _ _ _ _ _ h_σ
theorem fb_fX7_setTruth_0b36 {σ0 : ST} {K10 : Int32 → Int32 → Int32 → Int32 → ST → (Int32 × ST)} (hK10 : ∀ (q0 : Int32) (q1 : Int32) (q2 : Int32) (q3 : Int32) (τ : ST), Fr [] [(6, 6)] σ0 τ → FrP [] [(6, 6)] σ0 (K10 q0 q1 q2 q3 τ)) {l2 : Int32} {l3 : Int32} {l4 : Int32} {l5 : Int32} {σ : ST} (h_σ : Fr [] [(6, 6)] σ0 σ) : FrP [] [(6, 6)] σ0 (fX7_setTruth_0b36 K10 l2 l3 l4 l5 σ) := by
  unfold fX7_setTruth_0b36
  refine bdF2 fun s43 e_s43 => ?_
  have h_s43 : Fr [] [(6, 6)] σ0 s43 := by rw [e_s43]; exact h_σ.putA rfl
  refine bdF2 fun v44 _ => ?_
  exact fb_fX7_setTruth_0b47 hK10 h_s43
theorem fb_fX7_setTruth_0b25 {σ0 : ST} {K10 : Int32 → Int32 → Int32 → Int32 → ST → (Int32 × ST)} (hK10 : ∀ (q0 : Int32) (q1 : Int32) (q2 : Int32) (q3 : Int32) (τ : ST), Fr [] [(6, 6)] σ0 τ → FrP [] [(6, 6)] σ0 (K10 q0 q1 q2 q3 τ)) {l2 : Int32} {l3 : Int32} {l4 : Int32} {l5 : Int32} {σ : ST} (h_σ : Fr [] [(6, 6)] σ0 σ) : FrP [] [(6, 6)] σ0 (fX7_setTruth_0b25 K10 l2 l3 l4 l5 σ) := by
  unfold fX7_setTruth_0b25
  refine bdF2 fun v31 _ => ?_
  exact iteF2 (fb_fX7_setTruth_0b47 hK10 h_σ) (fb_fX7_setTruth_0b36 hK10 h_σ)
theorem fb_fX7_setTruth_0b16 {σ0 : ST} {K10 : Int32 → Int32 → Int32 → Int32 → ST → (Int32 × ST)} (hK10 : ∀ (q0 : Int32) (q1 : Int32) (q2 : Int32) (q3 : Int32) (τ : ST), Fr [] [(6, 6)] σ0 τ → FrP [] [(6, 6)] σ0 (K10 q0 q1 q2 q3 τ)) {l2 : Int32} {l3 : Int32} {l4 : Int32} {l5 : Int32} {σ : ST} (h_σ : Fr [] [(6, 6)] σ0 σ) : FrP [] [(6, 6)] σ0 (fX7_setTruth_0b16 K10 l2 l3 l4 l5 σ) := by
  unfold fX7_setTruth_0b16
  refine bdF2 fun v19 _ => ?_
  exact iteF2 (fb_fX7_setTruth_0b53  h_σ) (fb_fX7_setTruth_0b25 hK10 h_σ)
theorem fb_fX7_setTruth_0b10 {σ0 : ST} {K10 : Int32 → Int32 → Int32 → Int32 → ST → (Int32 × ST)} (hK10 : ∀ (q0 : Int32) (q1 : Int32) (q2 : Int32) (q3 : Int32) (τ : ST), Fr [] [(6, 6)] σ0 τ → FrP [] [(6, 6)] σ0 (K10 q0 q1 q2 q3 τ)) {l2 : Int32} {l3 : Int32} {l4 : Int32} {l5 : Int32} {σ : ST} (h_σ : Fr [] [(6, 6)] σ0 σ) : FrP [] [(6, 6)] σ0 (fX7_setTruth_0b10 K10 l2 l3 l4 l5 σ) := by
  unfold fX7_setTruth_0b10
  exact iteF2 (fb_fX7_setTruth_0b53  h_σ) (fb_fX7_setTruth_0b16 hK10 h_σ)
theorem fb_fX7_setTruth_0l10 {σ0 : ST}  : ∀ (fu : Nat) {q0 : Int32} {q1 : Int32} {q2 : Int32} {q3 : Int32} {τ : ST} (h : Fr [] [(6, 6)] σ0 τ), FrP [] [(6, 6)] σ0 (fX7_setTruth_0l10 fu q0 q1 q2 q3 τ)
  | 0, _, _, _, _, _, h => h
  | fu + 1, _, _, _, _, _, h => fb_fX7_setTruth_0b10 (fun _ _ _ _ _ q => fb_fX7_setTruth_0l10  fu q) h
theorem fb_fX7_setTruth_0b0 {σ0 : ST}  {l1 : Int32} {l2 : Int32} {l3 : Int32} {σ : ST} (h_σ : Fr [] [(6, 6)] σ0 σ) : FrP [] [(6, 6)] σ0 (fX7_setTruth_0b0 l1 l2 l3 σ) := by
  unfold fX7_setTruth_0b0
  refine bdF2 fun v5 _ => ?_
  exact fb_fX7_setTruth_0l10  _ h_σ
theorem fr_fX7_setTruth_0 {p1 : Int32} {p2 : Int32} {p3 : Int32} {σ : ST} : Fr [] [(6, 6)] σ (fX7_setTruth_0 p1 p2 p3 σ).2 := fb_fX7_setTruth_0b0 (Fr.refl σ)
theorem fb_fX11_truth_0b32 {σ0 : ST}  {t0 : Int32} {σ : ST} (h_σ : Fr [] [(6, 6)] σ0 σ) : FrP [] [(6, 6)] σ0 (fX11_truth_0b32 t0 σ) := by
  unfold fX11_truth_0b32
  exact h_σ
theorem fb_fX11_truth_0b31 {σ0 : ST}  {σ : ST} (h_σ : Fr [] [(6, 6)] σ0 σ) : FrP [] [(6, 6)] σ0 (fX11_truth_0b31 σ) := by
  unfold fX11_truth_0b31
  exact fb_fX11_truth_0b32  h_σ
theorem fb_fX11_truth_0b18 {σ0 : ST}  {l1 : Int32} {l2 : Int32} {l3 : Int32} {σ : ST} (h_σ : Fr [] [(6, 6)] σ0 σ) : FrP [] [(6, 6)] σ0 (fX11_truth_0b18 l1 l2 l3 σ) := by
  unfold fX11_truth_0b18
  refine bpF2 fun v25 s25 e_s25 => ?_
  have h_s25 : Fr [] [(6, 6)] σ0 s25 := by rw [← e_s25]; exact h_σ.call fr_fX7_setTruth_0 rfl rfl
  exact fb_fX11_truth_0b32  h_s25
theorem fb_fX11_truth_0b9 {σ0 : ST}  {l1 : Int32} {l2 : Int32} {l3 : Int32} {σ : ST} (h_σ : Fr [] [(6, 6)] σ0 σ) : FrP [] [(6, 6)] σ0 (fX11_truth_0b9 l1 l2 l3 σ) := by
  unfold fX11_truth_0b9
  refine bdF2 fun v12 _ => ?_
  exact iteF2 (fb_fX11_truth_0b31  h_σ) (fb_fX11_truth_0b18  h_σ)
theorem fb_fX11_truth_0b0 {σ0 : ST}  {l1 : Int32} {l2 : Int32} {l3 : Int32} {σ : ST} (h_σ : Fr [] [(6, 6)] σ0 σ) : FrP [] [(6, 6)] σ0 (fX11_truth_0b0 l1 l2 l3 σ) := by
  unfold fX11_truth_0b0
  refine bdF2 fun v3 _ => ?_
  exact iteF2 (fb_fX11_truth_0b31  h_σ) (fb_fX11_truth_0b9  h_σ)
theorem fr_fX11_truth_0 {p1 : Int32} {p2 : Int32} {p3 : Int32} {σ : ST} : Fr [] [(6, 6)] σ (fX11_truth_0 p1 p2 p3 σ).2 := fb_fX11_truth_0b0 (Fr.refl σ)
theorem fb_fX9_giveOne_0b54 {σ0 : ST}  {σ : ST} (h_σ : Fr [] [(64, 64)] σ0 σ) : Fr [] [(64, 64)] σ0 (fX9_giveOne_0b54 σ) := by
  unfold fX9_giveOne_0b54
  exact h_σ
theorem fb_fX9_giveOne_0b48 {σ0 : ST} {K2 : Int32 → Nat → Int32 → ST → ST} (hK2 : ∀ (q0 : Int32) (q1 : Nat) (q2 : Int32) (τ : ST), Fr [] [(64, 64)] σ0 τ → Fr [] [(64, 64)] σ0 (K2 q0 q1 q2 τ)) {l1 : Int32} {l2 : Nat} {l3 : Int32} {σ : ST} (h_σ : Fr [] [(64, 64)] σ0 σ) : Fr [] [(64, 64)] σ0 (fX9_giveOne_0b48 K2 l1 l2 l3 σ) := by
  unfold fX9_giveOne_0b48
  refine bdF fun v48 _ => ?_
  exact hK2 _ _ _ _ h_σ
theorem fb_fX9_giveOne_0b22 {σ0 : ST} {K2 : Int32 → Nat → Int32 → ST → ST} (hK2 : ∀ (q0 : Int32) (q1 : Nat) (q2 : Int32) (τ : ST), Fr [] [(64, 64)] σ0 τ → Fr [] [(64, 64)] σ0 (K2 q0 q1 q2 τ)) {l1 : Int32} {l2 : Nat} {l3 : Int32} {l4 : Int32} {σ : ST} (h_σ : Fr [] [(64, 64)] σ0 σ) : Fr [] [(64, 64)] σ0 (fX9_giveOne_0b22 K2 l1 l2 l3 l4 σ) := by
  unfold fX9_giveOne_0b22
  refine bdF fun v32 _ => ?_
  refine bdF fun v39 _ => ?_
  refine bdF fun v42 _ => ?_
  refine bdF fun v43 _ => ?_
  refine bdF fun v44 _ => ?_
  refine bdF fun s47 e_s47 => ?_
  have h_s47 : Fr [] [(64, 64)] σ0 s47 := by rw [e_s47]; exact h_σ.putA rfl
  exact fb_fX9_giveOne_0b48 hK2 h_s47
theorem fb_fX9_giveOne_0b7 {σ0 : ST} {K2 : Int32 → Nat → Int32 → ST → ST} (hK2 : ∀ (q0 : Int32) (q1 : Nat) (q2 : Int32) (τ : ST), Fr [] [(64, 64)] σ0 τ → Fr [] [(64, 64)] σ0 (K2 q0 q1 q2 τ)) {l1 : Int32} {l2 : Nat} {l3 : Int32} {σ : ST} (h_σ : Fr [] [(64, 64)] σ0 σ) : Fr [] [(64, 64)] σ0 (fX9_giveOne_0b7 K2 l1 l2 l3 σ) := by
  unfold fX9_giveOne_0b7
  refine bdF fun v10 _ => ?_
  refine bdF fun v12 _ => ?_
  refine bdF fun v13 _ => ?_
  exact iteF (fb_fX9_giveOne_0b48 hK2 h_σ) (fb_fX9_giveOne_0b22 hK2 h_σ)
theorem fb_fX9_giveOne_0b2 {σ0 : ST} {K2 : Int32 → Nat → Int32 → ST → ST} (hK2 : ∀ (q0 : Int32) (q1 : Nat) (q2 : Int32) (τ : ST), Fr [] [(64, 64)] σ0 τ → Fr [] [(64, 64)] σ0 (K2 q0 q1 q2 τ)) {l1 : Int32} {l2 : Nat} {l3 : Int32} {σ : ST} (h_σ : Fr [] [(64, 64)] σ0 σ) : Fr [] [(64, 64)] σ0 (fX9_giveOne_0b2 K2 l1 l2 l3 σ) := by
  unfold fX9_giveOne_0b2
  exact iteF (fb_fX9_giveOne_0b54  h_σ) (fb_fX9_giveOne_0b7 hK2 h_σ)
theorem fb_fX9_giveOne_0l2 {σ0 : ST}  : ∀ (fu : Nat) {q0 : Int32} {q1 : Nat} {q2 : Int32} {τ : ST} (h : Fr [] [(64, 64)] σ0 τ), Fr [] [(64, 64)] σ0 (fX9_giveOne_0l2 fu q0 q1 q2 τ)
  | 0, _, _, _, _, h => h
  | fu + 1, _, _, _, _, h => fb_fX9_giveOne_0b2 (fun _ _ _ _ q => fb_fX9_giveOne_0l2  fu q) h
theorem fb_fX9_giveOne_0b0 {σ0 : ST}  {l1 : Int32} {l2 : Nat} {σ : ST} (h_σ : Fr [] [(64, 64)] σ0 σ) : Fr [] [(64, 64)] σ0 (fX9_giveOne_0b0 l1 l2 σ) := by
  unfold fX9_giveOne_0b0
  exact fb_fX9_giveOne_0l2  _ h_σ
theorem fr_fX9_giveOne_0 {p1 : Int32} {p2 : Nat} {σ : ST} : Fr [] [(64, 64)] σ (fX9_giveOne_0 p1 p2 σ) := fb_fX9_giveOne_0b0 (Fr.refl σ)
theorem fb_fX6_span_0b0 {σ0 : ST}  {l2 : Int32} {σ : ST} (h_σ : Fr [] [] σ0 σ) : FrP [] [] σ0 (fX6_span_0b0 l2 σ) := by
  unfold fX6_span_0b0
  refine bdF2 fun v2 _ => ?_
  refine bdF2 fun v6 _ => ?_
  refine bdF2 fun s7 e_s7 => ?_
  have h_s7 : Fr [] [] σ0 s7 := by rw [e_s7]; exact ⟨h_σ.1, h_σ.2⟩
  refine bdF2 fun v15 _ => ?_
  exact h_s7
theorem fr_fX6_span_0 {p2 : Int32} {σ : ST} : Fr [] [] σ (fX6_span_0 p2 σ).2 := fb_fX6_span_0b0 (Fr.refl σ)
theorem fb_fX6_voice_0b0 {σ0 : ST}  {l2 : Int32} {σ : ST} (h_σ : Fr [] [] σ0 σ) : FrP [] [] σ0 (fX6_voice_0b0 l2 σ) := by
  unfold fX6_voice_0b0
  refine bdF2 fun v2 _ => ?_
  refine bdF2 fun v8 _ => ?_
  refine bdF2 fun s9 e_s9 => ?_
  have h_s9 : Fr [] [] σ0 s9 := by rw [e_s9]; exact ⟨h_σ.1, h_σ.2⟩
  refine bpF2 fun v15 s15 e_s15 => ?_
  have h_s15 : Fr [] [] σ0 s15 := by rw [← e_s15]; exact h_s9.call fr_fX6_span_0 rfl rfl
  refine bdF2 fun v21 _ => ?_
  refine bdF2 fun v24 _ => ?_
  exact h_s15
theorem fr_fX6_voice_0 {p2 : Int32} {σ : ST} : Fr [] [] σ (fX6_voice_0 p2 σ).2 := fb_fX6_voice_0b0 (Fr.refl σ)
theorem fb_fX6_talk_0b0 {σ0 : ST}  {l2 : Int32} {σ : ST} (h_σ : Fr [] [] σ0 σ) : FrP [] [] σ0 (fX6_talk_0b0 l2 σ) := by
  unfold fX6_talk_0b0
  refine bdF2 fun v2 _ => ?_
  refine bdF2 fun v8 _ => ?_
  refine bdF2 fun s9 e_s9 => ?_
  have h_s9 : Fr [] [] σ0 s9 := by rw [e_s9]; exact ⟨h_σ.1, h_σ.2⟩
  refine bpF2 fun v15 s15 e_s15 => ?_
  have h_s15 : Fr [] [] σ0 s15 := by rw [← e_s15]; exact h_s9.call fr_fX6_voice_0 rfl rfl
  refine bdF2 fun v23 _ => ?_
  refine bdF2 fun v24 _ => ?_
  exact h_s15
theorem fr_fX6_talk_0 {p2 : Int32} {σ : ST} : Fr [] [] σ (fX6_talk_0 p2 σ).2 := fb_fX6_talk_0b0 (Fr.refl σ)
theorem fb_fX6_two_0b0 {σ0 : ST}  {l2 : Int32} {σ : ST} (h_σ : Fr [] [] σ0 σ) : FrP [] [] σ0 (fX6_two_0b0 l2 σ) := by
  unfold fX6_two_0b0
  refine bdF2 fun v2 _ => ?_
  refine bdF2 fun v8 _ => ?_
  refine bdF2 fun s9 e_s9 => ?_
  have h_s9 : Fr [] [] σ0 s9 := by rw [e_s9]; exact ⟨h_σ.1, h_σ.2⟩
  refine bpF2 fun v15 s15 e_s15 => ?_
  have h_s15 : Fr [] [] σ0 s15 := by rw [← e_s15]; exact h_s9.call fr_fX6_talk_0 rfl rfl
  refine bdF2 fun v19 _ => ?_
  refine bdF2 fun v21 _ => ?_
  exact h_s15
theorem fr_fX6_two_0 {p2 : Int32} {σ : ST} : Fr [] [] σ (fX6_two_0 p2 σ).2 := fb_fX6_two_0b0 (Fr.refl σ)
theorem fb_fX6_brief_0b0 {σ0 : ST}  {l2 : Int32} {σ : ST} (h_σ : Fr [] [] σ0 σ) : FrP [] [] σ0 (fX6_brief_0b0 l2 σ) := by
  unfold fX6_brief_0b0
  refine bdF2 fun v2 _ => ?_
  refine bdF2 fun v8 _ => ?_
  refine bdF2 fun s9 e_s9 => ?_
  have h_s9 : Fr [] [] σ0 s9 := by rw [e_s9]; exact ⟨h_σ.1, h_σ.2⟩
  refine bpF2 fun v16 s16 e_s16 => ?_
  have h_s16 : Fr [] [] σ0 s16 := by rw [← e_s16]; exact h_s9.call fr_fX6_talk_0 rfl rfl
  refine bdF2 fun v20 _ => ?_
  refine bdF2 fun v21 _ => ?_
  exact h_s16
theorem fr_fX6_brief_0 {p2 : Int32} {σ : ST} : Fr [] [] σ (fX6_brief_0 p2 σ).2 := fb_fX6_brief_0b0 (Fr.refl σ)
theorem fb_fX6_far_0b0 {σ0 : ST}  {l2 : Int32} {σ : ST} (h_σ : Fr [] [] σ0 σ) : FrP [] [] σ0 (fX6_far_0b0 l2 σ) := by
  unfold fX6_far_0b0
  refine bdF2 fun v2 _ => ?_
  refine bdF2 fun v8 _ => ?_
  refine bdF2 fun s9 e_s9 => ?_
  have h_s9 : Fr [] [] σ0 s9 := by rw [e_s9]; exact ⟨h_σ.1, h_σ.2⟩
  refine bpF2 fun v15 s15 e_s15 => ?_
  have h_s15 : Fr [] [] σ0 s15 := by rw [← e_s15]; exact h_s9.call fr_fX6_voice_0 rfl rfl
  refine bdF2 fun v19 _ => ?_
  exact h_s15
theorem fr_fX6_far_0 {p2 : Int32} {σ : ST} : Fr [] [] σ (fX6_far_0 p2 σ).2 := fb_fX6_far_0b0 (Fr.refl σ)
theorem fb_fX6_known_0b0 {σ0 : ST}  {l2 : Int32} {l3 : Int32} {σ : ST} (h_σ : Fr [] [] σ0 σ) : FrP [] [] σ0 (fX6_known_0b0 l2 l3 σ) := by
  unfold fX6_known_0b0
  refine bdF2 fun v2 _ => ?_
  refine bdF2 fun v8 _ => ?_
  refine bdF2 fun s9 e_s9 => ?_
  have h_s9 : Fr [] [] σ0 s9 := by rw [e_s9]; exact ⟨h_σ.1, h_σ.2⟩
  refine bpF2 fun v15 s15 e_s15 => ?_
  have h_s15 : Fr [] [] σ0 s15 := by rw [← e_s15]; exact h_s9.call fr_fX6_voice_0 rfl rfl
  refine bdF2 fun v21 _ => ?_
  refine bdF2 fun v22 _ => ?_
  exact h_s15
theorem fr_fX6_known_0 {p2 : Int32} {p3 : Int32} {σ : ST} : Fr [] [] σ (fX6_known_0 p2 p3 σ).2 := fb_fX6_known_0b0 (Fr.refl σ)
theorem fb_fX6_noise_0b0 {σ0 : ST}  {l2 : Int32} {σ : ST} (h_σ : Fr [] [] σ0 σ) : FrP [] [] σ0 (fX6_noise_0b0 l2 σ) := by
  unfold fX6_noise_0b0
  refine bdF2 fun v2 _ => ?_
  refine bdF2 fun v8 _ => ?_
  refine bdF2 fun s9 e_s9 => ?_
  have h_s9 : Fr [] [] σ0 s9 := by rw [e_s9]; exact ⟨h_σ.1, h_σ.2⟩
  refine bpF2 fun v15 s15 e_s15 => ?_
  have h_s15 : Fr [] [] σ0 s15 := by rw [← e_s15]; exact h_s9.call fr_fX6_span_0 rfl rfl
  refine bdF2 fun v21 _ => ?_
  refine bdF2 fun v24 _ => ?_
  exact h_s15
theorem fr_fX6_noise_0 {p2 : Int32} {σ : ST} : Fr [] [] σ (fX6_noise_0 p2 σ).2 := fb_fX6_noise_0b0 (Fr.refl σ)
theorem fb_fX6_weigh_0b44 {σ0 : ST}  {l3 : Int32} {σ : ST} (h_σ : Fr [] [] σ0 σ) : FrP [] [] σ0 (fX6_weigh_0b44 l3 σ) := by
  unfold fX6_weigh_0b44
  refine bpF2 fun v47 s47 e_s47 => ?_
  have h_s47 : Fr [] [] σ0 s47 := by rw [← e_s47]; exact h_σ.call fr_fX6_span_0 rfl rfl
  exact h_s47
theorem fb_fX6_weigh_0b51 {σ0 : ST}  {l3 : Int32} {σ : ST} (h_σ : Fr [] [] σ0 σ) : FrP [] [] σ0 (fX6_weigh_0b51 l3 σ) := by
  unfold fX6_weigh_0b51
  refine bpF2 fun v54 s54 e_s54 => ?_
  have h_s54 : Fr [] [] σ0 s54 := by rw [← e_s54]; exact h_σ.call fr_fX6_voice_0 rfl rfl
  exact h_s54
theorem fb_fX6_weigh_0b58 {σ0 : ST}  {l3 : Int32} {σ : ST} (h_σ : Fr [] [] σ0 σ) : FrP [] [] σ0 (fX6_weigh_0b58 l3 σ) := by
  unfold fX6_weigh_0b58
  refine bpF2 fun v61 s61 e_s61 => ?_
  have h_s61 : Fr [] [] σ0 s61 := by rw [← e_s61]; exact h_σ.call fr_fX6_talk_0 rfl rfl
  exact h_s61
theorem fb_fX6_weigh_0b65 {σ0 : ST}  {l3 : Int32} {σ : ST} (h_σ : Fr [] [] σ0 σ) : FrP [] [] σ0 (fX6_weigh_0b65 l3 σ) := by
  unfold fX6_weigh_0b65
  refine bpF2 fun v68 s68 e_s68 => ?_
  have h_s68 : Fr [] [] σ0 s68 := by rw [← e_s68]; exact h_σ.call fr_fX6_two_0 rfl rfl
  exact h_s68
theorem fb_fX6_weigh_0b72 {σ0 : ST}  {l3 : Int32} {σ : ST} (h_σ : Fr [] [] σ0 σ) : FrP [] [] σ0 (fX6_weigh_0b72 l3 σ) := by
  unfold fX6_weigh_0b72
  refine bpF2 fun v75 s75 e_s75 => ?_
  have h_s75 : Fr [] [] σ0 s75 := by rw [← e_s75]; exact h_σ.call fr_fX6_brief_0 rfl rfl
  exact h_s75
theorem fb_fX6_weigh_0b79 {σ0 : ST}  {l3 : Int32} {σ : ST} (h_σ : Fr [] [] σ0 σ) : FrP [] [] σ0 (fX6_weigh_0b79 l3 σ) := by
  unfold fX6_weigh_0b79
  refine bpF2 fun v82 s82 e_s82 => ?_
  have h_s82 : Fr [] [] σ0 s82 := by rw [← e_s82]; exact h_σ.call fr_fX6_far_0 rfl rfl
  exact h_s82
theorem fb_fX6_weigh_0b86 {σ0 : ST}  {l3 : Int32} {l4 : Int32} {σ : ST} (h_σ : Fr [] [] σ0 σ) : FrP [] [] σ0 (fX6_weigh_0b86 l3 l4 σ) := by
  unfold fX6_weigh_0b86
  refine bpF2 fun v91 s91 e_s91 => ?_
  have h_s91 : Fr [] [] σ0 s91 := by rw [← e_s91]; exact h_σ.call fr_fX6_known_0 rfl rfl
  exact h_s91
theorem fb_fX6_weigh_0b95 {σ0 : ST}  {l3 : Int32} {σ : ST} (h_σ : Fr [] [] σ0 σ) : FrP [] [] σ0 (fX6_weigh_0b95 l3 σ) := by
  unfold fX6_weigh_0b95
  refine bpF2 fun v98 s98 e_s98 => ?_
  have h_s98 : Fr [] [] σ0 s98 := by rw [← e_s98]; exact h_σ.call fr_fX6_noise_0 rfl rfl
  exact h_s98
theorem fb_fX6_weigh_0b0 {σ0 : ST}  {l1 : Int32} {l3 : Int32} {l4 : Int32} {σ : ST} (h_σ : Fr [] [] σ0 σ) : FrP [] [] σ0 (fX6_weigh_0b0 l1 l3 l4 σ) := by
  unfold fX6_weigh_0b0
  refine iteF2 (fb_fX6_weigh_0b44  h_σ) ?_
  refine iteF2 (fb_fX6_weigh_0b51  h_σ) ?_
  refine iteF2 (fb_fX6_weigh_0b58  h_σ) ?_
  refine iteF2 (fb_fX6_weigh_0b65  h_σ) ?_
  refine iteF2 (fb_fX6_weigh_0b72  h_σ) ?_
  refine iteF2 (fb_fX6_weigh_0b79  h_σ) ?_
  refine iteF2 (fb_fX6_weigh_0b86  h_σ) ?_
  exact fb_fX6_weigh_0b95  h_σ
theorem fr_fX6_weigh_0 {p1 : Int32} {p3 : Int32} {p4 : Int32} {σ : ST} : Fr [] [] σ (fX6_weigh_0 p1 p3 p4 σ).2 := fb_fX6_weigh_0b0 (Fr.refl σ)
theorem fb_fX12_type_0b75 {σ0 : ST}  {σ : ST} (h_σ : Fr [(25, 25)] [(67, 67)] σ0 σ) : FrP [(25, 25)] [(67, 67)] σ0 (fX12_type_0b75 σ) := by
  unfold fX12_type_0b75
  refine bdF2 fun v76 _ => ?_
  exact h_σ
theorem fb_fX12_type_0b37 {σ0 : ST} {K32 : Int64 → Int32 → ST → (Int32 × ST)} (hK32 : ∀ (q0 : Int64) (q1 : Int32) (τ : ST), Fr [(25, 25)] [(67, 67)] σ0 τ → FrP [(25, 25)] [(67, 67)] σ0 (K32 q0 q1 τ)) {l1 : Int64} {l4 : Int32} {σ : ST} (h_σ : Fr [(25, 25)] [(67, 67)] σ0 σ) : FrP [(25, 25)] [(67, 67)] σ0 (fX12_type_0b37 K32 l1 l4 σ) := by
  unfold fX12_type_0b37
  refine bdF2 fun v42 _ => ?_
  refine bdF2 fun v50 _ => ?_
  refine bdF2 fun v51 _ => ?_
  refine bdF2 fun v55 _ => ?_
  refine bdF2 fun v56 _ => ?_
  refine bdF2 fun v57 _ => ?_
  refine bdF2 fun s58 e_s58 => ?_
  have h_s58 : Fr [(25, 25)] [(67, 67)] σ0 s58 := by rw [e_s58]; exact h_σ.putA rfl
  refine bdF2 fun v61 _ => ?_
  refine bdF2 fun v65 _ => ?_
  refine bdF2 fun s66 e_s66 => ?_
  have h_s66 : Fr [(25, 25)] [(67, 67)] σ0 s66 := by rw [e_s66]; exact h_s58.putI rfl
  refine bdF2 fun v69 _ => ?_
  exact hK32 _ _ _ h_s66
theorem fb_fX12_type_0b32 {σ0 : ST} {K32 : Int64 → Int32 → ST → (Int32 × ST)} (hK32 : ∀ (q0 : Int64) (q1 : Int32) (τ : ST), Fr [(25, 25)] [(67, 67)] σ0 τ → FrP [(25, 25)] [(67, 67)] σ0 (K32 q0 q1 τ)) {l1 : Int64} {l4 : Int32} {σ : ST} (h_σ : Fr [(25, 25)] [(67, 67)] σ0 σ) : FrP [(25, 25)] [(67, 67)] σ0 (fX12_type_0b32 K32 l1 l4 σ) := by
  unfold fX12_type_0b32
  exact iteF2 (fb_fX12_type_0b75  h_σ) (fb_fX12_type_0b37 hK32 h_σ)
theorem fb_fX12_type_0l32 {σ0 : ST}  : ∀ (fu : Nat) {q0 : Int64} {q1 : Int32} {τ : ST} (h : Fr [(25, 25)] [(67, 67)] σ0 τ), FrP [(25, 25)] [(67, 67)] σ0 (fX12_type_0l32 fu q0 q1 τ)
  | 0, _, _, _, h => h
  | fu + 1, _, _, _, h => fb_fX12_type_0b32 (fun _ _ _ q => fb_fX12_type_0l32  fu q) h
theorem fb_fX12_type_0b27 {σ0 : ST}  {l1 : Int64} {l3 : Int32} {σ : ST} (h_σ : Fr [(25, 25)] [(67, 67)] σ0 σ) : FrP [(25, 25)] [(67, 67)] σ0 (fX12_type_0b27 l1 l3 σ) := by
  unfold fX12_type_0b27
  refine bdF2 fun v29 _ => ?_
  exact fb_fX12_type_0l32  _ h_σ
theorem fb_fX12_type_0b24 {σ0 : ST}  {σ : ST} (h_σ : Fr [(25, 25)] [(67, 67)] σ0 σ) : FrP [(25, 25)] [(67, 67)] σ0 (fX12_type_0b24 σ) := by
  unfold fX12_type_0b24
  exact h_σ
theorem fb_fX12_type_0b12 {σ0 : ST}  {l1 : Int64} {l3 : Int32} {σ : ST} (h_σ : Fr [(25, 25)] [(67, 67)] σ0 σ) : FrP [(25, 25)] [(67, 67)] σ0 (fX12_type_0b12 l1 l3 σ) := by
  unfold fX12_type_0b12
  refine bdF2 fun v13 _ => ?_
  refine bdF2 fun v17 _ => ?_
  exact iteF2 (fb_fX12_type_0b27  h_σ) (fb_fX12_type_0b24  h_σ)
theorem fb_fX12_type_0b10 {σ0 : ST}  {σ : ST} (h_σ : Fr [(25, 25)] [(67, 67)] σ0 σ) : FrP [(25, 25)] [(67, 67)] σ0 (fX12_type_0b10 σ) := by
  unfold fX12_type_0b10
  exact h_σ
theorem fb_fX12_type_0b0 {σ0 : ST}  {l1 : Int64} {l3 : Int32} {σ : ST} (h_σ : Fr [(25, 25)] [(67, 67)] σ0 σ) : FrP [(25, 25)] [(67, 67)] σ0 (fX12_type_0b0 l1 l3 σ) := by
  unfold fX12_type_0b0
  refine bdF2 fun v4 _ => ?_
  exact iteF2 (fb_fX12_type_0b10  h_σ) (fb_fX12_type_0b12  h_σ)
theorem fr_fX12_type_0 {p1 : Int64} {p2 : Int32} {σ : ST} : Fr [(25, 25)] [(67, 67)] σ (fX12_type_0 p1 p2 σ).2 := fb_fX12_type_0b0 (Fr.refl σ)
theorem fb_fX12_clear_0b0 {σ0 : ST}  {σ : ST} (h_σ : Fr [(25, 25)] [] σ0 σ) : FrP [(25, 25)] [] σ0 (fX12_clear_0b0 σ) := by
  unfold fX12_clear_0b0
  refine bdF2 fun v1 _ => ?_
  refine bdF2 fun s7 e_s7 => ?_
  have h_s7 : Fr [(25, 25)] [] σ0 s7 := by rw [e_s7]; exact h_σ.putI rfl
  exact h_s7
theorem fr_fX12_clear_0 {σ : ST} : Fr [(25, 25)] [] σ (fX12_clear_0 σ).2 := fb_fX12_clear_0b0 (Fr.refl σ)
theorem fb_fX12_atFirst_0b0 {σ0 : ST}  {l1 : Int32} {σ : ST} (h_σ : Fr [] [(66, 66)] σ0 σ) : Fr [] [(66, 66)] σ0 (fX12_atFirst_0b0 l1 σ) := by
  unfold fX12_atFirst_0b0
  refine bdF fun v6 _ => ?_
  refine bdF fun s9 e_s9 => ?_
  have h_s9 : Fr [] [(66, 66)] σ0 s9 := by rw [e_s9]; exact h_σ.putA rfl
  refine bdF fun v16 _ => ?_
  refine bdF fun s19 e_s19 => ?_
  have h_s19 : Fr [] [(66, 66)] σ0 s19 := by rw [e_s19]; exact h_s9.putA rfl
  refine bdF fun v26 _ => ?_
  refine bdF fun s29 e_s29 => ?_
  have h_s29 : Fr [] [(66, 66)] σ0 s29 := by rw [e_s29]; exact h_s19.putA rfl
  refine bdF fun v36 _ => ?_
  refine bdF fun s38 e_s38 => ?_
  have h_s38 : Fr [] [(66, 66)] σ0 s38 := by rw [e_s38]; exact h_s29.putA rfl
  refine bdF fun v45 _ => ?_
  refine bdF fun s47 e_s47 => ?_
  have h_s47 : Fr [] [(66, 66)] σ0 s47 := by rw [e_s47]; exact h_s38.putA rfl
  refine bdF fun v54 _ => ?_
  refine bdF fun s57 e_s57 => ?_
  have h_s57 : Fr [] [(66, 66)] σ0 s57 := by rw [e_s57]; exact h_s47.putA rfl
  exact h_s57
theorem fr_fX12_atFirst_0 {p1 : Int32} {σ : ST} : Fr [] [(66, 66)] σ (fX12_atFirst_0 p1 σ) := fb_fX12_atFirst_0b0 (Fr.refl σ)
theorem fb_fX12_next_0b267 {σ0 : ST}  {σ : ST} (h_σ : Fr [(26, 29)] [] σ0 σ) : Fr [(26, 29)] [] σ0 (fX12_next_0b267 σ) := by
  unfold fX12_next_0b267
  exact h_σ
theorem fb_fX12_next_0b264 {σ0 : ST}  {t0 : Int32} {σ : ST} (h_σ : Fr [(26, 29)] [] σ0 σ) : Fr [(26, 29)] [] σ0 (fX12_next_0b264 t0 σ) := by
  unfold fX12_next_0b264
  refine bdF fun s264 e_s264 => ?_
  have h_s264 : Fr [(26, 29)] [] σ0 s264 := by rw [e_s264]; exact h_σ.putI rfl
  exact fb_fX12_next_0b267  h_s264
theorem fb_fX12_next_0b263 {σ0 : ST}  {σ : ST} (h_σ : Fr [(26, 29)] [] σ0 σ) : Fr [(26, 29)] [] σ0 (fX12_next_0b263 σ) := by
  unfold fX12_next_0b263
  exact fb_fX12_next_0b264  h_σ
theorem fb_fX12_next_0b259 {σ0 : ST}  {σ : ST} (h_σ : Fr [(26, 29)] [] σ0 σ) : Fr [(26, 29)] [] σ0 (fX12_next_0b259 σ) := by
  unfold fX12_next_0b259
  exact fb_fX12_next_0b264  h_σ
theorem fb_fX12_next_0b242 {σ0 : ST}  {l1 : Int32} {σ : ST} (h_σ : Fr [(26, 29)] [] σ0 σ) : Fr [(26, 29)] [] σ0 (fX12_next_0b242 l1 σ) := by
  unfold fX12_next_0b242
  refine bdF fun v244 _ => ?_
  refine bdF fun v248 _ => ?_
  refine bdF fun s249 e_s249 => ?_
  have h_s249 : Fr [(26, 29)] [] σ0 s249 := by rw [e_s249]; exact h_σ.putI rfl
  exact iteF (fb_fX12_next_0b259  h_s249) (fb_fX12_next_0b263  h_s249)
theorem fb_fX12_next_0b236 {σ0 : ST}  {t0 : Int32} {σ : ST} (h_σ : Fr [(26, 29)] [] σ0 σ) : Fr [(26, 29)] [] σ0 (fX12_next_0b236 t0 σ) := by
  unfold fX12_next_0b236
  refine bdF fun s236 e_s236 => ?_
  have h_s236 : Fr [(26, 29)] [] σ0 s236 := by rw [e_s236]; exact h_σ.putI rfl
  exact fb_fX12_next_0b267  h_s236
theorem fb_fX12_next_0b231 {σ0 : ST}  {σ : ST} (h_σ : Fr [(26, 29)] [] σ0 σ) : Fr [(26, 29)] [] σ0 (fX12_next_0b231 σ) := by
  unfold fX12_next_0b231
  exact fb_fX12_next_0b236  h_σ
theorem fb_fX12_next_0b235 {σ0 : ST}  {σ : ST} (h_σ : Fr [(26, 29)] [] σ0 σ) : Fr [(26, 29)] [] σ0 (fX12_next_0b235 σ) := by
  unfold fX12_next_0b235
  exact fb_fX12_next_0b236  h_σ
theorem fb_fX12_next_0b218 {σ0 : ST}  {σ : ST} (h_σ : Fr [(26, 29)] [] σ0 σ) : Fr [(26, 29)] [] σ0 (fX12_next_0b218 σ) := by
  unfold fX12_next_0b218
  refine bdF fun v219 _ => ?_
  refine bdF fun v223 _ => ?_
  refine bdF fun v226 _ => ?_
  exact iteF (fb_fX12_next_0b235  h_σ) (fb_fX12_next_0b231  h_σ)
theorem fb_fX12_next_0b212 {σ0 : ST}  {l1 : Int32} {σ : ST} (h_σ : Fr [(26, 29)] [] σ0 σ) : Fr [(26, 29)] [] σ0 (fX12_next_0b212 l1 σ) := by
  unfold fX12_next_0b212
  exact iteF (fb_fX12_next_0b218  h_σ) (fb_fX12_next_0b235  h_σ)
theorem fb_fX12_next_0b201 {σ0 : ST}  {l1 : Int32} {σ : ST} (h_σ : Fr [(26, 29)] [] σ0 σ) : Fr [(26, 29)] [] σ0 (fX12_next_0b201 l1 σ) := by
  unfold fX12_next_0b201
  refine bdF fun v203 _ => ?_
  exact iteF (fb_fX12_next_0b231  h_σ) (fb_fX12_next_0b212  h_σ)
theorem fb_fX12_next_0b185 {σ0 : ST} {K138 : Int32 → ST → ST} (hK138 : ∀ (q0 : Int32) (τ : ST), Fr [(26, 29)] [] σ0 τ → Fr [(26, 29)] [] σ0 (K138 q0 τ)) {l1 : Int32} {t0 : Int32} {σ : ST} (h_σ : Fr [(26, 29)] [] σ0 σ) : Fr [(26, 29)] [] σ0 (fX12_next_0b185 K138 l1 t0 σ) := by
  unfold fX12_next_0b185
  refine bdF fun s185 e_s185 => ?_
  have h_s185 : Fr [(26, 29)] [] σ0 s185 := by rw [e_s185]; exact h_σ.putI rfl
  refine bdF fun v190 _ => ?_
  refine bdF fun v194 _ => ?_
  refine bdF fun s195 e_s195 => ?_
  have h_s195 : Fr [(26, 29)] [] σ0 s195 := by rw [e_s195]; exact h_s185.putI rfl
  exact hK138 _ _ h_s195
theorem fb_fX12_next_0b170 {σ0 : ST} {K138 : Int32 → ST → ST} (hK138 : ∀ (q0 : Int32) (τ : ST), Fr [(26, 29)] [] σ0 τ → Fr [(26, 29)] [] σ0 (K138 q0 τ)) {l1 : Int32} {σ : ST} (h_σ : Fr [(26, 29)] [] σ0 σ) : Fr [(26, 29)] [] σ0 (fX12_next_0b170 K138 l1 σ) := by
  unfold fX12_next_0b170
  refine bdF fun v173 _ => ?_
  refine bdF fun v176 _ => ?_
  refine bdF fun v178 _ => ?_
  refine bdF fun v181 _ => ?_
  refine bdF fun v184 _ => ?_
  exact fb_fX12_next_0b185 hK138 h_σ
theorem fb_fX12_next_0b163 {σ0 : ST} {K138 : Int32 → ST → ST} (hK138 : ∀ (q0 : Int32) (τ : ST), Fr [(26, 29)] [] σ0 τ → Fr [(26, 29)] [] σ0 (K138 q0 τ)) {l1 : Int32} {σ : ST} (h_σ : Fr [(26, 29)] [] σ0 σ) : Fr [(26, 29)] [] σ0 (fX12_next_0b163 K138 l1 σ) := by
  unfold fX12_next_0b163
  refine bdF fun v164 _ => ?_
  exact fb_fX12_next_0b185 hK138 h_σ
theorem fb_fX12_next_0b152 {σ0 : ST} {K138 : Int32 → ST → ST} (hK138 : ∀ (q0 : Int32) (τ : ST), Fr [(26, 29)] [] σ0 τ → Fr [(26, 29)] [] σ0 (K138 q0 τ)) {l1 : Int32} {σ : ST} (h_σ : Fr [(26, 29)] [] σ0 σ) : Fr [(26, 29)] [] σ0 (fX12_next_0b152 K138 l1 σ) := by
  unfold fX12_next_0b152
  refine bdF fun v154 _ => ?_
  exact iteF (fb_fX12_next_0b170 hK138 h_σ) (fb_fX12_next_0b163 hK138 h_σ)
theorem fb_fX12_next_0b138 {σ0 : ST} {K138 : Int32 → ST → ST} (hK138 : ∀ (q0 : Int32) (τ : ST), Fr [(26, 29)] [] σ0 τ → Fr [(26, 29)] [] σ0 (K138 q0 τ)) {l1 : Int32} {σ : ST} (h_σ : Fr [(26, 29)] [] σ0 σ) : Fr [(26, 29)] [] σ0 (fX12_next_0b138 K138 l1 σ) := by
  unfold fX12_next_0b138
  refine bdF fun v139 _ => ?_
  refine bdF fun v146 _ => ?_
  exact iteF (fb_fX12_next_0b201  h_σ) (fb_fX12_next_0b152 hK138 h_σ)
theorem fb_fX12_next_0l138 {σ0 : ST}  : ∀ (fu : Nat) {q0 : Int32} {τ : ST} (h : Fr [(26, 29)] [] σ0 τ), Fr [(26, 29)] [] σ0 (fX12_next_0l138 fu q0 τ)
  | 0, _, _, h => h
  | fu + 1, _, _, h => fb_fX12_next_0b138 (fun _ _ q => fb_fX12_next_0l138  fu q) h
theorem fb_fX12_next_0b127 {σ0 : ST}  {l1 : Int32} {σ : ST} (h_σ : Fr [(26, 29)] [] σ0 σ) : Fr [(26, 29)] [] σ0 (fX12_next_0b127 l1 σ) := by
  unfold fX12_next_0b127
  refine bdF fun v132 _ => ?_
  exact iteF (fb_fX12_next_0b242  h_σ) (fb_fX12_next_0l138  _ h_σ)
theorem fb_fX12_next_0b121 {σ0 : ST}  {t0 : Int32} {σ : ST} (h_σ : Fr [(26, 29)] [] σ0 σ) : Fr [(26, 29)] [] σ0 (fX12_next_0b121 t0 σ) := by
  unfold fX12_next_0b121
  refine bdF fun s121 e_s121 => ?_
  have h_s121 : Fr [(26, 29)] [] σ0 s121 := by rw [e_s121]; exact h_σ.putI rfl
  exact fb_fX12_next_0b267  h_s121
theorem fb_fX12_next_0b120 {σ0 : ST}  {σ : ST} (h_σ : Fr [(26, 29)] [] σ0 σ) : Fr [(26, 29)] [] σ0 (fX12_next_0b120 σ) := by
  unfold fX12_next_0b120
  exact fb_fX12_next_0b121  h_σ
theorem fb_fX12_next_0b116 {σ0 : ST}  {σ : ST} (h_σ : Fr [(26, 29)] [] σ0 σ) : Fr [(26, 29)] [] σ0 (fX12_next_0b116 σ) := by
  unfold fX12_next_0b116
  exact fb_fX12_next_0b121  h_σ
theorem fb_fX12_next_0b90 {σ0 : ST}  {σ : ST} (h_σ : Fr [(26, 29)] [] σ0 σ) : Fr [(26, 29)] [] σ0 (fX12_next_0b90 σ) := by
  unfold fX12_next_0b90
  refine bdF fun v93 _ => ?_
  refine bdF fun v97 _ => ?_
  refine bdF fun v100 _ => ?_
  refine bdF fun s103 e_s103 => ?_
  have h_s103 : Fr [(26, 29)] [] σ0 s103 := by rw [e_s103]; exact h_σ.putI rfl
  refine bdF fun v108 _ => ?_
  exact iteF (fb_fX12_next_0b116  h_s103) (fb_fX12_next_0b120  h_s103)
theorem fb_fX12_next_0b77 {σ0 : ST} {K63 : ST → ST} (hK63 : ∀ (τ : ST), Fr [(26, 29)] [] σ0 τ → Fr [(26, 29)] [] σ0 (K63 τ)) {σ : ST} (h_σ : Fr [(26, 29)] [] σ0 σ) : Fr [(26, 29)] [] σ0 (fX12_next_0b77 K63 σ) := by
  unfold fX12_next_0b77
  refine bdF fun v79 _ => ?_
  refine bdF fun v83 _ => ?_
  refine bdF fun s84 e_s84 => ?_
  have h_s84 : Fr [(26, 29)] [] σ0 s84 := by rw [e_s84]; exact h_σ.putI rfl
  exact hK63 _ h_s84
theorem fb_fX12_next_0b63 {σ0 : ST} {K63 : ST → ST} (hK63 : ∀ (τ : ST), Fr [(26, 29)] [] σ0 τ → Fr [(26, 29)] [] σ0 (K63 τ)) {σ : ST} (h_σ : Fr [(26, 29)] [] σ0 σ) : Fr [(26, 29)] [] σ0 (fX12_next_0b63 K63 σ) := by
  unfold fX12_next_0b63
  refine bdF fun v64 _ => ?_
  refine bdF fun v71 _ => ?_
  exact iteF (fb_fX12_next_0b90  h_σ) (fb_fX12_next_0b77 hK63 h_σ)
theorem fb_fX12_next_0l63 {σ0 : ST}  : ∀ (fu : Nat) {τ : ST} (h : Fr [(26, 29)] [] σ0 τ), Fr [(26, 29)] [] σ0 (fX12_next_0l63 fu  τ)
  | 0, _, h => h
  | fu + 1, _, h => fb_fX12_next_0b63 (fun _ q => fb_fX12_next_0l63  fu q) h
theorem fb_fX12_next_0b52 {σ0 : ST}  {l1 : Int32} {σ : ST} (h_σ : Fr [(26, 29)] [] σ0 σ) : Fr [(26, 29)] [] σ0 (fX12_next_0b52 l1 σ) := by
  unfold fX12_next_0b52
  refine bdF fun v57 _ => ?_
  exact iteF (fb_fX12_next_0b127  h_σ) (fb_fX12_next_0l63  _ h_σ)
theorem fb_fX12_next_0b44 {σ0 : ST}  {σ : ST} (h_σ : Fr [(26, 29)] [] σ0 σ) : Fr [(26, 29)] [] σ0 (fX12_next_0b44 σ) := by
  unfold fX12_next_0b44
  refine bdF fun s46 e_s46 => ?_
  have h_s46 : Fr [(26, 29)] [] σ0 s46 := by rw [e_s46]; exact h_σ.putI rfl
  exact fb_fX12_next_0b267  h_s46
theorem fb_fX12_next_0b22 {σ0 : ST}  {σ : ST} (h_σ : Fr [(26, 29)] [] σ0 σ) : Fr [(26, 29)] [] σ0 (fX12_next_0b22 σ) := by
  unfold fX12_next_0b22
  refine bdF fun v24 _ => ?_
  refine bdF fun s27 e_s27 => ?_
  have h_s27 : Fr [(26, 29)] [] σ0 s27 := by rw [e_s27]; exact h_σ.putI rfl
  refine bdF fun s32 e_s32 => ?_
  have h_s32 : Fr [(26, 29)] [] σ0 s32 := by rw [e_s32]; exact h_s27.putI rfl
  refine bdF fun v36 _ => ?_
  exact iteF (fb_fX12_next_0b52  h_s32) (fb_fX12_next_0b44  h_s32)
theorem fb_fX12_next_0b9 {σ0 : ST} {K0 : ST → ST} (hK0 : ∀ (τ : ST), Fr [(26, 29)] [] σ0 τ → Fr [(26, 29)] [] σ0 (K0 τ)) {σ : ST} (h_σ : Fr [(26, 29)] [] σ0 σ) : Fr [(26, 29)] [] σ0 (fX12_next_0b9 K0 σ) := by
  unfold fX12_next_0b9
  refine bdF fun v11 _ => ?_
  refine bdF fun v15 _ => ?_
  refine bdF fun s16 e_s16 => ?_
  have h_s16 : Fr [(26, 29)] [] σ0 s16 := by rw [e_s16]; exact h_σ.putI rfl
  exact hK0 _ h_s16
theorem fb_fX12_next_0b0 {σ0 : ST} {K0 : ST → ST} (hK0 : ∀ (τ : ST), Fr [(26, 29)] [] σ0 τ → Fr [(26, 29)] [] σ0 (K0 τ)) {σ : ST} (h_σ : Fr [(26, 29)] [] σ0 σ) : Fr [(26, 29)] [] σ0 (fX12_next_0b0 K0 σ) := by
  unfold fX12_next_0b0
  refine bdF fun v1 _ => ?_
  exact iteF (fb_fX12_next_0b9 hK0 h_σ) (fb_fX12_next_0b22  h_σ)
theorem fb_fX12_next_0l0 {σ0 : ST}  : ∀ (fu : Nat) {τ : ST} (h : Fr [(26, 29)] [] σ0 τ), Fr [(26, 29)] [] σ0 (fX12_next_0l0 fu  τ)
  | 0, _, h => h
  | fu + 1, _, h => fb_fX12_next_0b0 (fun _ q => fb_fX12_next_0l0  fu q) h
theorem fr_fX12_next_0 {σ : ST} : Fr [(26, 29)] [] σ (fX12_next_0 σ) := fb_fX12_next_0l0 4096 (Fr.refl σ)
theorem fb_fX12_addRow_0b0 {σ0 : ST}  {l1 : Int32} {l2 : Int32} {l3 : Int32} {l4 : Int32} {l5 : Int32} {σ : ST} (h_σ : Fr [(31, 31)] [(68, 71)] σ0 σ) : Fr [(31, 31)] [(68, 71)] σ0 (fX12_addRow_0b0 l1 l2 l3 l4 l5 σ) := by
  unfold fX12_addRow_0b0
  refine bdF fun v6 _ => ?_
  refine bdF fun v9 _ => ?_
  refine bdF fun s11 e_s11 => ?_
  have h_s11 : Fr [(31, 31)] [(68, 71)] σ0 s11 := by rw [e_s11]; exact h_σ.putA rfl
  refine bdF fun v18 _ => ?_
  refine bdF fun v21 _ => ?_
  refine bdF fun v23 _ => ?_
  refine bdF fun s25 e_s25 => ?_
  have h_s25 : Fr [(31, 31)] [(68, 71)] σ0 s25 := by rw [e_s25]; exact h_s11.putA rfl
  refine bdF fun v32 _ => ?_
  refine bdF fun v35 _ => ?_
  refine bdF fun v37 _ => ?_
  refine bdF fun s39 e_s39 => ?_
  have h_s39 : Fr [(31, 31)] [(68, 71)] σ0 s39 := by rw [e_s39]; exact h_s25.putA rfl
  refine bdF fun v46 _ => ?_
  refine bdF fun v49 _ => ?_
  refine bdF fun v51 _ => ?_
  refine bdF fun s54 e_s54 => ?_
  have h_s54 : Fr [(31, 31)] [(68, 71)] σ0 s54 := by rw [e_s54]; exact h_s39.putA rfl
  refine bdF fun v60 _ => ?_
  refine bdF fun s65 e_s65 => ?_
  have h_s65 : Fr [(31, 31)] [(68, 71)] σ0 s65 := by rw [e_s65]; exact h_s54.putA rfl
  refine bdF fun v71 _ => ?_
  refine bdF fun s75 e_s75 => ?_
  have h_s75 : Fr [(31, 31)] [(68, 71)] σ0 s75 := by rw [e_s75]; exact h_s65.putA rfl
  refine bdF fun v81 _ => ?_
  refine bdF fun s85 e_s85 => ?_
  have h_s85 : Fr [(31, 31)] [(68, 71)] σ0 s85 := by rw [e_s85]; exact h_s75.putA rfl
  refine bdF fun v88 _ => ?_
  refine bdF fun v92 _ => ?_
  refine bdF fun s93 e_s93 => ?_
  have h_s93 : Fr [(31, 31)] [(68, 71)] σ0 s93 := by rw [e_s93]; exact h_s85.putI rfl
  exact h_s93
theorem fr_fX12_addRow_0 {p1 : Int32} {p2 : Int32} {p3 : Int32} {p4 : Int32} {p5 : Int32} {σ : ST} : Fr [(31, 31)] [(68, 71)] σ (fX12_addRow_0 p1 p2 p3 p4 p5 σ) := fb_fX12_addRow_0b0 (Fr.refl σ)
theorem fb_fX12_row_0b41 {σ0 : ST}  {σ : ST} (h_σ : Fr [(31, 31)] [(68, 71)] σ0 σ) : FrP [(31, 31)] [(68, 71)] σ0 (fX12_row_0b41 σ) := by
  unfold fX12_row_0b41
  exact h_σ
theorem fb_fX12_row_0b55 {σ0 : ST}  {l1 : Int32} {l2 : Int32} {l3 : Int32} {l4 : Int32} {σ : ST} (h_σ : Fr [(31, 31)] [(68, 71)] σ0 σ) : FrP [(31, 31)] [(68, 71)] σ0 (fX12_row_0b55 l1 l2 l3 l4 σ) := by
  unfold fX12_row_0b55
  refine bdF2 fun s62 e_s62 => ?_
  have h_s62 : Fr [(31, 31)] [(68, 71)] σ0 s62 := by rw [e_s62]; exact h_σ.call fr_fX12_addRow_0 rfl rfl
  refine bdF2 fun v66 _ => ?_
  refine bdF2 fun v70 _ => ?_
  exact h_s62
theorem fb_fX12_row_0b52 {σ0 : ST}  {σ : ST} (h_σ : Fr [(31, 31)] [(68, 71)] σ0 σ) : FrP [(31, 31)] [(68, 71)] σ0 (fX12_row_0b52 σ) := by
  unfold fX12_row_0b52
  exact h_σ
theorem fb_fX12_row_0b43 {σ0 : ST}  {l1 : Int32} {l2 : Int32} {l3 : Int32} {l4 : Int32} {σ : ST} (h_σ : Fr [(31, 31)] [(68, 71)] σ0 σ) : FrP [(31, 31)] [(68, 71)] σ0 (fX12_row_0b43 l1 l2 l3 l4 σ) := by
  unfold fX12_row_0b43
  refine bdF2 fun v44 _ => ?_
  exact iteF2 (fb_fX12_row_0b52  h_σ) (fb_fX12_row_0b55  h_σ)
theorem fb_fX12_row_0b30 {σ0 : ST}  {l1 : Int32} {l2 : Int32} {l3 : Int32} {l4 : Int32} {σ : ST} (h_σ : Fr [(31, 31)] [(68, 71)] σ0 σ) : FrP [(31, 31)] [(68, 71)] σ0 (fX12_row_0b30 l1 l2 l3 l4 σ) := by
  unfold fX12_row_0b30
  refine bdF2 fun v35 _ => ?_
  exact iteF2 (fb_fX12_row_0b41  h_σ) (fb_fX12_row_0b43  h_σ)
theorem fb_fX12_row_0b20 {σ0 : ST}  {l1 : Int32} {l2 : Int32} {l3 : Int32} {l4 : Int32} {σ : ST} (h_σ : Fr [(31, 31)] [(68, 71)] σ0 σ) : FrP [(31, 31)] [(68, 71)] σ0 (fX12_row_0b20 l1 l2 l3 l4 σ) := by
  unfold fX12_row_0b20
  refine bdF2 fun v24 _ => ?_
  exact iteF2 (fb_fX12_row_0b41  h_σ) (fb_fX12_row_0b30  h_σ)
theorem fb_fX12_row_0b10 {σ0 : ST}  {l1 : Int32} {l2 : Int32} {l3 : Int32} {l4 : Int32} {σ : ST} (h_σ : Fr [(31, 31)] [(68, 71)] σ0 σ) : FrP [(31, 31)] [(68, 71)] σ0 (fX12_row_0b10 l1 l2 l3 l4 σ) := by
  unfold fX12_row_0b10
  refine bdF2 fun v14 _ => ?_
  exact iteF2 (fb_fX12_row_0b41  h_σ) (fb_fX12_row_0b20  h_σ)
theorem fb_fX12_row_0b0 {σ0 : ST}  {l1 : Int32} {l2 : Int32} {l3 : Int32} {l4 : Int32} {σ : ST} (h_σ : Fr [(31, 31)] [(68, 71)] σ0 σ) : FrP [(31, 31)] [(68, 71)] σ0 (fX12_row_0b0 l1 l2 l3 l4 σ) := by
  unfold fX12_row_0b0
  refine bdF2 fun v4 _ => ?_
  exact iteF2 (fb_fX12_row_0b41  h_σ) (fb_fX12_row_0b10  h_σ)
theorem fr_fX12_row_0 {p1 : Int32} {p2 : Int32} {p3 : Int32} {p4 : Int32} {σ : ST} : Fr [(31, 31)] [(68, 71)] σ (fX12_row_0 p1 p2 p3 p4 σ).2 := fb_fX12_row_0b0 (Fr.refl σ)
theorem fb_fX12_deaf_0b48 {σ0 : ST}  {σ : ST} (h_σ : Fr [(31, 31)] [(68, 71)] σ0 σ) : FrP [(31, 31)] [(68, 71)] σ0 (fX12_deaf_0b48 σ) := by
  unfold fX12_deaf_0b48
  refine bdF2 fun v49 _ => ?_
  exact h_σ
theorem fb_fX12_deaf_0b33 {σ0 : ST} {K28 : Int32 → Int32 → ST → (Int32 × ST)} (hK28 : ∀ (q0 : Int32) (q1 : Int32) (τ : ST), Fr [(31, 31)] [(68, 71)] σ0 τ → FrP [(31, 31)] [(68, 71)] σ0 (K28 q0 q1 τ)) {l1 : Int32} {l2 : Int32} {σ : ST} (h_σ : Fr [(31, 31)] [(68, 71)] σ0 σ) : FrP [(31, 31)] [(68, 71)] σ0 (fX12_deaf_0b33 K28 l1 l2 σ) := by
  unfold fX12_deaf_0b33
  refine bdF2 fun s39 e_s39 => ?_
  have h_s39 : Fr [(31, 31)] [(68, 71)] σ0 s39 := by rw [e_s39]; exact h_σ.call fr_fX12_addRow_0 rfl rfl
  refine bdF2 fun v42 _ => ?_
  exact hK28 _ _ _ h_s39
theorem fb_fX12_deaf_0b28 {σ0 : ST} {K28 : Int32 → Int32 → ST → (Int32 × ST)} (hK28 : ∀ (q0 : Int32) (q1 : Int32) (τ : ST), Fr [(31, 31)] [(68, 71)] σ0 τ → FrP [(31, 31)] [(68, 71)] σ0 (K28 q0 q1 τ)) {l1 : Int32} {l2 : Int32} {σ : ST} (h_σ : Fr [(31, 31)] [(68, 71)] σ0 σ) : FrP [(31, 31)] [(68, 71)] σ0 (fX12_deaf_0b28 K28 l1 l2 σ) := by
  unfold fX12_deaf_0b28
  exact iteF2 (fb_fX12_deaf_0b48  h_σ) (fb_fX12_deaf_0b33 hK28 h_σ)
theorem fb_fX12_deaf_0l28 {σ0 : ST}  : ∀ (fu : Nat) {q0 : Int32} {q1 : Int32} {τ : ST} (h : Fr [(31, 31)] [(68, 71)] σ0 τ), FrP [(31, 31)] [(68, 71)] σ0 (fX12_deaf_0l28 fu q0 q1 τ)
  | 0, _, _, _, h => h
  | fu + 1, _, _, _, h => fb_fX12_deaf_0b28 (fun _ _ _ q => fb_fX12_deaf_0l28  fu q) h
theorem fb_fX12_deaf_0b26 {σ0 : ST}  {l1 : Int32} {σ : ST} (h_σ : Fr [(31, 31)] [(68, 71)] σ0 σ) : FrP [(31, 31)] [(68, 71)] σ0 (fX12_deaf_0b26 l1 σ) := by
  unfold fX12_deaf_0b26
  exact fb_fX12_deaf_0l28  _ h_σ
theorem fb_fX12_deaf_0b23 {σ0 : ST}  {σ : ST} (h_σ : Fr [(31, 31)] [(68, 71)] σ0 σ) : FrP [(31, 31)] [(68, 71)] σ0 (fX12_deaf_0b23 σ) := by
  unfold fX12_deaf_0b23
  exact h_σ
theorem fb_fX12_deaf_0b12 {σ0 : ST}  {l1 : Int32} {σ : ST} (h_σ : Fr [(31, 31)] [(68, 71)] σ0 σ) : FrP [(31, 31)] [(68, 71)] σ0 (fX12_deaf_0b12 l1 σ) := by
  unfold fX12_deaf_0b12
  refine bdF2 fun v13 _ => ?_
  refine bdF2 fun v17 _ => ?_
  exact iteF2 (fb_fX12_deaf_0b26  h_σ) (fb_fX12_deaf_0b23  h_σ)
theorem fb_fX12_deaf_0b10 {σ0 : ST}  {σ : ST} (h_σ : Fr [(31, 31)] [(68, 71)] σ0 σ) : FrP [(31, 31)] [(68, 71)] σ0 (fX12_deaf_0b10 σ) := by
  unfold fX12_deaf_0b10
  exact h_σ
theorem fb_fX12_deaf_0b0 {σ0 : ST}  {l1 : Int32} {σ : ST} (h_σ : Fr [(31, 31)] [(68, 71)] σ0 σ) : FrP [(31, 31)] [(68, 71)] σ0 (fX12_deaf_0b0 l1 σ) := by
  unfold fX12_deaf_0b0
  refine bdF2 fun v4 _ => ?_
  exact iteF2 (fb_fX12_deaf_0b10  h_σ) (fb_fX12_deaf_0b12  h_σ)
theorem fr_fX12_deaf_0 {p1 : Int32} {σ : ST} : Fr [(31, 31)] [(68, 71)] σ (fX12_deaf_0 p1 σ).2 := fb_fX12_deaf_0b0 (Fr.refl σ)
theorem fb_fX12_out_0b18 {σ0 : ST}  {σ : ST} (h_σ : Fr [] [(70, 70)] σ0 σ) : FrP [] [(70, 70)] σ0 (fX12_out_0b18 σ) := by
  unfold fX12_out_0b18
  exact h_σ
theorem fb_fX12_out_0b85 {σ0 : ST}  {l4 : Int32} {σ : ST} (h_σ : Fr [] [(70, 70)] σ0 σ) : FrP [] [(70, 70)] σ0 (fX12_out_0b85 l4 σ) := by
  unfold fX12_out_0b85
  exact h_σ
theorem fb_fX12_out_0b78 {σ0 : ST} {K26 : Int32 → Int32 → Int32 → Int32 → ST → (Int32 × ST)} (hK26 : ∀ (q0 : Int32) (q1 : Int32) (q2 : Int32) (q3 : Int32) (τ : ST), Fr [] [(70, 70)] σ0 τ → FrP [] [(70, 70)] σ0 (K26 q0 q1 q2 q3 τ)) {l2 : Int32} {l3 : Int32} {l4 : Int32} {l5 : Int32} {t0 : Int32} {t1 : Int32} {σ : ST} (h_σ : Fr [] [(70, 70)] σ0 σ) : FrP [] [(70, 70)] σ0 (fX12_out_0b78 K26 l2 l3 l4 l5 t0 t1 σ) := by
  unfold fX12_out_0b78
  refine bdF2 fun s78 e_s78 => ?_
  have h_s78 : Fr [] [(70, 70)] σ0 s78 := by rw [e_s78]; exact h_σ.putA rfl
  refine bdF2 fun v79 _ => ?_
  exact hK26 _ _ _ _ _ h_s78
theorem fb_fX12_out_0b77 {σ0 : ST} {K26 : Int32 → Int32 → Int32 → Int32 → ST → (Int32 × ST)} (hK26 : ∀ (q0 : Int32) (q1 : Int32) (q2 : Int32) (q3 : Int32) (τ : ST), Fr [] [(70, 70)] σ0 τ → FrP [] [(70, 70)] σ0 (K26 q0 q1 q2 q3 τ)) {l2 : Int32} {l3 : Int32} {l4 : Int32} {l5 : Int32} {t0 : Int32} {σ : ST} (h_σ : Fr [] [(70, 70)] σ0 σ) : FrP [] [(70, 70)] σ0 (fX12_out_0b77 K26 l2 l3 l4 l5 t0 σ) := by
  unfold fX12_out_0b77
  exact fb_fX12_out_0b78 hK26 h_σ
theorem fb_fX12_out_0b73 {σ0 : ST} {K26 : Int32 → Int32 → Int32 → Int32 → ST → (Int32 × ST)} (hK26 : ∀ (q0 : Int32) (q1 : Int32) (q2 : Int32) (q3 : Int32) (τ : ST), Fr [] [(70, 70)] σ0 τ → FrP [] [(70, 70)] σ0 (K26 q0 q1 q2 q3 τ)) {l2 : Int32} {l3 : Int32} {l4 : Int32} {l5 : Int32} {t0 : Int32} {σ : ST} (h_σ : Fr [] [(70, 70)] σ0 σ) : FrP [] [(70, 70)] σ0 (fX12_out_0b73 K26 l2 l3 l4 l5 t0 σ) := by
  unfold fX12_out_0b73
  exact fb_fX12_out_0b78 hK26 h_σ
theorem fb_fX12_out_0b59 {σ0 : ST} {K26 : Int32 → Int32 → Int32 → Int32 → ST → (Int32 × ST)} (hK26 : ∀ (q0 : Int32) (q1 : Int32) (q2 : Int32) (q3 : Int32) (τ : ST), Fr [] [(70, 70)] σ0 τ → FrP [] [(70, 70)] σ0 (K26 q0 q1 q2 q3 τ)) {l2 : Int32} {l3 : Int32} {l5 : Int32} {t0 : Int32} {t1 : Int32} {σ : ST} (h_σ : Fr [] [(70, 70)] σ0 σ) : FrP [] [(70, 70)] σ0 (fX12_out_0b59 K26 l2 l3 l5 t0 t1 σ) := by
  unfold fX12_out_0b59
  refine bdF2 fun v59 _ => ?_
  exact iteF2 (fb_fX12_out_0b73 hK26 h_σ) (fb_fX12_out_0b77 hK26 h_σ)
theorem fb_fX12_out_0b58 {σ0 : ST} {K26 : Int32 → Int32 → Int32 → Int32 → ST → (Int32 × ST)} (hK26 : ∀ (q0 : Int32) (q1 : Int32) (q2 : Int32) (q3 : Int32) (τ : ST), Fr [] [(70, 70)] σ0 τ → FrP [] [(70, 70)] σ0 (K26 q0 q1 q2 q3 τ)) {l2 : Int32} {l3 : Int32} {l5 : Int32} {t0 : Int32} {σ : ST} (h_σ : Fr [] [(70, 70)] σ0 σ) : FrP [] [(70, 70)] σ0 (fX12_out_0b58 K26 l2 l3 l5 t0 σ) := by
  unfold fX12_out_0b58
  exact fb_fX12_out_0b59 hK26 h_σ
theorem fb_fX12_out_0b54 {σ0 : ST} {K26 : Int32 → Int32 → Int32 → Int32 → ST → (Int32 × ST)} (hK26 : ∀ (q0 : Int32) (q1 : Int32) (q2 : Int32) (q3 : Int32) (τ : ST), Fr [] [(70, 70)] σ0 τ → FrP [] [(70, 70)] σ0 (K26 q0 q1 q2 q3 τ)) {l2 : Int32} {l3 : Int32} {l5 : Int32} {t0 : Int32} {σ : ST} (h_σ : Fr [] [(70, 70)] σ0 σ) : FrP [] [(70, 70)] σ0 (fX12_out_0b54 K26 l2 l3 l5 t0 σ) := by
  unfold fX12_out_0b54
  exact fb_fX12_out_0b59 hK26 h_σ
theorem fb_fX12_out_0b51 {σ0 : ST} {K26 : Int32 → Int32 → Int32 → Int32 → ST → (Int32 × ST)} (hK26 : ∀ (q0 : Int32) (q1 : Int32) (q2 : Int32) (q3 : Int32) (τ : ST), Fr [] [(70, 70)] σ0 τ → FrP [] [(70, 70)] σ0 (K26 q0 q1 q2 q3 τ)) {l2 : Int32} {l3 : Int32} {l5 : Int32} {t0 : Int32} {t1 : Int32} {t2 : Int32} {σ : ST} (h_σ : Fr [] [(70, 70)] σ0 σ) : FrP [] [(70, 70)] σ0 (fX12_out_0b51 K26 l2 l3 l5 t0 t1 t2 σ) := by
  unfold fX12_out_0b51
  exact iteF2 (fb_fX12_out_0b54 hK26 h_σ) (fb_fX12_out_0b58 hK26 h_σ)
theorem fb_fX12_out_0b50 {σ0 : ST} {K26 : Int32 → Int32 → Int32 → Int32 → ST → (Int32 × ST)} (hK26 : ∀ (q0 : Int32) (q1 : Int32) (q2 : Int32) (q3 : Int32) (τ : ST), Fr [] [(70, 70)] σ0 τ → FrP [] [(70, 70)] σ0 (K26 q0 q1 q2 q3 τ)) {l2 : Int32} {l3 : Int32} {l5 : Int32} {t0 : Int32} {t1 : Int32} {σ : ST} (h_σ : Fr [] [(70, 70)] σ0 σ) : FrP [] [(70, 70)] σ0 (fX12_out_0b50 K26 l2 l3 l5 t0 t1 σ) := by
  unfold fX12_out_0b50
  exact fb_fX12_out_0b51 hK26 h_σ
theorem fb_fX12_out_0b46 {σ0 : ST} {K26 : Int32 → Int32 → Int32 → Int32 → ST → (Int32 × ST)} (hK26 : ∀ (q0 : Int32) (q1 : Int32) (q2 : Int32) (q3 : Int32) (τ : ST), Fr [] [(70, 70)] σ0 τ → FrP [] [(70, 70)] σ0 (K26 q0 q1 q2 q3 τ)) {l2 : Int32} {l3 : Int32} {l5 : Int32} {t0 : Int32} {t1 : Int32} {σ : ST} (h_σ : Fr [] [(70, 70)] σ0 σ) : FrP [] [(70, 70)] σ0 (fX12_out_0b46 K26 l2 l3 l5 t0 t1 σ) := by
  unfold fX12_out_0b46
  exact fb_fX12_out_0b51 hK26 h_σ
theorem fb_fX12_out_0b32 {σ0 : ST} {K26 : Int32 → Int32 → Int32 → Int32 → ST → (Int32 × ST)} (hK26 : ∀ (q0 : Int32) (q1 : Int32) (q2 : Int32) (q3 : Int32) (τ : ST), Fr [] [(70, 70)] σ0 τ → FrP [] [(70, 70)] σ0 (K26 q0 q1 q2 q3 τ)) {l2 : Int32} {l3 : Int32} {l4 : Int32} {l5 : Int32} {σ : ST} (h_σ : Fr [] [(70, 70)] σ0 σ) : FrP [] [(70, 70)] σ0 (fX12_out_0b32 K26 l2 l3 l4 l5 σ) := by
  unfold fX12_out_0b32
  refine bdF2 fun v40 _ => ?_
  exact iteF2 (fb_fX12_out_0b46 hK26 h_σ) (fb_fX12_out_0b50 hK26 h_σ)
theorem fb_fX12_out_0b26 {σ0 : ST} {K26 : Int32 → Int32 → Int32 → Int32 → ST → (Int32 × ST)} (hK26 : ∀ (q0 : Int32) (q1 : Int32) (q2 : Int32) (q3 : Int32) (τ : ST), Fr [] [(70, 70)] σ0 τ → FrP [] [(70, 70)] σ0 (K26 q0 q1 q2 q3 τ)) {l2 : Int32} {l3 : Int32} {l4 : Int32} {l5 : Int32} {σ : ST} (h_σ : Fr [] [(70, 70)] σ0 σ) : FrP [] [(70, 70)] σ0 (fX12_out_0b26 K26 l2 l3 l4 l5 σ) := by
  unfold fX12_out_0b26
  exact iteF2 (fb_fX12_out_0b85  h_σ) (fb_fX12_out_0b32 hK26 h_σ)
theorem fb_fX12_out_0l26 {σ0 : ST}  : ∀ (fu : Nat) {q0 : Int32} {q1 : Int32} {q2 : Int32} {q3 : Int32} {τ : ST} (h : Fr [] [(70, 70)] σ0 τ), FrP [] [(70, 70)] σ0 (fX12_out_0l26 fu q0 q1 q2 q3 τ)
  | 0, _, _, _, _, _, h => h
  | fu + 1, _, _, _, _, _, h => fb_fX12_out_0b26 (fun _ _ _ _ _ q => fb_fX12_out_0l26  fu q) h
theorem fb_fX12_out_0b20 {σ0 : ST}  {l1 : Int32} {l2 : Int32} {l3 : Int32} {σ : ST} (h_σ : Fr [] [(70, 70)] σ0 σ) : FrP [] [(70, 70)] σ0 (fX12_out_0b20 l1 l2 l3 σ) := by
  unfold fX12_out_0b20
  exact fb_fX12_out_0l26  _ h_σ
theorem fb_fX12_out_0b9 {σ0 : ST}  {l1 : Int32} {l2 : Int32} {l3 : Int32} {σ : ST} (h_σ : Fr [] [(70, 70)] σ0 σ) : FrP [] [(70, 70)] σ0 (fX12_out_0b9 l1 l2 l3 σ) := by
  unfold fX12_out_0b9
  refine bdF2 fun v12 _ => ?_
  exact iteF2 (fb_fX12_out_0b18  h_σ) (fb_fX12_out_0b20  h_σ)
theorem fb_fX12_out_0b0 {σ0 : ST}  {l1 : Int32} {l2 : Int32} {l3 : Int32} {σ : ST} (h_σ : Fr [] [(70, 70)] σ0 σ) : FrP [] [(70, 70)] σ0 (fX12_out_0b0 l1 l2 l3 σ) := by
  unfold fX12_out_0b0
  refine bdF2 fun v3 _ => ?_
  exact iteF2 (fb_fX12_out_0b18  h_σ) (fb_fX12_out_0b9  h_σ)
theorem fr_fX12_out_0 {p1 : Int32} {p2 : Int32} {p3 : Int32} {σ : ST} : Fr [] [(70, 70)] σ (fX12_out_0 p1 p2 p3 σ).2 := fb_fX12_out_0b0 (Fr.refl σ)
theorem fb_fX12_hush_0b0 {σ0 : ST}  {σ : ST} (h_σ : Fr [(31, 32), (34, 34)] [] σ0 σ) : FrP [(31, 32), (34, 34)] [] σ0 (fX12_hush_0b0 σ) := by
  unfold fX12_hush_0b0
  refine bdF2 fun v1 _ => ?_
  refine bdF2 fun s7 e_s7 => ?_
  have h_s7 : Fr [(31, 32), (34, 34)] [] σ0 s7 := by rw [e_s7]; exact h_σ.putI rfl
  refine bdF2 fun s12 e_s12 => ?_
  have h_s12 : Fr [(31, 32), (34, 34)] [] σ0 s12 := by rw [e_s12]; exact h_s7.putI rfl
  refine bdF2 fun s17 e_s17 => ?_
  have h_s17 : Fr [(31, 32), (34, 34)] [] σ0 s17 := by rw [e_s17]; exact h_s12.putI rfl
  exact h_s17
theorem fr_fX12_hush_0 {σ : ST} : Fr [(31, 32), (34, 34)] [] σ (fX12_hush_0 σ).2 := fb_fX12_hush_0b0 (Fr.refl σ)
theorem fb_fX12_findMiddle_0b189 {σ0 : ST}  {σ : ST} (h_σ : Fr [(38, 38)] [(81, 82)] σ0 σ) : Fr [(38, 38)] [(81, 82)] σ0 (fX12_findMiddle_0b189 σ) := by
  unfold fX12_findMiddle_0b189
  exact h_σ
theorem fb_fX12_findMiddle_0b183 {σ0 : ST} {K7 : Int32 → ST → ST} (hK7 : ∀ (q0 : Int32) (τ : ST), Fr [(38, 38)] [(81, 82)] σ0 τ → Fr [(38, 38)] [(81, 82)] σ0 (K7 q0 τ)) {l1 : Int32} {σ : ST} (h_σ : Fr [(38, 38)] [(81, 82)] σ0 σ) : Fr [(38, 38)] [(81, 82)] σ0 (fX12_findMiddle_0b183 K7 l1 σ) := by
  unfold fX12_findMiddle_0b183
  refine bdF fun v183 _ => ?_
  exact hK7 _ _ h_σ
theorem fb_fX12_findMiddle_0b173 {σ0 : ST} {K7 : Int32 → ST → ST} (hK7 : ∀ (q0 : Int32) (τ : ST), Fr [(38, 38)] [(81, 82)] σ0 τ → Fr [(38, 38)] [(81, 82)] σ0 (K7 q0 τ)) {K135 : Int32 → Int32 → Int32 → ST → ST} (hK135 : ∀ (q0 : Int32) (q1 : Int32) (q2 : Int32) (τ : ST), Fr [(38, 38)] [(81, 82)] σ0 τ → Fr [(38, 38)] [(81, 82)] σ0 (K135 q0 q1 q2 τ)) {l1 : Int32} {l2 : Int32} {l3 : Int32} {t0 : Int32} {t1 : Int32} {σ : ST} (h_σ : Fr [(38, 38)] [(81, 82)] σ0 σ) : Fr [(38, 38)] [(81, 82)] σ0 (fX12_findMiddle_0b173 K7 K135 l1 l2 l3 t0 t1 σ) := by
  unfold fX12_findMiddle_0b173
  refine bdF fun v173 _ => ?_
  refine bdF fun s174 e_s174 => ?_
  have h_s174 : Fr [(38, 38)] [(81, 82)] σ0 s174 := by rw [e_s174]; exact h_σ.putI rfl
  refine bdF fun v177 _ => ?_
  exact hK135 _ _ _ _ h_s174
theorem fb_fX12_findMiddle_0b171 {σ0 : ST} {K7 : Int32 → ST → ST} (hK7 : ∀ (q0 : Int32) (τ : ST), Fr [(38, 38)] [(81, 82)] σ0 τ → Fr [(38, 38)] [(81, 82)] σ0 (K7 q0 τ)) {K135 : Int32 → Int32 → Int32 → ST → ST} (hK135 : ∀ (q0 : Int32) (q1 : Int32) (q2 : Int32) (τ : ST), Fr [(38, 38)] [(81, 82)] σ0 τ → Fr [(38, 38)] [(81, 82)] σ0 (K135 q0 q1 q2 τ)) {l1 : Int32} {l2 : Int32} {l3 : Int32} {l4 : Int32} {t0 : Int32} {σ : ST} (h_σ : Fr [(38, 38)] [(81, 82)] σ0 σ) : Fr [(38, 38)] [(81, 82)] σ0 (fX12_findMiddle_0b171 K7 K135 l1 l2 l3 l4 t0 σ) := by
  unfold fX12_findMiddle_0b171
  exact fb_fX12_findMiddle_0b173 hK7 hK135 h_σ
theorem fb_fX12_findMiddle_0b165 {σ0 : ST} {K7 : Int32 → ST → ST} (hK7 : ∀ (q0 : Int32) (τ : ST), Fr [(38, 38)] [(81, 82)] σ0 τ → Fr [(38, 38)] [(81, 82)] σ0 (K7 q0 τ)) {K135 : Int32 → Int32 → Int32 → ST → ST} (hK135 : ∀ (q0 : Int32) (q1 : Int32) (q2 : Int32) (τ : ST), Fr [(38, 38)] [(81, 82)] σ0 τ → Fr [(38, 38)] [(81, 82)] σ0 (K135 q0 q1 q2 τ)) {l1 : Int32} {l2 : Int32} {l3 : Int32} {l4 : Int32} {t0 : Int32} {σ : ST} (h_σ : Fr [(38, 38)] [(81, 82)] σ0 σ) : Fr [(38, 38)] [(81, 82)] σ0 (fX12_findMiddle_0b165 K7 K135 l1 l2 l3 l4 t0 σ) := by
  unfold fX12_findMiddle_0b165
  refine bdF fun v167 _ => ?_
  exact fb_fX12_findMiddle_0b173 hK7 hK135 h_σ
theorem fb_fX12_findMiddle_0b140 {σ0 : ST} {K7 : Int32 → ST → ST} (hK7 : ∀ (q0 : Int32) (τ : ST), Fr [(38, 38)] [(81, 82)] σ0 τ → Fr [(38, 38)] [(81, 82)] σ0 (K7 q0 τ)) {K135 : Int32 → Int32 → Int32 → ST → ST} (hK135 : ∀ (q0 : Int32) (q1 : Int32) (q2 : Int32) (τ : ST), Fr [(38, 38)] [(81, 82)] σ0 τ → Fr [(38, 38)] [(81, 82)] σ0 (K135 q0 q1 q2 τ)) {l1 : Int32} {l2 : Int32} {l3 : Int32} {σ : ST} (h_σ : Fr [(38, 38)] [(81, 82)] σ0 σ) : Fr [(38, 38)] [(81, 82)] σ0 (fX12_findMiddle_0b140 K7 K135 l1 l2 l3 σ) := by
  unfold fX12_findMiddle_0b140
  refine bdF fun v145 _ => ?_
  refine bdF fun v151 _ => ?_
  refine bdF fun v152 _ => ?_
  refine bdF fun v157 _ => ?_
  exact iteF (fb_fX12_findMiddle_0b171 hK7 hK135 h_σ) (fb_fX12_findMiddle_0b165 hK7 hK135 h_σ)
theorem fb_fX12_findMiddle_0b135 {σ0 : ST} {K7 : Int32 → ST → ST} (hK7 : ∀ (q0 : Int32) (τ : ST), Fr [(38, 38)] [(81, 82)] σ0 τ → Fr [(38, 38)] [(81, 82)] σ0 (K7 q0 τ)) {K135 : Int32 → Int32 → Int32 → ST → ST} (hK135 : ∀ (q0 : Int32) (q1 : Int32) (q2 : Int32) (τ : ST), Fr [(38, 38)] [(81, 82)] σ0 τ → Fr [(38, 38)] [(81, 82)] σ0 (K135 q0 q1 q2 τ)) {l1 : Int32} {l2 : Int32} {l3 : Int32} {σ : ST} (h_σ : Fr [(38, 38)] [(81, 82)] σ0 σ) : Fr [(38, 38)] [(81, 82)] σ0 (fX12_findMiddle_0b135 K7 K135 l1 l2 l3 σ) := by
  unfold fX12_findMiddle_0b135
  exact iteF (fb_fX12_findMiddle_0b183 hK7 h_σ) (fb_fX12_findMiddle_0b140 hK7 hK135 h_σ)
theorem fb_fX12_findMiddle_0l135 {σ0 : ST} {K7 : Int32 → ST → ST} (hK7 : ∀ (q0 : Int32) (τ : ST), Fr [(38, 38)] [(81, 82)] σ0 τ → Fr [(38, 38)] [(81, 82)] σ0 (K7 q0 τ)) : ∀ (fu : Nat) {q0 : Int32} {q1 : Int32} {q2 : Int32} {τ : ST} (h : Fr [(38, 38)] [(81, 82)] σ0 τ), Fr [(38, 38)] [(81, 82)] σ0 (fX12_findMiddle_0l135 K7 fu q0 q1 q2 τ)
  | 0, _, _, _, _, h => h
  | fu + 1, _, _, _, _, h => fb_fX12_findMiddle_0b135 hK7 (fun _ _ _ _ q => fb_fX12_findMiddle_0l135 hK7 fu q) h
theorem fb_fX12_findMiddle_0b132 {σ0 : ST} {K7 : Int32 → ST → ST} (hK7 : ∀ (q0 : Int32) (τ : ST), Fr [(38, 38)] [(81, 82)] σ0 τ → Fr [(38, 38)] [(81, 82)] σ0 (K7 q0 τ)) {l1 : Int32} {l2 : Int32} {t0 : Int32} {t1 : Int32} {σ : ST} (h_σ : Fr [(38, 38)] [(81, 82)] σ0 σ) : Fr [(38, 38)] [(81, 82)] σ0 (fX12_findMiddle_0b132 K7 l1 l2 t0 t1 σ) := by
  unfold fX12_findMiddle_0b132
  refine bdF fun s132 e_s132 => ?_
  have h_s132 : Fr [(38, 38)] [(81, 82)] σ0 s132 := by rw [e_s132]; exact h_σ.putA rfl
  exact fb_fX12_findMiddle_0l135 hK7 _ h_s132
theorem fb_fX12_findMiddle_0b120 {σ0 : ST} {K7 : Int32 → ST → ST} (hK7 : ∀ (q0 : Int32) (τ : ST), Fr [(38, 38)] [(81, 82)] σ0 τ → Fr [(38, 38)] [(81, 82)] σ0 (K7 q0 τ)) {l1 : Int32} {l2 : Int32} {t0 : Int32} {σ : ST} (h_σ : Fr [(38, 38)] [(81, 82)] σ0 σ) : Fr [(38, 38)] [(81, 82)] σ0 (fX12_findMiddle_0b120 K7 l1 l2 t0 σ) := by
  unfold fX12_findMiddle_0b120
  refine bdF fun v126 _ => ?_
  refine bdF fun v128 _ => ?_
  refine bdF fun v130 _ => ?_
  refine bdF fun v131 _ => ?_
  exact fb_fX12_findMiddle_0b132 hK7 h_σ
theorem fb_fX12_findMiddle_0b116 {σ0 : ST} {K7 : Int32 → ST → ST} (hK7 : ∀ (q0 : Int32) (τ : ST), Fr [(38, 38)] [(81, 82)] σ0 τ → Fr [(38, 38)] [(81, 82)] σ0 (K7 q0 τ)) {l1 : Int32} {l2 : Int32} {t0 : Int32} {σ : ST} (h_σ : Fr [(38, 38)] [(81, 82)] σ0 σ) : Fr [(38, 38)] [(81, 82)] σ0 (fX12_findMiddle_0b116 K7 l1 l2 t0 σ) := by
  unfold fX12_findMiddle_0b116
  exact fb_fX12_findMiddle_0b132 hK7 h_σ
theorem fb_fX12_findMiddle_0b107 {σ0 : ST} {K7 : Int32 → ST → ST} (hK7 : ∀ (q0 : Int32) (τ : ST), Fr [(38, 38)] [(81, 82)] σ0 τ → Fr [(38, 38)] [(81, 82)] σ0 (K7 q0 τ)) {l1 : Int32} {l2 : Int32} {σ : ST} (h_σ : Fr [(38, 38)] [(81, 82)] σ0 σ) : Fr [(38, 38)] [(81, 82)] σ0 (fX12_findMiddle_0b107 K7 l1 l2 σ) := by
  unfold fX12_findMiddle_0b107
  exact iteF (fb_fX12_findMiddle_0b116 hK7 h_σ) (fb_fX12_findMiddle_0b120 hK7 h_σ)
theorem fb_fX12_findMiddle_0b101 {σ0 : ST} {K7 : Int32 → ST → ST} (hK7 : ∀ (q0 : Int32) (τ : ST), Fr [(38, 38)] [(81, 82)] σ0 τ → Fr [(38, 38)] [(81, 82)] σ0 (K7 q0 τ)) {K16 : Int32 → Int32 → Int32 → ST → ST} (hK16 : ∀ (q0 : Int32) (q1 : Int32) (q2 : Int32) (τ : ST), Fr [(38, 38)] [(81, 82)] σ0 τ → Fr [(38, 38)] [(81, 82)] σ0 (K16 q0 q1 q2 τ)) {l1 : Int32} {l2 : Int32} {l3 : Int32} {σ : ST} (h_σ : Fr [(38, 38)] [(81, 82)] σ0 σ) : Fr [(38, 38)] [(81, 82)] σ0 (fX12_findMiddle_0b101 K7 K16 l1 l2 l3 σ) := by
  unfold fX12_findMiddle_0b101
  refine bdF fun v101 _ => ?_
  exact hK16 _ _ _ _ h_σ
theorem fb_fX12_findMiddle_0b89 {σ0 : ST} {K7 : Int32 → ST → ST} (hK7 : ∀ (q0 : Int32) (τ : ST), Fr [(38, 38)] [(81, 82)] σ0 τ → Fr [(38, 38)] [(81, 82)] σ0 (K7 q0 τ)) {K16 : Int32 → Int32 → Int32 → ST → ST} (hK16 : ∀ (q0 : Int32) (q1 : Int32) (q2 : Int32) (τ : ST), Fr [(38, 38)] [(81, 82)] σ0 τ → Fr [(38, 38)] [(81, 82)] σ0 (K16 q0 q1 q2 τ)) {l1 : Int32} {l2 : Int32} {l3 : Int32} {l4 : Int32} {l5 : Int32} {σ : ST} (h_σ : Fr [(38, 38)] [(81, 82)] σ0 σ) : Fr [(38, 38)] [(81, 82)] σ0 (fX12_findMiddle_0b89 K7 K16 l1 l2 l3 l4 l5 σ) := by
  unfold fX12_findMiddle_0b89
  refine bdF fun s97 e_s97 => ?_
  have h_s97 : Fr [(38, 38)] [(81, 82)] σ0 s97 := by rw [e_s97]; exact h_σ.putA rfl
  refine bdF fun v98 _ => ?_
  exact fb_fX12_findMiddle_0b101 hK7 hK16 h_s97
theorem fb_fX12_findMiddle_0b67 {σ0 : ST} {K7 : Int32 → ST → ST} (hK7 : ∀ (q0 : Int32) (τ : ST), Fr [(38, 38)] [(81, 82)] σ0 τ → Fr [(38, 38)] [(81, 82)] σ0 (K7 q0 τ)) {K16 : Int32 → Int32 → Int32 → ST → ST} (hK16 : ∀ (q0 : Int32) (q1 : Int32) (q2 : Int32) (τ : ST), Fr [(38, 38)] [(81, 82)] σ0 τ → Fr [(38, 38)] [(81, 82)] σ0 (K16 q0 q1 q2 τ)) {K48 : Int32 → Int32 → Int32 → Int32 → Int32 → ST → ST} (hK48 : ∀ (q0 : Int32) (q1 : Int32) (q2 : Int32) (q3 : Int32) (q4 : Int32) (τ : ST), Fr [(38, 38)] [(81, 82)] σ0 τ → Fr [(38, 38)] [(81, 82)] σ0 (K48 q0 q1 q2 q3 q4 τ)) {l1 : Int32} {l2 : Int32} {l3 : Int32} {l4 : Int32} {l5 : Int32} {σ : ST} (h_σ : Fr [(38, 38)] [(81, 82)] σ0 σ) : Fr [(38, 38)] [(81, 82)] σ0 (fX12_findMiddle_0b67 K7 K16 K48 l1 l2 l3 l4 l5 σ) := by
  unfold fX12_findMiddle_0b67
  refine bdF fun v80 _ => ?_
  refine bdF fun v81 _ => ?_
  refine bdF fun s82 e_s82 => ?_
  have h_s82 : Fr [(38, 38)] [(81, 82)] σ0 s82 := by rw [e_s82]; exact h_σ.putA rfl
  refine bdF fun v83 _ => ?_
  exact hK48 _ _ _ _ _ _ h_s82
theorem fb_fX12_findMiddle_0b53 {σ0 : ST} {K7 : Int32 → ST → ST} (hK7 : ∀ (q0 : Int32) (τ : ST), Fr [(38, 38)] [(81, 82)] σ0 τ → Fr [(38, 38)] [(81, 82)] σ0 (K7 q0 τ)) {K16 : Int32 → Int32 → Int32 → ST → ST} (hK16 : ∀ (q0 : Int32) (q1 : Int32) (q2 : Int32) (τ : ST), Fr [(38, 38)] [(81, 82)] σ0 τ → Fr [(38, 38)] [(81, 82)] σ0 (K16 q0 q1 q2 τ)) {K48 : Int32 → Int32 → Int32 → Int32 → Int32 → ST → ST} (hK48 : ∀ (q0 : Int32) (q1 : Int32) (q2 : Int32) (q3 : Int32) (q4 : Int32) (τ : ST), Fr [(38, 38)] [(81, 82)] σ0 τ → Fr [(38, 38)] [(81, 82)] σ0 (K48 q0 q1 q2 q3 q4 τ)) {l1 : Int32} {l2 : Int32} {l3 : Int32} {l4 : Int32} {l5 : Int32} {σ : ST} (h_σ : Fr [(38, 38)] [(81, 82)] σ0 σ) : Fr [(38, 38)] [(81, 82)] σ0 (fX12_findMiddle_0b53 K7 K16 K48 l1 l2 l3 l4 l5 σ) := by
  unfold fX12_findMiddle_0b53
  refine bdF fun v60 _ => ?_
  refine bdF fun v61 _ => ?_
  exact iteF (fb_fX12_findMiddle_0b89 hK7 hK16 h_σ) (fb_fX12_findMiddle_0b67 hK7 hK16 hK48 h_σ)
theorem fb_fX12_findMiddle_0b48 {σ0 : ST} {K7 : Int32 → ST → ST} (hK7 : ∀ (q0 : Int32) (τ : ST), Fr [(38, 38)] [(81, 82)] σ0 τ → Fr [(38, 38)] [(81, 82)] σ0 (K7 q0 τ)) {K16 : Int32 → Int32 → Int32 → ST → ST} (hK16 : ∀ (q0 : Int32) (q1 : Int32) (q2 : Int32) (τ : ST), Fr [(38, 38)] [(81, 82)] σ0 τ → Fr [(38, 38)] [(81, 82)] σ0 (K16 q0 q1 q2 τ)) {K48 : Int32 → Int32 → Int32 → Int32 → Int32 → ST → ST} (hK48 : ∀ (q0 : Int32) (q1 : Int32) (q2 : Int32) (q3 : Int32) (q4 : Int32) (τ : ST), Fr [(38, 38)] [(81, 82)] σ0 τ → Fr [(38, 38)] [(81, 82)] σ0 (K48 q0 q1 q2 q3 q4 τ)) {l1 : Int32} {l2 : Int32} {l3 : Int32} {l4 : Int32} {l5 : Int32} {σ : ST} (h_σ : Fr [(38, 38)] [(81, 82)] σ0 σ) : Fr [(38, 38)] [(81, 82)] σ0 (fX12_findMiddle_0b48 K7 K16 K48 l1 l2 l3 l4 l5 σ) := by
  unfold fX12_findMiddle_0b48
  exact iteF (fb_fX12_findMiddle_0b89 hK7 hK16 h_σ) (fb_fX12_findMiddle_0b53 hK7 hK16 hK48 h_σ)
theorem fb_fX12_findMiddle_0l48 {σ0 : ST} {K7 : Int32 → ST → ST} (hK7 : ∀ (q0 : Int32) (τ : ST), Fr [(38, 38)] [(81, 82)] σ0 τ → Fr [(38, 38)] [(81, 82)] σ0 (K7 q0 τ)) {K16 : Int32 → Int32 → Int32 → ST → ST} (hK16 : ∀ (q0 : Int32) (q1 : Int32) (q2 : Int32) (τ : ST), Fr [(38, 38)] [(81, 82)] σ0 τ → Fr [(38, 38)] [(81, 82)] σ0 (K16 q0 q1 q2 τ)) : ∀ (fu : Nat) {q0 : Int32} {q1 : Int32} {q2 : Int32} {q3 : Int32} {q4 : Int32} {τ : ST} (h : Fr [(38, 38)] [(81, 82)] σ0 τ), Fr [(38, 38)] [(81, 82)] σ0 (fX12_findMiddle_0l48 K7 K16 fu q0 q1 q2 q3 q4 τ)
  | 0, _, _, _, _, _, _, h => h
  | fu + 1, _, _, _, _, _, _, h => fb_fX12_findMiddle_0b48 hK7 hK16 (fun _ _ _ _ _ _ q => fb_fX12_findMiddle_0l48 hK7 hK16 fu q) h
theorem fb_fX12_findMiddle_0b33 {σ0 : ST} {K7 : Int32 → ST → ST} (hK7 : ∀ (q0 : Int32) (τ : ST), Fr [(38, 38)] [(81, 82)] σ0 τ → Fr [(38, 38)] [(81, 82)] σ0 (K7 q0 τ)) {K16 : Int32 → Int32 → Int32 → ST → ST} (hK16 : ∀ (q0 : Int32) (q1 : Int32) (q2 : Int32) (τ : ST), Fr [(38, 38)] [(81, 82)] σ0 τ → Fr [(38, 38)] [(81, 82)] σ0 (K16 q0 q1 q2 τ)) {l1 : Int32} {l2 : Int32} {l3 : Int32} {σ : ST} (h_σ : Fr [(38, 38)] [(81, 82)] σ0 σ) : Fr [(38, 38)] [(81, 82)] σ0 (fX12_findMiddle_0b33 K7 K16 l1 l2 l3 σ) := by
  unfold fX12_findMiddle_0b33
  refine bdF fun v39 _ => ?_
  refine bdF fun v41 _ => ?_
  refine bdF fun v42 _ => ?_
  exact fb_fX12_findMiddle_0l48 hK7 hK16 _ h_σ
theorem fb_fX12_findMiddle_0b24 {σ0 : ST} {K7 : Int32 → ST → ST} (hK7 : ∀ (q0 : Int32) (τ : ST), Fr [(38, 38)] [(81, 82)] σ0 τ → Fr [(38, 38)] [(81, 82)] σ0 (K7 q0 τ)) {K16 : Int32 → Int32 → Int32 → ST → ST} (hK16 : ∀ (q0 : Int32) (q1 : Int32) (q2 : Int32) (τ : ST), Fr [(38, 38)] [(81, 82)] σ0 τ → Fr [(38, 38)] [(81, 82)] σ0 (K16 q0 q1 q2 τ)) {l1 : Int32} {l2 : Int32} {l3 : Int32} {σ : ST} (h_σ : Fr [(38, 38)] [(81, 82)] σ0 σ) : Fr [(38, 38)] [(81, 82)] σ0 (fX12_findMiddle_0b24 K7 K16 l1 l2 l3 σ) := by
  unfold fX12_findMiddle_0b24
  refine bdF fun v29 _ => ?_
  exact iteF (fb_fX12_findMiddle_0b101 hK7 hK16 h_σ) (fb_fX12_findMiddle_0b33 hK7 hK16 h_σ)
theorem fb_fX12_findMiddle_0b16 {σ0 : ST} {K7 : Int32 → ST → ST} (hK7 : ∀ (q0 : Int32) (τ : ST), Fr [(38, 38)] [(81, 82)] σ0 τ → Fr [(38, 38)] [(81, 82)] σ0 (K7 q0 τ)) {K16 : Int32 → Int32 → Int32 → ST → ST} (hK16 : ∀ (q0 : Int32) (q1 : Int32) (q2 : Int32) (τ : ST), Fr [(38, 38)] [(81, 82)] σ0 τ → Fr [(38, 38)] [(81, 82)] σ0 (K16 q0 q1 q2 τ)) {l1 : Int32} {l2 : Int32} {l3 : Int32} {σ : ST} (h_σ : Fr [(38, 38)] [(81, 82)] σ0 σ) : Fr [(38, 38)] [(81, 82)] σ0 (fX12_findMiddle_0b16 K7 K16 l1 l2 l3 σ) := by
  unfold fX12_findMiddle_0b16
  refine bdF fun v18 _ => ?_
  exact iteF (fb_fX12_findMiddle_0b107 hK7 h_σ) (fb_fX12_findMiddle_0b24 hK7 hK16 h_σ)
theorem fb_fX12_findMiddle_0l16 {σ0 : ST} {K7 : Int32 → ST → ST} (hK7 : ∀ (q0 : Int32) (τ : ST), Fr [(38, 38)] [(81, 82)] σ0 τ → Fr [(38, 38)] [(81, 82)] σ0 (K7 q0 τ)) : ∀ (fu : Nat) {q0 : Int32} {q1 : Int32} {q2 : Int32} {τ : ST} (h : Fr [(38, 38)] [(81, 82)] σ0 τ), Fr [(38, 38)] [(81, 82)] σ0 (fX12_findMiddle_0l16 K7 fu q0 q1 q2 τ)
  | 0, _, _, _, _, h => h
  | fu + 1, _, _, _, _, h => fb_fX12_findMiddle_0b16 hK7 (fun _ _ _ _ q => fb_fX12_findMiddle_0l16 hK7 fu q) h
theorem fb_fX12_findMiddle_0b12 {σ0 : ST} {K7 : Int32 → ST → ST} (hK7 : ∀ (q0 : Int32) (τ : ST), Fr [(38, 38)] [(81, 82)] σ0 τ → Fr [(38, 38)] [(81, 82)] σ0 (K7 q0 τ)) {l1 : Int32} {σ : ST} (h_σ : Fr [(38, 38)] [(81, 82)] σ0 σ) : Fr [(38, 38)] [(81, 82)] σ0 (fX12_findMiddle_0b12 K7 l1 σ) := by
  unfold fX12_findMiddle_0b12
  exact fb_fX12_findMiddle_0l16 hK7 _ h_σ
theorem fb_fX12_findMiddle_0b7 {σ0 : ST} {K7 : Int32 → ST → ST} (hK7 : ∀ (q0 : Int32) (τ : ST), Fr [(38, 38)] [(81, 82)] σ0 τ → Fr [(38, 38)] [(81, 82)] σ0 (K7 q0 τ)) {l1 : Int32} {σ : ST} (h_σ : Fr [(38, 38)] [(81, 82)] σ0 σ) : Fr [(38, 38)] [(81, 82)] σ0 (fX12_findMiddle_0b7 K7 l1 σ) := by
  unfold fX12_findMiddle_0b7
  exact iteF (fb_fX12_findMiddle_0b189  h_σ) (fb_fX12_findMiddle_0b12 hK7 h_σ)
theorem fb_fX12_findMiddle_0l7 {σ0 : ST}  : ∀ (fu : Nat) {q0 : Int32} {τ : ST} (h : Fr [(38, 38)] [(81, 82)] σ0 τ), Fr [(38, 38)] [(81, 82)] σ0 (fX12_findMiddle_0l7 fu q0 τ)
  | 0, _, _, h => h
  | fu + 1, _, _, h => fb_fX12_findMiddle_0b7 (fun _ _ q => fb_fX12_findMiddle_0l7  fu q) h
theorem fb_fX12_findMiddle_0b0 {σ0 : ST}  {σ : ST} (h_σ : Fr [(38, 38)] [(81, 82)] σ0 σ) : Fr [(38, 38)] [(81, 82)] σ0 (fX12_findMiddle_0b0 σ) := by
  unfold fX12_findMiddle_0b0
  refine bdF fun s2 e_s2 => ?_
  have h_s2 : Fr [(38, 38)] [(81, 82)] σ0 s2 := by rw [e_s2]; exact h_σ.putI rfl
  exact fb_fX12_findMiddle_0l7  _ h_s2
theorem fr_fX12_findMiddle_0 {σ : ST} : Fr [(38, 38)] [(81, 82)] σ (fX12_findMiddle_0 σ) := fb_fX12_findMiddle_0b0 (Fr.refl σ)
theorem fb_fX12_askRows_0b32 {σ0 : ST}  {σ : ST} (h_σ : Fr [(38, 38)] [(80, 82)] σ0 σ) : Fr [(38, 38)] [(80, 82)] σ0 (fX12_askRows_0b32 σ) := by
  unfold fX12_askRows_0b32
  refine bdF fun s33 e_s33 => ?_
  have h_s33 : Fr [(38, 38)] [(80, 82)] σ0 s33 := by rw [e_s33]; exact h_σ.call fr_fX12_findMiddle_0 rfl rfl
  exact h_s33
theorem fb_fX12_askRows_0b10 {σ0 : ST} {K2 : Int32 → Int32 → Int32 → ST → ST} (hK2 : ∀ (q0 : Int32) (q1 : Int32) (q2 : Int32) (τ : ST), Fr [(38, 38)] [(80, 82)] σ0 τ → Fr [(38, 38)] [(80, 82)] σ0 (K2 q0 q1 q2 τ)) {l1 : Int32} {l2 : Int32} {l3 : Int32} {σ : ST} (h_σ : Fr [(38, 38)] [(80, 82)] σ0 σ) : Fr [(38, 38)] [(80, 82)] σ0 (fX12_askRows_0b10 K2 l1 l2 l3 σ) := by
  unfold fX12_askRows_0b10
  refine bdF fun v19 _ => ?_
  refine bdF fun v21 _ => ?_
  refine bdF fun v22 _ => ?_
  refine bdF fun s25 e_s25 => ?_
  have h_s25 : Fr [(38, 38)] [(80, 82)] σ0 s25 := by rw [e_s25]; exact h_σ.putA rfl
  refine bdF fun v26 _ => ?_
  exact hK2 _ _ _ _ h_s25
theorem fb_fX12_askRows_0b2 {σ0 : ST} {K2 : Int32 → Int32 → Int32 → ST → ST} (hK2 : ∀ (q0 : Int32) (q1 : Int32) (q2 : Int32) (τ : ST), Fr [(38, 38)] [(80, 82)] σ0 τ → Fr [(38, 38)] [(80, 82)] σ0 (K2 q0 q1 q2 τ)) {l1 : Int32} {l2 : Int32} {l3 : Int32} {σ : ST} (h_σ : Fr [(38, 38)] [(80, 82)] σ0 σ) : Fr [(38, 38)] [(80, 82)] σ0 (fX12_askRows_0b2 K2 l1 l2 l3 σ) := by
  unfold fX12_askRows_0b2
  refine bdF fun v4 _ => ?_
  exact iteF (fb_fX12_askRows_0b32  h_σ) (fb_fX12_askRows_0b10 hK2 h_σ)
theorem fb_fX12_askRows_0l2 {σ0 : ST}  : ∀ (fu : Nat) {q0 : Int32} {q1 : Int32} {q2 : Int32} {τ : ST} (h : Fr [(38, 38)] [(80, 82)] σ0 τ), Fr [(38, 38)] [(80, 82)] σ0 (fX12_askRows_0l2 fu q0 q1 q2 τ)
  | 0, _, _, _, _, h => h
  | fu + 1, _, _, _, _, h => fb_fX12_askRows_0b2 (fun _ _ _ _ q => fb_fX12_askRows_0l2  fu q) h
theorem fb_fX12_askRows_0b0 {σ0 : ST}  {l1 : Int32} {l2 : Int32} {σ : ST} (h_σ : Fr [(38, 38)] [(80, 82)] σ0 σ) : Fr [(38, 38)] [(80, 82)] σ0 (fX12_askRows_0b0 l1 l2 σ) := by
  unfold fX12_askRows_0b0
  exact fb_fX12_askRows_0l2  _ h_σ
theorem fr_fX12_askRows_0 {p1 : Int32} {p2 : Int32} {σ : ST} : Fr [(38, 38)] [(80, 82)] σ (fX12_askRows_0 p1 p2 σ) := fb_fX12_askRows_0b0 (Fr.refl σ)
theorem fb_fX12_cut_0b276 {σ0 : ST}  {σ : ST} (h_σ : Fr [(35, 35), (37, 38)] [(75, 84)] σ0 σ) : Fr [(35, 35), (37, 38)] [(75, 84)] σ0 (fX12_cut_0b276 σ) := by
  unfold fX12_cut_0b276
  exact h_σ
theorem fb_fX12_cut_0b254 {σ0 : ST} {K131 : Int32 → Int32 → ST → ST} (hK131 : ∀ (q0 : Int32) (q1 : Int32) (τ : ST), Fr [(35, 35), (37, 38)] [(75, 84)] σ0 τ → Fr [(35, 35), (37, 38)] [(75, 84)] σ0 (K131 q0 q1 τ)) {l2 : Int32} {l3 : Int32} {σ : ST} (h_σ : Fr [(35, 35), (37, 38)] [(75, 84)] σ0 σ) : Fr [(35, 35), (37, 38)] [(75, 84)] σ0 (fX12_cut_0b254 K131 l2 l3 σ) := by
  unfold fX12_cut_0b254
  refine bdF fun v256 _ => ?_
  refine bdF fun v260 _ => ?_
  refine bdF fun s261 e_s261 => ?_
  have h_s261 : Fr [(35, 35), (37, 38)] [(75, 84)] σ0 s261 := by rw [e_s261]; exact h_σ.putI rfl
  refine bdF fun v270 _ => ?_
  refine bdF fun v271 _ => ?_
  exact hK131 _ _ _ h_s261
theorem fb_fX12_cut_0b237 {σ0 : ST} {K131 : Int32 → Int32 → ST → ST} (hK131 : ∀ (q0 : Int32) (q1 : Int32) (τ : ST), Fr [(35, 35), (37, 38)] [(75, 84)] σ0 τ → Fr [(35, 35), (37, 38)] [(75, 84)] σ0 (K131 q0 q1 τ)) {K224 : Int32 → Int32 → Int32 → ST → ST} (hK224 : ∀ (q0 : Int32) (q1 : Int32) (q2 : Int32) (τ : ST), Fr [(35, 35), (37, 38)] [(75, 84)] σ0 τ → Fr [(35, 35), (37, 38)] [(75, 84)] σ0 (K224 q0 q1 q2 τ)) {l2 : Int32} {l3 : Int32} {l4 : Int32} {σ : ST} (h_σ : Fr [(35, 35), (37, 38)] [(75, 84)] σ0 σ) : Fr [(35, 35), (37, 38)] [(75, 84)] σ0 (fX12_cut_0b237 K131 K224 l2 l3 l4 σ) := by
  unfold fX12_cut_0b237
  refine bdF fun v244 _ => ?_
  refine bdF fun s247 e_s247 => ?_
  have h_s247 : Fr [(35, 35), (37, 38)] [(75, 84)] σ0 s247 := by rw [e_s247]; exact h_σ.putA rfl
  refine bdF fun v248 _ => ?_
  exact hK224 _ _ _ _ h_s247
theorem fb_fX12_cut_0b224 {σ0 : ST} {K131 : Int32 → Int32 → ST → ST} (hK131 : ∀ (q0 : Int32) (q1 : Int32) (τ : ST), Fr [(35, 35), (37, 38)] [(75, 84)] σ0 τ → Fr [(35, 35), (37, 38)] [(75, 84)] σ0 (K131 q0 q1 τ)) {K224 : Int32 → Int32 → Int32 → ST → ST} (hK224 : ∀ (q0 : Int32) (q1 : Int32) (q2 : Int32) (τ : ST), Fr [(35, 35), (37, 38)] [(75, 84)] σ0 τ → Fr [(35, 35), (37, 38)] [(75, 84)] σ0 (K224 q0 q1 q2 τ)) {l2 : Int32} {l3 : Int32} {l4 : Int32} {σ : ST} (h_σ : Fr [(35, 35), (37, 38)] [(75, 84)] σ0 σ) : Fr [(35, 35), (37, 38)] [(75, 84)] σ0 (fX12_cut_0b224 K131 K224 l2 l3 l4 σ) := by
  unfold fX12_cut_0b224
  refine bdF fun v232 _ => ?_
  refine bdF fun v233 _ => ?_
  exact iteF (fb_fX12_cut_0b254 hK131 h_σ) (fb_fX12_cut_0b237 hK131 hK224 h_σ)
theorem fb_fX12_cut_0l224 {σ0 : ST} {K131 : Int32 → Int32 → ST → ST} (hK131 : ∀ (q0 : Int32) (q1 : Int32) (τ : ST), Fr [(35, 35), (37, 38)] [(75, 84)] σ0 τ → Fr [(35, 35), (37, 38)] [(75, 84)] σ0 (K131 q0 q1 τ)) : ∀ (fu : Nat) {q0 : Int32} {q1 : Int32} {q2 : Int32} {τ : ST} (h : Fr [(35, 35), (37, 38)] [(75, 84)] σ0 τ), Fr [(35, 35), (37, 38)] [(75, 84)] σ0 (fX12_cut_0l224 K131 fu q0 q1 q2 τ)
  | 0, _, _, _, _, h => h
  | fu + 1, _, _, _, _, h => fb_fX12_cut_0b224 hK131 (fun _ _ _ _ q => fb_fX12_cut_0l224 hK131 fu q) h
theorem fb_fX12_cut_0b221 {σ0 : ST} {K131 : Int32 → Int32 → ST → ST} (hK131 : ∀ (q0 : Int32) (q1 : Int32) (τ : ST), Fr [(35, 35), (37, 38)] [(75, 84)] σ0 τ → Fr [(35, 35), (37, 38)] [(75, 84)] σ0 (K131 q0 q1 τ)) {l2 : Int32} {l3 : Int32} {σ : ST} (h_σ : Fr [(35, 35), (37, 38)] [(75, 84)] σ0 σ) : Fr [(35, 35), (37, 38)] [(75, 84)] σ0 (fX12_cut_0b221 K131 l2 l3 σ) := by
  unfold fX12_cut_0b221
  exact fb_fX12_cut_0l224 hK131 _ h_σ
theorem fb_fX12_cut_0b194 {σ0 : ST} {K131 : Int32 → Int32 → ST → ST} (hK131 : ∀ (q0 : Int32) (q1 : Int32) (τ : ST), Fr [(35, 35), (37, 38)] [(75, 84)] σ0 τ → Fr [(35, 35), (37, 38)] [(75, 84)] σ0 (K131 q0 q1 τ)) {K188 : Int32 → Int32 → Int32 → ST → ST} (hK188 : ∀ (q0 : Int32) (q1 : Int32) (q2 : Int32) (τ : ST), Fr [(35, 35), (37, 38)] [(75, 84)] σ0 τ → Fr [(35, 35), (37, 38)] [(75, 84)] σ0 (K188 q0 q1 q2 τ)) {l2 : Int32} {l3 : Int32} {l4 : Int32} {σ : ST} (h_σ : Fr [(35, 35), (37, 38)] [(75, 84)] σ0 σ) : Fr [(35, 35), (37, 38)] [(75, 84)] σ0 (fX12_cut_0b194 K131 K188 l2 l3 l4 σ) := by
  unfold fX12_cut_0b194
  refine bdF fun v200 _ => ?_
  refine bdF fun v203 _ => ?_
  refine bdF fun v206 _ => ?_
  refine bdF fun v213 _ => ?_
  refine bdF fun s214 e_s214 => ?_
  have h_s214 : Fr [(35, 35), (37, 38)] [(75, 84)] σ0 s214 := by rw [e_s214]; exact h_σ.putA rfl
  refine bdF fun v215 _ => ?_
  exact hK188 _ _ _ _ h_s214
theorem fb_fX12_cut_0b188 {σ0 : ST} {K131 : Int32 → Int32 → ST → ST} (hK131 : ∀ (q0 : Int32) (q1 : Int32) (τ : ST), Fr [(35, 35), (37, 38)] [(75, 84)] σ0 τ → Fr [(35, 35), (37, 38)] [(75, 84)] σ0 (K131 q0 q1 τ)) {K188 : Int32 → Int32 → Int32 → ST → ST} (hK188 : ∀ (q0 : Int32) (q1 : Int32) (q2 : Int32) (τ : ST), Fr [(35, 35), (37, 38)] [(75, 84)] σ0 τ → Fr [(35, 35), (37, 38)] [(75, 84)] σ0 (K188 q0 q1 q2 τ)) {l2 : Int32} {l3 : Int32} {l4 : Int32} {σ : ST} (h_σ : Fr [(35, 35), (37, 38)] [(75, 84)] σ0 σ) : Fr [(35, 35), (37, 38)] [(75, 84)] σ0 (fX12_cut_0b188 K131 K188 l2 l3 l4 σ) := by
  unfold fX12_cut_0b188
  exact iteF (fb_fX12_cut_0b221 hK131 h_σ) (fb_fX12_cut_0b194 hK131 hK188 h_σ)
theorem fb_fX12_cut_0l188 {σ0 : ST} {K131 : Int32 → Int32 → ST → ST} (hK131 : ∀ (q0 : Int32) (q1 : Int32) (τ : ST), Fr [(35, 35), (37, 38)] [(75, 84)] σ0 τ → Fr [(35, 35), (37, 38)] [(75, 84)] σ0 (K131 q0 q1 τ)) : ∀ (fu : Nat) {q0 : Int32} {q1 : Int32} {q2 : Int32} {τ : ST} (h : Fr [(35, 35), (37, 38)] [(75, 84)] σ0 τ), Fr [(35, 35), (37, 38)] [(75, 84)] σ0 (fX12_cut_0l188 K131 fu q0 q1 q2 τ)
  | 0, _, _, _, _, h => h
  | fu + 1, _, _, _, _, h => fb_fX12_cut_0b188 hK131 (fun _ _ _ _ q => fb_fX12_cut_0l188 hK131 fu q) h
theorem fb_fX12_cut_0b136 {σ0 : ST} {K131 : Int32 → Int32 → ST → ST} (hK131 : ∀ (q0 : Int32) (q1 : Int32) (τ : ST), Fr [(35, 35), (37, 38)] [(75, 84)] σ0 τ → Fr [(35, 35), (37, 38)] [(75, 84)] σ0 (K131 q0 q1 τ)) {l2 : Int32} {l3 : Int32} {σ : ST} (h_σ : Fr [(35, 35), (37, 38)] [(75, 84)] σ0 σ) : Fr [(35, 35), (37, 38)] [(75, 84)] σ0 (fX12_cut_0b136 K131 l2 l3 σ) := by
  unfold fX12_cut_0b136
  refine bdF fun v141 _ => ?_
  refine bdF fun s145 e_s145 => ?_
  have h_s145 : Fr [(35, 35), (37, 38)] [(75, 84)] σ0 s145 := by rw [e_s145]; exact h_σ.putA rfl
  refine bdF fun v151 _ => ?_
  refine bdF fun v159 _ => ?_
  refine bdF fun s160 e_s160 => ?_
  have h_s160 : Fr [(35, 35), (37, 38)] [(75, 84)] σ0 s160 := by rw [e_s160]; exact h_s145.putA rfl
  refine bdF fun v168 _ => ?_
  refine bdF fun s169 e_s169 => ?_
  have h_s169 : Fr [(35, 35), (37, 38)] [(75, 84)] σ0 s169 := by rw [e_s169]; exact h_s160.call fr_fX12_askRows_0 rfl rfl
  refine bdF fun v177 _ => ?_
  refine bdF fun v181 _ => ?_
  refine bdF fun s184 e_s184 => ?_
  have h_s184 : Fr [(35, 35), (37, 38)] [(75, 84)] σ0 s184 := by rw [e_s184]; exact h_s169.putA rfl
  exact fb_fX12_cut_0l188 hK131 _ h_s184
theorem fb_fX12_cut_0b131 {σ0 : ST} {K131 : Int32 → Int32 → ST → ST} (hK131 : ∀ (q0 : Int32) (q1 : Int32) (τ : ST), Fr [(35, 35), (37, 38)] [(75, 84)] σ0 τ → Fr [(35, 35), (37, 38)] [(75, 84)] σ0 (K131 q0 q1 τ)) {l2 : Int32} {l3 : Int32} {σ : ST} (h_σ : Fr [(35, 35), (37, 38)] [(75, 84)] σ0 σ) : Fr [(35, 35), (37, 38)] [(75, 84)] σ0 (fX12_cut_0b131 K131 l2 l3 σ) := by
  unfold fX12_cut_0b131
  exact iteF (fb_fX12_cut_0b276  h_σ) (fb_fX12_cut_0b136 hK131 h_σ)
theorem fb_fX12_cut_0l131 {σ0 : ST}  : ∀ (fu : Nat) {q0 : Int32} {q1 : Int32} {τ : ST} (h : Fr [(35, 35), (37, 38)] [(75, 84)] σ0 τ), Fr [(35, 35), (37, 38)] [(75, 84)] σ0 (fX12_cut_0l131 fu q0 q1 τ)
  | 0, _, _, _, h => h
  | fu + 1, _, _, _, h => fb_fX12_cut_0b131 (fun _ _ _ q => fb_fX12_cut_0l131  fu q) h
theorem fb_fX12_cut_0b114 {σ0 : ST}  {l1 : Int32} {l2 : Int32} {σ : ST} (h_σ : Fr [(35, 35), (37, 38)] [(75, 84)] σ0 σ) : Fr [(35, 35), (37, 38)] [(75, 84)] σ0 (fX12_cut_0b114 l1 l2 σ) := by
  unfold fX12_cut_0b114
  refine bdF fun v116 _ => ?_
  refine bdF fun v124 _ => ?_
  refine bdF fun v125 _ => ?_
  refine bdF fun s126 e_s126 => ?_
  have h_s126 : Fr [(35, 35), (37, 38)] [(75, 84)] σ0 s126 := by rw [e_s126]; exact h_σ.putI rfl
  exact fb_fX12_cut_0l131  _ h_s126
theorem fb_fX12_cut_0b108 {σ0 : ST} {K11 : Int32 → Int32 → Int32 → ST → ST} (hK11 : ∀ (q0 : Int32) (q1 : Int32) (q2 : Int32) (τ : ST), Fr [(35, 35), (37, 38)] [(75, 84)] σ0 τ → Fr [(35, 35), (37, 38)] [(75, 84)] σ0 (K11 q0 q1 q2 τ)) {l1 : Int32} {l2 : Int32} {l3 : Int32} {σ : ST} (h_σ : Fr [(35, 35), (37, 38)] [(75, 84)] σ0 σ) : Fr [(35, 35), (37, 38)] [(75, 84)] σ0 (fX12_cut_0b108 K11 l1 l2 l3 σ) := by
  unfold fX12_cut_0b108
  refine bdF fun v108 _ => ?_
  exact hK11 _ _ _ _ h_σ
theorem fb_fX12_cut_0b102 {σ0 : ST} {K11 : Int32 → Int32 → Int32 → ST → ST} (hK11 : ∀ (q0 : Int32) (q1 : Int32) (q2 : Int32) (τ : ST), Fr [(35, 35), (37, 38)] [(75, 84)] σ0 τ → Fr [(35, 35), (37, 38)] [(75, 84)] σ0 (K11 q0 q1 q2 τ)) {K26 : Int32 → Int32 → Int32 → Int32 → ST → ST} (hK26 : ∀ (q0 : Int32) (q1 : Int32) (q2 : Int32) (q3 : Int32) (τ : ST), Fr [(35, 35), (37, 38)] [(75, 84)] σ0 τ → Fr [(35, 35), (37, 38)] [(75, 84)] σ0 (K26 q0 q1 q2 q3 τ)) {l1 : Int32} {l2 : Int32} {l3 : Int32} {l4 : Int32} {σ : ST} (h_σ : Fr [(35, 35), (37, 38)] [(75, 84)] σ0 σ) : Fr [(35, 35), (37, 38)] [(75, 84)] σ0 (fX12_cut_0b102 K11 K26 l1 l2 l3 l4 σ) := by
  unfold fX12_cut_0b102
  refine bdF fun v102 _ => ?_
  exact hK26 _ _ _ _ _ h_σ
theorem fb_fX12_cut_0b86 {σ0 : ST} {K11 : Int32 → Int32 → Int32 → ST → ST} (hK11 : ∀ (q0 : Int32) (q1 : Int32) (q2 : Int32) (τ : ST), Fr [(35, 35), (37, 38)] [(75, 84)] σ0 τ → Fr [(35, 35), (37, 38)] [(75, 84)] σ0 (K11 q0 q1 q2 τ)) {K26 : Int32 → Int32 → Int32 → Int32 → ST → ST} (hK26 : ∀ (q0 : Int32) (q1 : Int32) (q2 : Int32) (q3 : Int32) (τ : ST), Fr [(35, 35), (37, 38)] [(75, 84)] σ0 τ → Fr [(35, 35), (37, 38)] [(75, 84)] σ0 (K26 q0 q1 q2 q3 τ)) {l1 : Int32} {l2 : Int32} {l3 : Int32} {l4 : Int32} {l5 : Int32} {σ : ST} (h_σ : Fr [(35, 35), (37, 38)] [(75, 84)] σ0 σ) : Fr [(35, 35), (37, 38)] [(75, 84)] σ0 (fX12_cut_0b86 K11 K26 l1 l2 l3 l4 l5 σ) := by
  unfold fX12_cut_0b86
  refine bdF fun s93 e_s93 => ?_
  have h_s93 : Fr [(35, 35), (37, 38)] [(75, 84)] σ0 s93 := by rw [e_s93]; exact h_σ.putA rfl
  refine bdF fun s101 e_s101 => ?_
  have h_s101 : Fr [(35, 35), (37, 38)] [(75, 84)] σ0 s101 := by rw [e_s101]; exact h_s93.putA rfl
  exact fb_fX12_cut_0b102 hK11 hK26 h_s101
theorem fb_fX12_cut_0b75 {σ0 : ST} {K11 : Int32 → Int32 → Int32 → ST → ST} (hK11 : ∀ (q0 : Int32) (q1 : Int32) (q2 : Int32) (τ : ST), Fr [(35, 35), (37, 38)] [(75, 84)] σ0 τ → Fr [(35, 35), (37, 38)] [(75, 84)] σ0 (K11 q0 q1 q2 τ)) {K26 : Int32 → Int32 → Int32 → Int32 → ST → ST} (hK26 : ∀ (q0 : Int32) (q1 : Int32) (q2 : Int32) (q3 : Int32) (τ : ST), Fr [(35, 35), (37, 38)] [(75, 84)] σ0 τ → Fr [(35, 35), (37, 38)] [(75, 84)] σ0 (K26 q0 q1 q2 q3 τ)) {l1 : Int32} {l2 : Int32} {l3 : Int32} {l4 : Int32} {l5 : Int32} {σ : ST} (h_σ : Fr [(35, 35), (37, 38)] [(75, 84)] σ0 σ) : Fr [(35, 35), (37, 38)] [(75, 84)] σ0 (fX12_cut_0b75 K11 K26 l1 l2 l3 l4 l5 σ) := by
  unfold fX12_cut_0b75
  refine bdF fun v82 _ => ?_
  exact iteF (fb_fX12_cut_0b102 hK11 hK26 h_σ) (fb_fX12_cut_0b86 hK11 hK26 h_σ)
theorem fb_fX12_cut_0b36 {σ0 : ST} {K11 : Int32 → Int32 → Int32 → ST → ST} (hK11 : ∀ (q0 : Int32) (q1 : Int32) (q2 : Int32) (τ : ST), Fr [(35, 35), (37, 38)] [(75, 84)] σ0 τ → Fr [(35, 35), (37, 38)] [(75, 84)] σ0 (K11 q0 q1 q2 τ)) {K26 : Int32 → Int32 → Int32 → Int32 → ST → ST} (hK26 : ∀ (q0 : Int32) (q1 : Int32) (q2 : Int32) (q3 : Int32) (τ : ST), Fr [(35, 35), (37, 38)] [(75, 84)] σ0 τ → Fr [(35, 35), (37, 38)] [(75, 84)] σ0 (K26 q0 q1 q2 q3 τ)) {l1 : Int32} {l2 : Int32} {l3 : Int32} {l4 : Int32} {σ : ST} (h_σ : Fr [(35, 35), (37, 38)] [(75, 84)] σ0 σ) : Fr [(35, 35), (37, 38)] [(75, 84)] σ0 (fX12_cut_0b36 K11 K26 l1 l2 l3 l4 σ) := by
  unfold fX12_cut_0b36
  refine bdF fun s40 e_s40 => ?_
  have h_s40 : Fr [(35, 35), (37, 38)] [(75, 84)] σ0 s40 := by rw [e_s40]; exact h_σ.call fr_fX12_askRows_0 rfl rfl
  refine bdF fun v44 _ => ?_
  refine bdF fun v52 _ => ?_
  refine bdF fun v53 _ => ?_
  refine bdF fun v61 _ => ?_
  refine bdF fun v62 _ => ?_
  refine bdF fun v63 _ => ?_
  refine bdF fun v71 _ => ?_
  exact iteF (fb_fX12_cut_0b86 hK11 hK26 h_s40) (fb_fX12_cut_0b75 hK11 hK26 h_s40)
theorem fb_fX12_cut_0b26 {σ0 : ST} {K11 : Int32 → Int32 → Int32 → ST → ST} (hK11 : ∀ (q0 : Int32) (q1 : Int32) (q2 : Int32) (τ : ST), Fr [(35, 35), (37, 38)] [(75, 84)] σ0 τ → Fr [(35, 35), (37, 38)] [(75, 84)] σ0 (K11 q0 q1 q2 τ)) {K26 : Int32 → Int32 → Int32 → Int32 → ST → ST} (hK26 : ∀ (q0 : Int32) (q1 : Int32) (q2 : Int32) (q3 : Int32) (τ : ST), Fr [(35, 35), (37, 38)] [(75, 84)] σ0 τ → Fr [(35, 35), (37, 38)] [(75, 84)] σ0 (K26 q0 q1 q2 q3 τ)) {l1 : Int32} {l2 : Int32} {l3 : Int32} {l4 : Int32} {σ : ST} (h_σ : Fr [(35, 35), (37, 38)] [(75, 84)] σ0 σ) : Fr [(35, 35), (37, 38)] [(75, 84)] σ0 (fX12_cut_0b26 K11 K26 l1 l2 l3 l4 σ) := by
  unfold fX12_cut_0b26
  refine bdF fun v29 _ => ?_
  refine bdF fun v32 _ => ?_
  exact iteF (fb_fX12_cut_0b108 hK11 h_σ) (fb_fX12_cut_0b36 hK11 hK26 h_σ)
theorem fb_fX12_cut_0l26 {σ0 : ST} {K11 : Int32 → Int32 → Int32 → ST → ST} (hK11 : ∀ (q0 : Int32) (q1 : Int32) (q2 : Int32) (τ : ST), Fr [(35, 35), (37, 38)] [(75, 84)] σ0 τ → Fr [(35, 35), (37, 38)] [(75, 84)] σ0 (K11 q0 q1 q2 τ)) : ∀ (fu : Nat) {q0 : Int32} {q1 : Int32} {q2 : Int32} {q3 : Int32} {τ : ST} (h : Fr [(35, 35), (37, 38)] [(75, 84)] σ0 τ), Fr [(35, 35), (37, 38)] [(75, 84)] σ0 (fX12_cut_0l26 K11 fu q0 q1 q2 q3 τ)
  | 0, _, _, _, _, _, h => h
  | fu + 1, _, _, _, _, _, h => fb_fX12_cut_0b26 hK11 (fun _ _ _ _ _ q => fb_fX12_cut_0l26 hK11 fu q) h
theorem fb_fX12_cut_0b16 {σ0 : ST} {K11 : Int32 → Int32 → Int32 → ST → ST} (hK11 : ∀ (q0 : Int32) (q1 : Int32) (q2 : Int32) (τ : ST), Fr [(35, 35), (37, 38)] [(75, 84)] σ0 τ → Fr [(35, 35), (37, 38)] [(75, 84)] σ0 (K11 q0 q1 q2 τ)) {l1 : Int32} {l2 : Int32} {l3 : Int32} {σ : ST} (h_σ : Fr [(35, 35), (37, 38)] [(75, 84)] σ0 σ) : Fr [(35, 35), (37, 38)] [(75, 84)] σ0 (fX12_cut_0b16 K11 l1 l2 l3 σ) := by
  unfold fX12_cut_0b16
  refine bdF fun s22 e_s22 => ?_
  have h_s22 : Fr [(35, 35), (37, 38)] [(75, 84)] σ0 s22 := by rw [e_s22]; exact h_σ.putA rfl
  exact fb_fX12_cut_0l26 hK11 _ h_s22
theorem fb_fX12_cut_0b11 {σ0 : ST} {K11 : Int32 → Int32 → Int32 → ST → ST} (hK11 : ∀ (q0 : Int32) (q1 : Int32) (q2 : Int32) (τ : ST), Fr [(35, 35), (37, 38)] [(75, 84)] σ0 τ → Fr [(35, 35), (37, 38)] [(75, 84)] σ0 (K11 q0 q1 q2 τ)) {l1 : Int32} {l2 : Int32} {l3 : Int32} {σ : ST} (h_σ : Fr [(35, 35), (37, 38)] [(75, 84)] σ0 σ) : Fr [(35, 35), (37, 38)] [(75, 84)] σ0 (fX12_cut_0b11 K11 l1 l2 l3 σ) := by
  unfold fX12_cut_0b11
  exact iteF (fb_fX12_cut_0b114  h_σ) (fb_fX12_cut_0b16 hK11 h_σ)
theorem fb_fX12_cut_0l11 {σ0 : ST}  : ∀ (fu : Nat) {q0 : Int32} {q1 : Int32} {q2 : Int32} {τ : ST} (h : Fr [(35, 35), (37, 38)] [(75, 84)] σ0 τ), Fr [(35, 35), (37, 38)] [(75, 84)] σ0 (fX12_cut_0l11 fu q0 q1 q2 τ)
  | 0, _, _, _, _, h => h
  | fu + 1, _, _, _, _, h => fb_fX12_cut_0b11 (fun _ _ _ _ q => fb_fX12_cut_0l11  fu q) h
theorem fb_fX12_cut_0b0 {σ0 : ST}  {l1 : Int32} {l2 : Int32} {σ : ST} (h_σ : Fr [(35, 35), (37, 38)] [(75, 84)] σ0 σ) : Fr [(35, 35), (37, 38)] [(75, 84)] σ0 (fX12_cut_0b0 l1 l2 σ) := by
  unfold fX12_cut_0b0
  refine bdF fun v6 _ => ?_
  refine bdF fun s8 e_s8 => ?_
  have h_s8 : Fr [(35, 35), (37, 38)] [(75, 84)] σ0 s8 := by rw [e_s8]; exact h_σ.putA rfl
  exact fb_fX12_cut_0l11  _ h_s8
theorem fr_fX12_cut_0 {p1 : Int32} {p2 : Int32} {σ : ST} : Fr [(35, 35), (37, 38)] [(75, 84)] σ (fX12_cut_0 p1 p2 σ) := fb_fX12_cut_0b0 (Fr.refl σ)
theorem fb_fX12_findPieces_0b96 {σ0 : ST}  {σ : ST} (h_σ : Fr [(35, 38)] [(75, 84)] σ0 σ) : Fr [(35, 38)] [(75, 84)] σ0 (fX12_findPieces_0b96 σ) := by
  unfold fX12_findPieces_0b96
  exact h_σ
theorem fb_fX12_findPieces_0b90 {σ0 : ST} {K17 : Int32 → ST → ST} (hK17 : ∀ (q0 : Int32) (τ : ST), Fr [(35, 38)] [(75, 84)] σ0 τ → Fr [(35, 38)] [(75, 84)] σ0 (K17 q0 τ)) {l1 : Int32} {σ : ST} (h_σ : Fr [(35, 38)] [(75, 84)] σ0 σ) : Fr [(35, 38)] [(75, 84)] σ0 (fX12_findPieces_0b90 K17 l1 σ) := by
  unfold fX12_findPieces_0b90
  refine bdF fun v90 _ => ?_
  exact hK17 _ _ h_σ
theorem fb_fX12_findPieces_0b82 {σ0 : ST} {K17 : Int32 → ST → ST} (hK17 : ∀ (q0 : Int32) (τ : ST), Fr [(35, 38)] [(75, 84)] σ0 τ → Fr [(35, 38)] [(75, 84)] σ0 (K17 q0 τ)) {l1 : Int32} {σ : ST} (h_σ : Fr [(35, 38)] [(75, 84)] σ0 σ) : Fr [(35, 38)] [(75, 84)] σ0 (fX12_findPieces_0b82 K17 l1 σ) := by
  unfold fX12_findPieces_0b82
  refine bdF fun s89 e_s89 => ?_
  have h_s89 : Fr [(35, 38)] [(75, 84)] σ0 s89 := by rw [e_s89]; exact h_σ.putA rfl
  exact fb_fX12_findPieces_0b90 hK17 h_s89
theorem fb_fX12_findPieces_0b61 {σ0 : ST} {K17 : Int32 → ST → ST} (hK17 : ∀ (q0 : Int32) (τ : ST), Fr [(35, 38)] [(75, 84)] σ0 τ → Fr [(35, 38)] [(75, 84)] σ0 (K17 q0 τ)) {l1 : Int32} {l2 : Int32} {σ : ST} (h_σ : Fr [(35, 38)] [(75, 84)] σ0 σ) : Fr [(35, 38)] [(75, 84)] σ0 (fX12_findPieces_0b61 K17 l1 l2 σ) := by
  unfold fX12_findPieces_0b61
  refine bdF fun v63 _ => ?_
  refine bdF fun v67 _ => ?_
  refine bdF fun s68 e_s68 => ?_
  have h_s68 : Fr [(35, 38)] [(75, 84)] σ0 s68 := by rw [e_s68]; exact h_σ.putI rfl
  refine bdF fun s74 e_s74 => ?_
  have h_s74 : Fr [(35, 38)] [(75, 84)] σ0 s74 := by rw [e_s74]; exact h_s68.call fr_fX12_cut_0 rfl rfl
  exact fb_fX12_findPieces_0b90 hK17 h_s74
theorem fb_fX12_findPieces_0b55 {σ0 : ST} {K17 : Int32 → ST → ST} (hK17 : ∀ (q0 : Int32) (τ : ST), Fr [(35, 38)] [(75, 84)] σ0 τ → Fr [(35, 38)] [(75, 84)] σ0 (K17 q0 τ)) {K35 : Int32 → Int32 → ST → ST} (hK35 : ∀ (q0 : Int32) (q1 : Int32) (τ : ST), Fr [(35, 38)] [(75, 84)] σ0 τ → Fr [(35, 38)] [(75, 84)] σ0 (K35 q0 q1 τ)) {l1 : Int32} {l2 : Int32} {σ : ST} (h_σ : Fr [(35, 38)] [(75, 84)] σ0 σ) : Fr [(35, 38)] [(75, 84)] σ0 (fX12_findPieces_0b55 K17 K35 l1 l2 σ) := by
  unfold fX12_findPieces_0b55
  refine bdF fun v55 _ => ?_
  exact hK35 _ _ _ h_σ
theorem fb_fX12_findPieces_0b45 {σ0 : ST} {K17 : Int32 → ST → ST} (hK17 : ∀ (q0 : Int32) (τ : ST), Fr [(35, 38)] [(75, 84)] σ0 τ → Fr [(35, 38)] [(75, 84)] σ0 (K17 q0 τ)) {K35 : Int32 → Int32 → ST → ST} (hK35 : ∀ (q0 : Int32) (q1 : Int32) (τ : ST), Fr [(35, 38)] [(75, 84)] σ0 τ → Fr [(35, 38)] [(75, 84)] σ0 (K35 q0 q1 τ)) {l1 : Int32} {l2 : Int32} {σ : ST} (h_σ : Fr [(35, 38)] [(75, 84)] σ0 σ) : Fr [(35, 38)] [(75, 84)] σ0 (fX12_findPieces_0b45 K17 K35 l1 l2 σ) := by
  unfold fX12_findPieces_0b45
  refine bdF fun v48 _ => ?_
  refine bdF fun v49 _ => ?_
  exact iteF (fb_fX12_findPieces_0b61 hK17 h_σ) (fb_fX12_findPieces_0b55 hK17 hK35 h_σ)
theorem fb_fX12_findPieces_0b35 {σ0 : ST} {K17 : Int32 → ST → ST} (hK17 : ∀ (q0 : Int32) (τ : ST), Fr [(35, 38)] [(75, 84)] σ0 τ → Fr [(35, 38)] [(75, 84)] σ0 (K17 q0 τ)) {K35 : Int32 → Int32 → ST → ST} (hK35 : ∀ (q0 : Int32) (q1 : Int32) (τ : ST), Fr [(35, 38)] [(75, 84)] σ0 τ → Fr [(35, 38)] [(75, 84)] σ0 (K35 q0 q1 τ)) {l1 : Int32} {l2 : Int32} {σ : ST} (h_σ : Fr [(35, 38)] [(75, 84)] σ0 σ) : Fr [(35, 38)] [(75, 84)] σ0 (fX12_findPieces_0b35 K17 K35 l1 l2 σ) := by
  unfold fX12_findPieces_0b35
  refine bdF fun v37 _ => ?_
  refine bdF fun v39 _ => ?_
  exact iteF (fb_fX12_findPieces_0b61 hK17 h_σ) (fb_fX12_findPieces_0b45 hK17 hK35 h_σ)
theorem fb_fX12_findPieces_0l35 {σ0 : ST} {K17 : Int32 → ST → ST} (hK17 : ∀ (q0 : Int32) (τ : ST), Fr [(35, 38)] [(75, 84)] σ0 τ → Fr [(35, 38)] [(75, 84)] σ0 (K17 q0 τ)) : ∀ (fu : Nat) {q0 : Int32} {q1 : Int32} {τ : ST} (h : Fr [(35, 38)] [(75, 84)] σ0 τ), Fr [(35, 38)] [(75, 84)] σ0 (fX12_findPieces_0l35 K17 fu q0 q1 τ)
  | 0, _, _, _, h => h
  | fu + 1, _, _, _, h => fb_fX12_findPieces_0b35 hK17 (fun _ _ _ q => fb_fX12_findPieces_0l35 hK17 fu q) h
theorem fb_fX12_findPieces_0b33 {σ0 : ST} {K17 : Int32 → ST → ST} (hK17 : ∀ (q0 : Int32) (τ : ST), Fr [(35, 38)] [(75, 84)] σ0 τ → Fr [(35, 38)] [(75, 84)] σ0 (K17 q0 τ)) {l1 : Int32} {σ : ST} (h_σ : Fr [(35, 38)] [(75, 84)] σ0 σ) : Fr [(35, 38)] [(75, 84)] σ0 (fX12_findPieces_0b33 K17 l1 σ) := by
  unfold fX12_findPieces_0b33
  exact fb_fX12_findPieces_0l35 hK17 _ h_σ
theorem fb_fX12_findPieces_0b25 {σ0 : ST} {K17 : Int32 → ST → ST} (hK17 : ∀ (q0 : Int32) (τ : ST), Fr [(35, 38)] [(75, 84)] σ0 τ → Fr [(35, 38)] [(75, 84)] σ0 (K17 q0 τ)) {l1 : Int32} {σ : ST} (h_σ : Fr [(35, 38)] [(75, 84)] σ0 σ) : Fr [(35, 38)] [(75, 84)] σ0 (fX12_findPieces_0b25 K17 l1 σ) := by
  unfold fX12_findPieces_0b25
  refine bdF fun v27 _ => ?_
  exact iteF (fb_fX12_findPieces_0b82 hK17 h_σ) (fb_fX12_findPieces_0b33 hK17 h_σ)
theorem fb_fX12_findPieces_0b17 {σ0 : ST} {K17 : Int32 → ST → ST} (hK17 : ∀ (q0 : Int32) (τ : ST), Fr [(35, 38)] [(75, 84)] σ0 τ → Fr [(35, 38)] [(75, 84)] σ0 (K17 q0 τ)) {l1 : Int32} {σ : ST} (h_σ : Fr [(35, 38)] [(75, 84)] σ0 σ) : Fr [(35, 38)] [(75, 84)] σ0 (fX12_findPieces_0b17 K17 l1 σ) := by
  unfold fX12_findPieces_0b17
  refine bdF fun v19 _ => ?_
  exact iteF (fb_fX12_findPieces_0b96  h_σ) (fb_fX12_findPieces_0b25 hK17 h_σ)
theorem fb_fX12_findPieces_0l17 {σ0 : ST}  : ∀ (fu : Nat) {q0 : Int32} {τ : ST} (h : Fr [(35, 38)] [(75, 84)] σ0 τ), Fr [(35, 38)] [(75, 84)] σ0 (fX12_findPieces_0l17 fu q0 τ)
  | 0, _, _, h => h
  | fu + 1, _, _, h => fb_fX12_findPieces_0b17 (fun _ _ q => fb_fX12_findPieces_0l17  fu q) h
theorem fb_fX12_findPieces_0b0 {σ0 : ST}  {σ : ST} (h_σ : Fr [(35, 38)] [(75, 84)] σ0 σ) : Fr [(35, 38)] [(75, 84)] σ0 (fX12_findPieces_0b0 σ) := by
  unfold fX12_findPieces_0b0
  refine bdF fun s2 e_s2 => ?_
  have h_s2 : Fr [(35, 38)] [(75, 84)] σ0 s2 := by rw [e_s2]; exact h_σ.putI rfl
  refine bdF fun s7 e_s7 => ?_
  have h_s7 : Fr [(35, 38)] [(75, 84)] σ0 s7 := by rw [e_s7]; exact h_s2.putI rfl
  refine bdF fun s12 e_s12 => ?_
  have h_s12 : Fr [(35, 38)] [(75, 84)] σ0 s12 := by rw [e_s12]; exact h_s7.putI rfl
  exact fb_fX12_findPieces_0l17  _ h_s12
theorem fr_fX12_findPieces_0 {σ : ST} : Fr [(35, 38)] [(75, 84)] σ (fX12_findPieces_0 σ) := fb_fX12_findPieces_0b0 (Fr.refl σ)
theorem fb_fX12_pieces_0b85 {σ0 : ST}  {t0 : Int32} {σ : ST} (h_σ : Fr [(35, 38)] [(75, 84)] σ0 σ) : FrP [(35, 38)] [(75, 84)] σ0 (fX12_pieces_0b85 t0 σ) := by
  unfold fX12_pieces_0b85
  exact h_σ
theorem fb_fX12_pieces_0b84 {σ0 : ST}  {l2 : Int32} {σ : ST} (h_σ : Fr [(35, 38)] [(75, 84)] σ0 σ) : FrP [(35, 38)] [(75, 84)] σ0 (fX12_pieces_0b84 l2 σ) := by
  unfold fX12_pieces_0b84
  exact fb_fX12_pieces_0b85  h_σ
theorem fb_fX12_pieces_0b77 {σ0 : ST}  {σ : ST} (h_σ : Fr [(35, 38)] [(75, 84)] σ0 σ) : FrP [(35, 38)] [(75, 84)] σ0 (fX12_pieces_0b77 σ) := by
  unfold fX12_pieces_0b77
  refine bdF2 fun v78 _ => ?_
  exact fb_fX12_pieces_0b85  h_σ
theorem fb_fX12_pieces_0b72 {σ0 : ST}  {l1 : Int32} {l2 : Int32} {σ : ST} (h_σ : Fr [(35, 38)] [(75, 84)] σ0 σ) : FrP [(35, 38)] [(75, 84)] σ0 (fX12_pieces_0b72 l1 l2 σ) := by
  unfold fX12_pieces_0b72
  exact iteF2 (fb_fX12_pieces_0b77  h_σ) (fb_fX12_pieces_0b84  h_σ)
theorem fb_fX12_pieces_0b65 {σ0 : ST}  {σ : ST} (h_σ : Fr [(35, 38)] [(75, 84)] σ0 σ) : FrP [(35, 38)] [(75, 84)] σ0 (fX12_pieces_0b65 σ) := by
  unfold fX12_pieces_0b65
  refine bdF2 fun v66 _ => ?_
  exact fb_fX12_pieces_0b85  h_σ
theorem fb_fX12_pieces_0b60 {σ0 : ST}  {l1 : Int32} {l2 : Int32} {σ : ST} (h_σ : Fr [(35, 38)] [(75, 84)] σ0 σ) : FrP [(35, 38)] [(75, 84)] σ0 (fX12_pieces_0b60 l1 l2 σ) := by
  unfold fX12_pieces_0b60
  exact iteF2 (fb_fX12_pieces_0b65  h_σ) (fb_fX12_pieces_0b72  h_σ)
theorem fb_fX12_pieces_0b53 {σ0 : ST}  {σ : ST} (h_σ : Fr [(35, 38)] [(75, 84)] σ0 σ) : FrP [(35, 38)] [(75, 84)] σ0 (fX12_pieces_0b53 σ) := by
  unfold fX12_pieces_0b53
  refine bdF2 fun v54 _ => ?_
  exact fb_fX12_pieces_0b85  h_σ
theorem fb_fX12_pieces_0b49 {σ0 : ST}  {l1 : Int32} {l2 : Int32} {σ : ST} (h_σ : Fr [(35, 38)] [(75, 84)] σ0 σ) : FrP [(35, 38)] [(75, 84)] σ0 (fX12_pieces_0b49 l1 l2 σ) := by
  unfold fX12_pieces_0b49
  exact iteF2 (fb_fX12_pieces_0b53  h_σ) (fb_fX12_pieces_0b60  h_σ)
theorem fb_fX12_pieces_0b41 {σ0 : ST} {K19 : Int32 → Int32 → Int32 → ST → (Int32 × ST)} (hK19 : ∀ (q0 : Int32) (q1 : Int32) (q2 : Int32) (τ : ST), Fr [(35, 38)] [(75, 84)] σ0 τ → FrP [(35, 38)] [(75, 84)] σ0 (K19 q0 q1 q2 τ)) {l1 : Int32} {l3 : Int32} {t0 : Int32} {t1 : Int32} {σ : ST} (h_σ : Fr [(35, 38)] [(75, 84)] σ0 σ) : FrP [(35, 38)] [(75, 84)] σ0 (fX12_pieces_0b41 K19 l1 l3 t0 t1 σ) := by
  unfold fX12_pieces_0b41
  refine bdF2 fun v41 _ => ?_
  refine bdF2 fun v43 _ => ?_
  exact hK19 _ _ _ _ h_σ
theorem fb_fX12_pieces_0b40 {σ0 : ST} {K19 : Int32 → Int32 → Int32 → ST → (Int32 × ST)} (hK19 : ∀ (q0 : Int32) (q1 : Int32) (q2 : Int32) (τ : ST), Fr [(35, 38)] [(75, 84)] σ0 τ → FrP [(35, 38)] [(75, 84)] σ0 (K19 q0 q1 q2 τ)) {l1 : Int32} {l3 : Int32} {t0 : Int32} {σ : ST} (h_σ : Fr [(35, 38)] [(75, 84)] σ0 σ) : FrP [(35, 38)] [(75, 84)] σ0 (fX12_pieces_0b40 K19 l1 l3 t0 σ) := by
  unfold fX12_pieces_0b40
  exact fb_fX12_pieces_0b41 hK19 h_σ
theorem fb_fX12_pieces_0b36 {σ0 : ST} {K19 : Int32 → Int32 → Int32 → ST → (Int32 × ST)} (hK19 : ∀ (q0 : Int32) (q1 : Int32) (q2 : Int32) (τ : ST), Fr [(35, 38)] [(75, 84)] σ0 τ → FrP [(35, 38)] [(75, 84)] σ0 (K19 q0 q1 q2 τ)) {l1 : Int32} {l3 : Int32} {t0 : Int32} {σ : ST} (h_σ : Fr [(35, 38)] [(75, 84)] σ0 σ) : FrP [(35, 38)] [(75, 84)] σ0 (fX12_pieces_0b36 K19 l1 l3 t0 σ) := by
  unfold fX12_pieces_0b36
  exact fb_fX12_pieces_0b41 hK19 h_σ
theorem fb_fX12_pieces_0b27 {σ0 : ST} {K19 : Int32 → Int32 → Int32 → ST → (Int32 × ST)} (hK19 : ∀ (q0 : Int32) (q1 : Int32) (q2 : Int32) (τ : ST), Fr [(35, 38)] [(75, 84)] σ0 τ → FrP [(35, 38)] [(75, 84)] σ0 (K19 q0 q1 q2 τ)) {l1 : Int32} {l2 : Int32} {l3 : Int32} {σ : ST} (h_σ : Fr [(35, 38)] [(75, 84)] σ0 σ) : FrP [(35, 38)] [(75, 84)] σ0 (fX12_pieces_0b27 K19 l1 l2 l3 σ) := by
  unfold fX12_pieces_0b27
  refine bdF2 fun v30 _ => ?_
  exact iteF2 (fb_fX12_pieces_0b40 hK19 h_σ) (fb_fX12_pieces_0b36 hK19 h_σ)
theorem fb_fX12_pieces_0b19 {σ0 : ST} {K19 : Int32 → Int32 → Int32 → ST → (Int32 × ST)} (hK19 : ∀ (q0 : Int32) (q1 : Int32) (q2 : Int32) (τ : ST), Fr [(35, 38)] [(75, 84)] σ0 τ → FrP [(35, 38)] [(75, 84)] σ0 (K19 q0 q1 q2 τ)) {l1 : Int32} {l2 : Int32} {l3 : Int32} {σ : ST} (h_σ : Fr [(35, 38)] [(75, 84)] σ0 σ) : FrP [(35, 38)] [(75, 84)] σ0 (fX12_pieces_0b19 K19 l1 l2 l3 σ) := by
  unfold fX12_pieces_0b19
  refine bdF2 fun v21 _ => ?_
  exact iteF2 (fb_fX12_pieces_0b49  h_σ) (fb_fX12_pieces_0b27 hK19 h_σ)
theorem fb_fX12_pieces_0l19 {σ0 : ST}  : ∀ (fu : Nat) {q0 : Int32} {q1 : Int32} {q2 : Int32} {τ : ST} (h : Fr [(35, 38)] [(75, 84)] σ0 τ), FrP [(35, 38)] [(75, 84)] σ0 (fX12_pieces_0l19 fu q0 q1 q2 τ)
  | 0, _, _, _, _, h => h
  | fu + 1, _, _, _, _, h => fb_fX12_pieces_0b19 (fun _ _ _ _ q => fb_fX12_pieces_0l19  fu q) h
theorem fb_fX12_pieces_0b11 {σ0 : ST}  {l1 : Int32} {σ : ST} (h_σ : Fr [(35, 38)] [(75, 84)] σ0 σ) : FrP [(35, 38)] [(75, 84)] σ0 (fX12_pieces_0b11 l1 σ) := by
  unfold fX12_pieces_0b11
  refine bdF2 fun s12 e_s12 => ?_
  have h_s12 : Fr [(35, 38)] [(75, 84)] σ0 s12 := by rw [e_s12]; exact h_σ.call fr_fX12_findPieces_0 rfl rfl
  exact fb_fX12_pieces_0l19  _ h_s12
theorem fb_fX12_pieces_0b9 {σ0 : ST}  {σ : ST} (h_σ : Fr [(35, 38)] [(75, 84)] σ0 σ) : FrP [(35, 38)] [(75, 84)] σ0 (fX12_pieces_0b9 σ) := by
  unfold fX12_pieces_0b9
  exact h_σ
theorem fb_fX12_pieces_0b0 {σ0 : ST}  {l1 : Int32} {σ : ST} (h_σ : Fr [(35, 38)] [(75, 84)] σ0 σ) : FrP [(35, 38)] [(75, 84)] σ0 (fX12_pieces_0b0 l1 σ) := by
  unfold fX12_pieces_0b0
  refine bdF2 fun v3 _ => ?_
  exact iteF2 (fb_fX12_pieces_0b9  h_σ) (fb_fX12_pieces_0b11  h_σ)
theorem fr_fX12_pieces_0 {p1 : Int32} {σ : ST} : Fr [(35, 38)] [(75, 84)] σ (fX12_pieces_0 p1 σ).2 := fb_fX12_pieces_0b0 (Fr.refl σ)
theorem fb_fX12_piece_0b22 {σ0 : ST}  {σ : ST} (h_σ : Fr [(35, 38)] [(75, 84)] σ0 σ) : FrP [(35, 38)] [(75, 84)] σ0 (fX12_piece_0b22 σ) := by
  unfold fX12_piece_0b22
  exact h_σ
theorem fb_fX12_piece_0b77 {σ0 : ST}  {t0 : Int32} {σ : ST} (h_σ : Fr [(35, 38)] [(75, 84)] σ0 σ) : FrP [(35, 38)] [(75, 84)] σ0 (fX12_piece_0b77 t0 σ) := by
  unfold fX12_piece_0b77
  exact h_σ
theorem fb_fX12_piece_0b65 {σ0 : ST}  {l1 : Int32} {l2 : Int32} {σ : ST} (h_σ : Fr [(35, 38)] [(75, 84)] σ0 σ) : FrP [(35, 38)] [(75, 84)] σ0 (fX12_piece_0b65 l1 l2 σ) := by
  unfold fX12_piece_0b65
  refine bdF2 fun v71 _ => ?_
  refine bdF2 fun v73 _ => ?_
  refine bdF2 fun v75 _ => ?_
  refine bdF2 fun v76 _ => ?_
  exact fb_fX12_piece_0b77  h_σ
theorem fb_fX12_piece_0b56 {σ0 : ST}  {l1 : Int32} {σ : ST} (h_σ : Fr [(35, 38)] [(75, 84)] σ0 σ) : FrP [(35, 38)] [(75, 84)] σ0 (fX12_piece_0b56 l1 σ) := by
  unfold fX12_piece_0b56
  refine bdF2 fun v61 _ => ?_
  exact fb_fX12_piece_0b77  h_σ
theorem fb_fX12_piece_0b51 {σ0 : ST}  {l1 : Int32} {l2 : Int32} {σ : ST} (h_σ : Fr [(35, 38)] [(75, 84)] σ0 σ) : FrP [(35, 38)] [(75, 84)] σ0 (fX12_piece_0b51 l1 l2 σ) := by
  unfold fX12_piece_0b51
  exact iteF2 (fb_fX12_piece_0b56  h_σ) (fb_fX12_piece_0b65  h_σ)
theorem fb_fX12_piece_0b42 {σ0 : ST}  {l1 : Int32} {σ : ST} (h_σ : Fr [(35, 38)] [(75, 84)] σ0 σ) : FrP [(35, 38)] [(75, 84)] σ0 (fX12_piece_0b42 l1 σ) := by
  unfold fX12_piece_0b42
  refine bdF2 fun v47 _ => ?_
  exact fb_fX12_piece_0b77  h_σ
theorem fb_fX12_piece_0b37 {σ0 : ST}  {l1 : Int32} {l2 : Int32} {σ : ST} (h_σ : Fr [(35, 38)] [(75, 84)] σ0 σ) : FrP [(35, 38)] [(75, 84)] σ0 (fX12_piece_0b37 l1 l2 σ) := by
  unfold fX12_piece_0b37
  exact iteF2 (fb_fX12_piece_0b42  h_σ) (fb_fX12_piece_0b51  h_σ)
theorem fb_fX12_piece_0b28 {σ0 : ST}  {l1 : Int32} {σ : ST} (h_σ : Fr [(35, 38)] [(75, 84)] σ0 σ) : FrP [(35, 38)] [(75, 84)] σ0 (fX12_piece_0b28 l1 σ) := by
  unfold fX12_piece_0b28
  refine bdF2 fun v33 _ => ?_
  exact fb_fX12_piece_0b77  h_σ
theorem fb_fX12_piece_0b24 {σ0 : ST}  {l1 : Int32} {l2 : Int32} {σ : ST} (h_σ : Fr [(35, 38)] [(75, 84)] σ0 σ) : FrP [(35, 38)] [(75, 84)] σ0 (fX12_piece_0b24 l1 l2 σ) := by
  unfold fX12_piece_0b24
  exact iteF2 (fb_fX12_piece_0b28  h_σ) (fb_fX12_piece_0b37  h_σ)
theorem fb_fX12_piece_0b12 {σ0 : ST}  {l1 : Int32} {l2 : Int32} {σ : ST} (h_σ : Fr [(35, 38)] [(75, 84)] σ0 σ) : FrP [(35, 38)] [(75, 84)] σ0 (fX12_piece_0b12 l1 l2 σ) := by
  unfold fX12_piece_0b12
  refine bdF2 fun v16 _ => ?_
  exact iteF2 (fb_fX12_piece_0b22  h_σ) (fb_fX12_piece_0b24  h_σ)
theorem fb_fX12_piece_0b0 {σ0 : ST}  {l1 : Int32} {l2 : Int32} {σ : ST} (h_σ : Fr [(35, 38)] [(75, 84)] σ0 σ) : FrP [(35, 38)] [(75, 84)] σ0 (fX12_piece_0b0 l1 l2 σ) := by
  unfold fX12_piece_0b0
  refine bdF2 fun s1 e_s1 => ?_
  have h_s1 : Fr [(35, 38)] [(75, 84)] σ0 s1 := by rw [e_s1]; exact h_σ.call fr_fX12_findPieces_0 rfl rfl
  refine bdF2 fun v6 _ => ?_
  exact iteF2 (fb_fX12_piece_0b22  h_s1) (fb_fX12_piece_0b12  h_s1)
theorem fr_fX12_piece_0 {p1 : Int32} {p2 : Int32} {σ : ST} : Fr [(35, 38)] [(75, 84)] σ (fX12_piece_0 p1 p2 σ).2 := fb_fX12_piece_0b0 (Fr.refl σ)
theorem fb_fX12_of_0b10 {σ0 : ST}  {l1 : Int32} {σ : ST} (h_σ : Fr [(35, 38)] [(75, 84)] σ0 σ) : FrP [(35, 38)] [(75, 84)] σ0 (fX12_of_0b10 l1 σ) := by
  unfold fX12_of_0b10
  refine bdF2 fun s11 e_s11 => ?_
  have h_s11 : Fr [(35, 38)] [(75, 84)] σ0 s11 := by rw [e_s11]; exact h_σ.call fr_fX12_findPieces_0 rfl rfl
  refine bdF2 fun v19 _ => ?_
  exact h_s11
theorem fb_fX12_of_0b8 {σ0 : ST}  {σ : ST} (h_σ : Fr [(35, 38)] [(75, 84)] σ0 σ) : FrP [(35, 38)] [(75, 84)] σ0 (fX12_of_0b8 σ) := by
  unfold fX12_of_0b8
  exact h_σ
theorem fb_fX12_of_0b0 {σ0 : ST}  {l1 : Int32} {σ : ST} (h_σ : Fr [(35, 38)] [(75, 84)] σ0 σ) : FrP [(35, 38)] [(75, 84)] σ0 (fX12_of_0b0 l1 σ) := by
  unfold fX12_of_0b0
  refine bdF2 fun v2 _ => ?_
  exact iteF2 (fb_fX12_of_0b8  h_σ) (fb_fX12_of_0b10  h_σ)
theorem fr_fX12_of_0 {p1 : Int32} {σ : ST} : Fr [(35, 38)] [(75, 84)] σ (fX12_of_0 p1 σ).2 := fb_fX12_of_0b0 (Fr.refl σ)
theorem fb_fX12_like_0b36 {σ0 : ST}  {t0 : Int32} {σ : ST} (h_σ : Fr [(35, 38)] [(75, 84)] σ0 σ) : FrP [(35, 38)] [(75, 84)] σ0 (fX12_like_0b36 t0 σ) := by
  unfold fX12_like_0b36
  exact h_σ
theorem fb_fX12_like_0b34 {σ0 : ST}  {σ : ST} (h_σ : Fr [(35, 38)] [(75, 84)] σ0 σ) : FrP [(35, 38)] [(75, 84)] σ0 (fX12_like_0b34 σ) := by
  unfold fX12_like_0b34
  exact fb_fX12_like_0b36  h_σ
theorem fb_fX12_like_0b25 {σ0 : ST}  {l1 : Int32} {l2 : Int32} {σ : ST} (h_σ : Fr [(35, 38)] [(75, 84)] σ0 σ) : FrP [(35, 38)] [(75, 84)] σ0 (fX12_like_0b25 l1 l2 σ) := by
  unfold fX12_like_0b25
  refine bdF2 fun v28 _ => ?_
  exact fb_fX12_like_0b36  h_σ
theorem fb_fX12_like_0b20 {σ0 : ST}  {l1 : Int32} {l2 : Int32} {σ : ST} (h_σ : Fr [(35, 38)] [(75, 84)] σ0 σ) : FrP [(35, 38)] [(75, 84)] σ0 (fX12_like_0b20 l1 l2 σ) := by
  unfold fX12_like_0b20
  exact iteF2 (fb_fX12_like_0b34  h_σ) (fb_fX12_like_0b25  h_σ)
theorem fb_fX12_like_0b12 {σ0 : ST}  {l1 : Int32} {l2 : Int32} {σ : ST} (h_σ : Fr [(35, 38)] [(75, 84)] σ0 σ) : FrP [(35, 38)] [(75, 84)] σ0 (fX12_like_0b12 l1 l2 σ) := by
  unfold fX12_like_0b12
  refine bdF2 fun v14 _ => ?_
  exact iteF2 (fb_fX12_like_0b34  h_σ) (fb_fX12_like_0b20  h_σ)
theorem fb_fX12_like_0b0 {σ0 : ST}  {l1 : Int32} {l2 : Int32} {σ : ST} (h_σ : Fr [(35, 38)] [(75, 84)] σ0 σ) : FrP [(35, 38)] [(75, 84)] σ0 (fX12_like_0b0 l1 l2 σ) := by
  unfold fX12_like_0b0
  refine bdF2 fun s1 e_s1 => ?_
  have h_s1 : Fr [(35, 38)] [(75, 84)] σ0 s1 := by rw [e_s1]; exact h_σ.call fr_fX12_findPieces_0 rfl rfl
  refine bdF2 fun v6 _ => ?_
  exact iteF2 (fb_fX12_like_0b34  h_s1) (fb_fX12_like_0b12  h_s1)
theorem fr_fX12_like_0 {p1 : Int32} {p2 : Int32} {σ : ST} : Fr [(35, 38)] [(75, 84)] σ (fX12_like_0 p1 p2 σ).2 := fb_fX12_like_0b0 (Fr.refl σ)
theorem fb_fX12_findGains_0b78 {σ0 : ST}  {σ : ST} (h_σ : Fr [] [(88, 88)] σ0 σ) : Fr [] [(88, 88)] σ0 (fX12_findGains_0b78 σ) := by
  unfold fX12_findGains_0b78
  exact h_σ
theorem fb_fX12_findGains_0b72 {σ0 : ST} {K2 : Int32 → ST → ST} (hK2 : ∀ (q0 : Int32) (τ : ST), Fr [] [(88, 88)] σ0 τ → Fr [] [(88, 88)] σ0 (K2 q0 τ)) {l1 : Int32} {σ : ST} (h_σ : Fr [] [(88, 88)] σ0 σ) : Fr [] [(88, 88)] σ0 (fX12_findGains_0b72 K2 l1 σ) := by
  unfold fX12_findGains_0b72
  refine bdF fun v72 _ => ?_
  exact hK2 _ _ h_σ
theorem fb_fX12_findGains_0b65 {σ0 : ST} {K2 : Int32 → ST → ST} (hK2 : ∀ (q0 : Int32) (τ : ST), Fr [] [(88, 88)] σ0 τ → Fr [] [(88, 88)] σ0 (K2 q0 τ)) {K12 : Int32 → Int32 → ST → ST} (hK12 : ∀ (q0 : Int32) (q1 : Int32) (τ : ST), Fr [] [(88, 88)] σ0 τ → Fr [] [(88, 88)] σ0 (K12 q0 q1 τ)) {l1 : Int32} {l2 : Int32} {t0 : Int32} {t1 : Int32} {σ : ST} (h_σ : Fr [] [(88, 88)] σ0 σ) : Fr [] [(88, 88)] σ0 (fX12_findGains_0b65 K2 K12 l1 l2 t0 t1 σ) := by
  unfold fX12_findGains_0b65
  refine bdF fun s65 e_s65 => ?_
  have h_s65 : Fr [] [(88, 88)] σ0 s65 := by rw [e_s65]; exact h_σ.putA rfl
  refine bdF fun v66 _ => ?_
  exact hK12 _ _ _ h_s65
theorem fb_fX12_findGains_0b64 {σ0 : ST} {K2 : Int32 → ST → ST} (hK2 : ∀ (q0 : Int32) (τ : ST), Fr [] [(88, 88)] σ0 τ → Fr [] [(88, 88)] σ0 (K2 q0 τ)) {K12 : Int32 → Int32 → ST → ST} (hK12 : ∀ (q0 : Int32) (q1 : Int32) (τ : ST), Fr [] [(88, 88)] σ0 τ → Fr [] [(88, 88)] σ0 (K12 q0 q1 τ)) {l1 : Int32} {l2 : Int32} {t0 : Int32} {t1 : Int32} {t2 : Int32} {σ : ST} (h_σ : Fr [] [(88, 88)] σ0 σ) : Fr [] [(88, 88)] σ0 (fX12_findGains_0b64 K2 K12 l1 l2 t0 t1 t2 σ) := by
  unfold fX12_findGains_0b64
  refine bdF fun v64 _ => ?_
  exact fb_fX12_findGains_0b65 hK2 hK12 h_σ
theorem fb_fX12_findGains_0b63 {σ0 : ST} {K2 : Int32 → ST → ST} (hK2 : ∀ (q0 : Int32) (τ : ST), Fr [] [(88, 88)] σ0 τ → Fr [] [(88, 88)] σ0 (K2 q0 τ)) {K12 : Int32 → Int32 → ST → ST} (hK12 : ∀ (q0 : Int32) (q1 : Int32) (τ : ST), Fr [] [(88, 88)] σ0 τ → Fr [] [(88, 88)] σ0 (K12 q0 q1 τ)) {l1 : Int32} {l2 : Int32} {t0 : Int32} {t1 : Int32} {σ : ST} (h_σ : Fr [] [(88, 88)] σ0 σ) : Fr [] [(88, 88)] σ0 (fX12_findGains_0b63 K2 K12 l1 l2 t0 t1 σ) := by
  unfold fX12_findGains_0b63
  exact fb_fX12_findGains_0b64 hK2 hK12 h_σ
theorem fb_fX12_findGains_0b54 {σ0 : ST} {K2 : Int32 → ST → ST} (hK2 : ∀ (q0 : Int32) (τ : ST), Fr [] [(88, 88)] σ0 τ → Fr [] [(88, 88)] σ0 (K2 q0 τ)) {K12 : Int32 → Int32 → ST → ST} (hK12 : ∀ (q0 : Int32) (q1 : Int32) (τ : ST), Fr [] [(88, 88)] σ0 τ → Fr [] [(88, 88)] σ0 (K12 q0 q1 τ)) {l1 : Int32} {l2 : Int32} {t0 : Int32} {t1 : Int32} {σ : ST} (h_σ : Fr [] [(88, 88)] σ0 σ) : Fr [] [(88, 88)] σ0 (fX12_findGains_0b54 K2 K12 l1 l2 t0 t1 σ) := by
  unfold fX12_findGains_0b54
  refine bdF fun v59 _ => ?_
  exact fb_fX12_findGains_0b64 hK2 hK12 h_σ
theorem fb_fX12_findGains_0b39 {σ0 : ST} {K2 : Int32 → ST → ST} (hK2 : ∀ (q0 : Int32) (τ : ST), Fr [] [(88, 88)] σ0 τ → Fr [] [(88, 88)] σ0 (K2 q0 τ)) {K12 : Int32 → Int32 → ST → ST} (hK12 : ∀ (q0 : Int32) (q1 : Int32) (τ : ST), Fr [] [(88, 88)] σ0 τ → Fr [] [(88, 88)] σ0 (K12 q0 q1 τ)) {l1 : Int32} {l2 : Int32} {t0 : Int32} {σ : ST} (h_σ : Fr [] [(88, 88)] σ0 σ) : Fr [] [(88, 88)] σ0 (fX12_findGains_0b39 K2 K12 l1 l2 t0 σ) := by
  unfold fX12_findGains_0b39
  refine bdF fun v42 _ => ?_
  refine bdF fun v48 _ => ?_
  exact iteF (fb_fX12_findGains_0b63 hK2 hK12 h_σ) (fb_fX12_findGains_0b54 hK2 hK12 h_σ)
theorem fb_fX12_findGains_0b35 {σ0 : ST} {K2 : Int32 → ST → ST} (hK2 : ∀ (q0 : Int32) (τ : ST), Fr [] [(88, 88)] σ0 τ → Fr [] [(88, 88)] σ0 (K2 q0 τ)) {K12 : Int32 → Int32 → ST → ST} (hK12 : ∀ (q0 : Int32) (q1 : Int32) (τ : ST), Fr [] [(88, 88)] σ0 τ → Fr [] [(88, 88)] σ0 (K12 q0 q1 τ)) {l1 : Int32} {l2 : Int32} {t0 : Int32} {σ : ST} (h_σ : Fr [] [(88, 88)] σ0 σ) : Fr [] [(88, 88)] σ0 (fX12_findGains_0b35 K2 K12 l1 l2 t0 σ) := by
  unfold fX12_findGains_0b35
  exact fb_fX12_findGains_0b65 hK2 hK12 h_σ
theorem fb_fX12_findGains_0b20 {σ0 : ST} {K2 : Int32 → ST → ST} (hK2 : ∀ (q0 : Int32) (τ : ST), Fr [] [(88, 88)] σ0 τ → Fr [] [(88, 88)] σ0 (K2 q0 τ)) {K12 : Int32 → Int32 → ST → ST} (hK12 : ∀ (q0 : Int32) (q1 : Int32) (τ : ST), Fr [] [(88, 88)] σ0 τ → Fr [] [(88, 88)] σ0 (K12 q0 q1 τ)) {l1 : Int32} {l2 : Int32} {σ : ST} (h_σ : Fr [] [(88, 88)] σ0 σ) : Fr [] [(88, 88)] σ0 (fX12_findGains_0b20 K2 K12 l1 l2 σ) := by
  unfold fX12_findGains_0b20
  refine bdF fun v27 _ => ?_
  refine bdF fun v29 _ => ?_
  exact iteF (fb_fX12_findGains_0b35 hK2 hK12 h_σ) (fb_fX12_findGains_0b39 hK2 hK12 h_σ)
theorem fb_fX12_findGains_0b12 {σ0 : ST} {K2 : Int32 → ST → ST} (hK2 : ∀ (q0 : Int32) (τ : ST), Fr [] [(88, 88)] σ0 τ → Fr [] [(88, 88)] σ0 (K2 q0 τ)) {K12 : Int32 → Int32 → ST → ST} (hK12 : ∀ (q0 : Int32) (q1 : Int32) (τ : ST), Fr [] [(88, 88)] σ0 τ → Fr [] [(88, 88)] σ0 (K12 q0 q1 τ)) {l1 : Int32} {l2 : Int32} {σ : ST} (h_σ : Fr [] [(88, 88)] σ0 σ) : Fr [] [(88, 88)] σ0 (fX12_findGains_0b12 K2 K12 l1 l2 σ) := by
  unfold fX12_findGains_0b12
  refine bdF fun v14 _ => ?_
  exact iteF (fb_fX12_findGains_0b72 hK2 h_σ) (fb_fX12_findGains_0b20 hK2 hK12 h_σ)
theorem fb_fX12_findGains_0l12 {σ0 : ST} {K2 : Int32 → ST → ST} (hK2 : ∀ (q0 : Int32) (τ : ST), Fr [] [(88, 88)] σ0 τ → Fr [] [(88, 88)] σ0 (K2 q0 τ)) : ∀ (fu : Nat) {q0 : Int32} {q1 : Int32} {τ : ST} (h : Fr [] [(88, 88)] σ0 τ), Fr [] [(88, 88)] σ0 (fX12_findGains_0l12 K2 fu q0 q1 τ)
  | 0, _, _, _, h => h
  | fu + 1, _, _, _, h => fb_fX12_findGains_0b12 hK2 (fun _ _ _ q => fb_fX12_findGains_0l12 hK2 fu q) h
theorem fb_fX12_findGains_0b10 {σ0 : ST} {K2 : Int32 → ST → ST} (hK2 : ∀ (q0 : Int32) (τ : ST), Fr [] [(88, 88)] σ0 τ → Fr [] [(88, 88)] σ0 (K2 q0 τ)) {l1 : Int32} {σ : ST} (h_σ : Fr [] [(88, 88)] σ0 σ) : Fr [] [(88, 88)] σ0 (fX12_findGains_0b10 K2 l1 σ) := by
  unfold fX12_findGains_0b10
  exact fb_fX12_findGains_0l12 hK2 _ h_σ
theorem fb_fX12_findGains_0b2 {σ0 : ST} {K2 : Int32 → ST → ST} (hK2 : ∀ (q0 : Int32) (τ : ST), Fr [] [(88, 88)] σ0 τ → Fr [] [(88, 88)] σ0 (K2 q0 τ)) {l1 : Int32} {σ : ST} (h_σ : Fr [] [(88, 88)] σ0 σ) : Fr [] [(88, 88)] σ0 (fX12_findGains_0b2 K2 l1 σ) := by
  unfold fX12_findGains_0b2
  refine bdF fun v4 _ => ?_
  exact iteF (fb_fX12_findGains_0b78  h_σ) (fb_fX12_findGains_0b10 hK2 h_σ)
theorem fb_fX12_findGains_0l2 {σ0 : ST}  : ∀ (fu : Nat) {q0 : Int32} {τ : ST} (h : Fr [] [(88, 88)] σ0 τ), Fr [] [(88, 88)] σ0 (fX12_findGains_0l2 fu q0 τ)
  | 0, _, _, h => h
  | fu + 1, _, _, h => fb_fX12_findGains_0b2 (fun _ _ q => fb_fX12_findGains_0l2  fu q) h
theorem fb_fX12_findGains_0b0 {σ0 : ST}  {σ : ST} (h_σ : Fr [] [(88, 88)] σ0 σ) : Fr [] [(88, 88)] σ0 (fX12_findGains_0b0 σ) := by
  unfold fX12_findGains_0b0
  exact fb_fX12_findGains_0l2  _ h_σ
theorem fr_fX12_findGains_0 {σ : ST} : Fr [] [(88, 88)] σ (fX12_findGains_0 σ) := fb_fX12_findGains_0b0 (Fr.refl σ)
theorem fb_fX12_begin_0b21 {σ0 : ST}  {σ : ST} (h_σ : Fr [] [(85, 85)] σ0 σ) : Fr [] [(85, 85)] σ0 (fX12_begin_0b21 σ) := by
  unfold fX12_begin_0b21
  exact h_σ
theorem fb_fX12_begin_0b8 {σ0 : ST} {K2 : Int32 → ST → ST} (hK2 : ∀ (q0 : Int32) (τ : ST), Fr [] [(85, 85)] σ0 τ → Fr [] [(85, 85)] σ0 (K2 q0 τ)) {l1 : Int32} {σ : ST} (h_σ : Fr [] [(85, 85)] σ0 σ) : Fr [] [(85, 85)] σ0 (fX12_begin_0b8 K2 l1 σ) := by
  unfold fX12_begin_0b8
  refine bdF fun s14 e_s14 => ?_
  have h_s14 : Fr [] [(85, 85)] σ0 s14 := by rw [e_s14]; exact h_σ.putA rfl
  refine bdF fun v15 _ => ?_
  exact hK2 _ _ h_s14
theorem fb_fX12_begin_0b2 {σ0 : ST} {K2 : Int32 → ST → ST} (hK2 : ∀ (q0 : Int32) (τ : ST), Fr [] [(85, 85)] σ0 τ → Fr [] [(85, 85)] σ0 (K2 q0 τ)) {l1 : Int32} {σ : ST} (h_σ : Fr [] [(85, 85)] σ0 σ) : Fr [] [(85, 85)] σ0 (fX12_begin_0b2 K2 l1 σ) := by
  unfold fX12_begin_0b2
  exact iteF (fb_fX12_begin_0b21  h_σ) (fb_fX12_begin_0b8 hK2 h_σ)
theorem fb_fX12_begin_0l2 {σ0 : ST}  : ∀ (fu : Nat) {q0 : Int32} {τ : ST} (h : Fr [] [(85, 85)] σ0 τ), Fr [] [(85, 85)] σ0 (fX12_begin_0l2 fu q0 τ)
  | 0, _, _, h => h
  | fu + 1, _, _, h => fb_fX12_begin_0b2 (fun _ _ q => fb_fX12_begin_0l2  fu q) h
theorem fb_fX12_begin_0b0 {σ0 : ST}  {σ : ST} (h_σ : Fr [] [(85, 85)] σ0 σ) : Fr [] [(85, 85)] σ0 (fX12_begin_0b0 σ) := by
  unfold fX12_begin_0b0
  exact fb_fX12_begin_0l2  _ h_σ
theorem fr_fX12_begin_0 {σ : ST} : Fr [] [(85, 85)] σ (fX12_begin_0 σ) := fb_fX12_begin_0b0 (Fr.refl σ)
theorem fb_fX12_goOn_0b71 {σ0 : ST}  {σ : ST} (h_σ : Fr [] [(85, 85)] σ0 σ) : FrP [] [(85, 85)] σ0 (fX12_goOn_0b71 σ) := by
  unfold fX12_goOn_0b71
  exact h_σ
theorem fb_fX12_goOn_0b65 {σ0 : ST} {K7 : Int32 → ST → (Int32 × ST)} (hK7 : ∀ (q0 : Int32) (τ : ST), Fr [] [(85, 85)] σ0 τ → FrP [] [(85, 85)] σ0 (K7 q0 τ)) {l1 : Int32} {σ : ST} (h_σ : Fr [] [(85, 85)] σ0 σ) : FrP [] [(85, 85)] σ0 (fX12_goOn_0b65 K7 l1 σ) := by
  unfold fX12_goOn_0b65
  refine bdF2 fun v65 _ => ?_
  exact hK7 _ _ h_σ
theorem fb_fX12_goOn_0b63 {σ0 : ST} {K7 : Int32 → ST → (Int32 × ST)} (hK7 : ∀ (q0 : Int32) (τ : ST), Fr [] [(85, 85)] σ0 τ → FrP [] [(85, 85)] σ0 (K7 q0 τ)) {σ : ST} (h_σ : Fr [] [(85, 85)] σ0 σ) : FrP [] [(85, 85)] σ0 (fX12_goOn_0b63 K7 σ) := by
  unfold fX12_goOn_0b63
  exact h_σ
theorem fb_fX12_goOn_0b50 {σ0 : ST} {K7 : Int32 → ST → (Int32 × ST)} (hK7 : ∀ (q0 : Int32) (τ : ST), Fr [] [(85, 85)] σ0 τ → FrP [] [(85, 85)] σ0 (K7 q0 τ)) {K42 : Int32 → ST → (Int32 × ST)} (hK42 : ∀ (q0 : Int32) (τ : ST), Fr [] [(85, 85)] σ0 τ → FrP [] [(85, 85)] σ0 (K42 q0 τ)) {l2 : Int32} {σ : ST} (h_σ : Fr [] [(85, 85)] σ0 σ) : FrP [] [(85, 85)] σ0 (fX12_goOn_0b50 K7 K42 l2 σ) := by
  unfold fX12_goOn_0b50
  refine bdF2 fun s56 e_s56 => ?_
  have h_s56 : Fr [] [(85, 85)] σ0 s56 := by rw [e_s56]; exact h_σ.putA rfl
  refine bdF2 fun v57 _ => ?_
  exact hK42 _ _ h_s56
theorem fb_fX12_goOn_0b42 {σ0 : ST} {K7 : Int32 → ST → (Int32 × ST)} (hK7 : ∀ (q0 : Int32) (τ : ST), Fr [] [(85, 85)] σ0 τ → FrP [] [(85, 85)] σ0 (K7 q0 τ)) {K42 : Int32 → ST → (Int32 × ST)} (hK42 : ∀ (q0 : Int32) (τ : ST), Fr [] [(85, 85)] σ0 τ → FrP [] [(85, 85)] σ0 (K42 q0 τ)) {l2 : Int32} {σ : ST} (h_σ : Fr [] [(85, 85)] σ0 σ) : FrP [] [(85, 85)] σ0 (fX12_goOn_0b42 K7 K42 l2 σ) := by
  unfold fX12_goOn_0b42
  refine bdF2 fun v44 _ => ?_
  exact iteF2 (fb_fX12_goOn_0b63 hK7 h_σ) (fb_fX12_goOn_0b50 hK7 hK42 h_σ)
theorem fb_fX12_goOn_0l42 {σ0 : ST} {K7 : Int32 → ST → (Int32 × ST)} (hK7 : ∀ (q0 : Int32) (τ : ST), Fr [] [(85, 85)] σ0 τ → FrP [] [(85, 85)] σ0 (K7 q0 τ)) : ∀ (fu : Nat) {q0 : Int32} {τ : ST} (h : Fr [] [(85, 85)] σ0 τ), FrP [] [(85, 85)] σ0 (fX12_goOn_0l42 K7 fu q0 τ)
  | 0, _, _, h => h
  | fu + 1, _, _, h => fb_fX12_goOn_0b42 hK7 (fun _ _ q => fb_fX12_goOn_0l42 hK7 fu q) h
theorem fb_fX12_goOn_0b28 {σ0 : ST} {K7 : Int32 → ST → (Int32 × ST)} (hK7 : ∀ (q0 : Int32) (τ : ST), Fr [] [(85, 85)] σ0 τ → FrP [] [(85, 85)] σ0 (K7 q0 τ)) {l1 : Int32} {σ : ST} (h_σ : Fr [] [(85, 85)] σ0 σ) : FrP [] [(85, 85)] σ0 (fX12_goOn_0b28 K7 l1 σ) := by
  unfold fX12_goOn_0b28
  refine bdF2 fun v34 _ => ?_
  refine bdF2 fun v36 _ => ?_
  refine bdF2 fun s37 e_s37 => ?_
  have h_s37 : Fr [] [(85, 85)] σ0 s37 := by rw [e_s37]; exact h_σ.putA rfl
  refine bdF2 fun v40 _ => ?_
  exact fb_fX12_goOn_0l42 hK7 _ h_s37
theorem fb_fX12_goOn_0b11 {σ0 : ST} {K7 : Int32 → ST → (Int32 × ST)} (hK7 : ∀ (q0 : Int32) (τ : ST), Fr [] [(85, 85)] σ0 τ → FrP [] [(85, 85)] σ0 (K7 q0 τ)) {l1 : Int32} {σ : ST} (h_σ : Fr [] [(85, 85)] σ0 σ) : FrP [] [(85, 85)] σ0 (fX12_goOn_0b11 K7 l1 σ) := by
  unfold fX12_goOn_0b11
  refine bdF2 fun v16 _ => ?_
  refine bdF2 fun v22 _ => ?_
  exact iteF2 (fb_fX12_goOn_0b65 hK7 h_σ) (fb_fX12_goOn_0b28 hK7 h_σ)
theorem fb_fX12_goOn_0b7 {σ0 : ST} {K7 : Int32 → ST → (Int32 × ST)} (hK7 : ∀ (q0 : Int32) (τ : ST), Fr [] [(85, 85)] σ0 τ → FrP [] [(85, 85)] σ0 (K7 q0 τ)) {l1 : Int32} {σ : ST} (h_σ : Fr [] [(85, 85)] σ0 σ) : FrP [] [(85, 85)] σ0 (fX12_goOn_0b7 K7 l1 σ) := by
  unfold fX12_goOn_0b7
  exact iteF2 (fb_fX12_goOn_0b71  h_σ) (fb_fX12_goOn_0b11 hK7 h_σ)
theorem fb_fX12_goOn_0l7 {σ0 : ST}  : ∀ (fu : Nat) {q0 : Int32} {τ : ST} (h : Fr [] [(85, 85)] σ0 τ), FrP [] [(85, 85)] σ0 (fX12_goOn_0l7 fu q0 τ)
  | 0, _, _, h => h
  | fu + 1, _, _, h => fb_fX12_goOn_0b7 (fun _ _ q => fb_fX12_goOn_0l7  fu q) h
theorem fb_fX12_goOn_0b0 {σ0 : ST}  {σ : ST} (h_σ : Fr [] [(85, 85)] σ0 σ) : FrP [] [(85, 85)] σ0 (fX12_goOn_0b0 σ) := by
  unfold fX12_goOn_0b0
  refine bdF2 fun v1 _ => ?_
  refine bdF2 fun v5 _ => ?_
  exact fb_fX12_goOn_0l7  _ h_σ
theorem fr_fX12_goOn_0 {σ : ST} : Fr [] [(85, 85)] σ (fX12_goOn_0 σ).2 := fb_fX12_goOn_0b0 (Fr.refl σ)
theorem fb_fX12_findBest_0b99 {σ0 : ST}  {σ : ST} (h_σ : Fr [(35, 39)] [(75, 86), (88, 88)] σ0 σ) : FrP [(35, 39)] [(75, 86), (88, 88)] σ0 (fX12_findBest_0b99 σ) := by
  unfold fX12_findBest_0b99
  exact h_σ
theorem fb_fX12_findBest_0b89 {σ0 : ST} {K27 : Int32 → Int32 → ST → (Int32 × ST)} (hK27 : ∀ (q0 : Int32) (q1 : Int32) (τ : ST), Fr [(35, 39)] [(75, 86), (88, 88)] σ0 τ → FrP [(35, 39)] [(75, 86), (88, 88)] σ0 (K27 q0 q1 τ)) {σ : ST} (h_σ : Fr [(35, 39)] [(75, 86), (88, 88)] σ0 σ) : FrP [(35, 39)] [(75, 86), (88, 88)] σ0 (fX12_findBest_0b89 K27 σ) := by
  unfold fX12_findBest_0b89
  refine bpF2 fun v92 s92 e_s92 => ?_
  have h_s92 : Fr [(35, 39)] [(75, 86), (88, 88)] σ0 s92 := by rw [← e_s92]; exact h_σ.call fr_fX12_goOn_0 rfl rfl
  exact hK27 _ _ _ h_s92
theorem fb_fX12_findBest_0b69 {σ0 : ST} {K27 : Int32 → Int32 → ST → (Int32 × ST)} (hK27 : ∀ (q0 : Int32) (q1 : Int32) (τ : ST), Fr [(35, 39)] [(75, 86), (88, 88)] σ0 τ → FrP [(35, 39)] [(75, 86), (88, 88)] σ0 (K27 q0 q1 τ)) {K60 : Int32 → ST → (Int32 × ST)} (hK60 : ∀ (q0 : Int32) (τ : ST), Fr [(35, 39)] [(75, 86), (88, 88)] σ0 τ → FrP [(35, 39)] [(75, 86), (88, 88)] σ0 (K60 q0 τ)) {l4 : Int32} {σ : ST} (h_σ : Fr [(35, 39)] [(75, 86), (88, 88)] σ0 σ) : FrP [(35, 39)] [(75, 86), (88, 88)] σ0 (fX12_findBest_0b69 K27 K60 l4 σ) := by
  unfold fX12_findBest_0b69
  refine bdF2 fun v81 _ => ?_
  refine bdF2 fun s82 e_s82 => ?_
  have h_s82 : Fr [(35, 39)] [(75, 86), (88, 88)] σ0 s82 := by rw [e_s82]; exact h_σ.putA rfl
  refine bdF2 fun v83 _ => ?_
  exact hK60 _ _ h_s82
theorem fb_fX12_findBest_0b60 {σ0 : ST} {K27 : Int32 → Int32 → ST → (Int32 × ST)} (hK27 : ∀ (q0 : Int32) (q1 : Int32) (τ : ST), Fr [(35, 39)] [(75, 86), (88, 88)] σ0 τ → FrP [(35, 39)] [(75, 86), (88, 88)] σ0 (K27 q0 q1 τ)) {K60 : Int32 → ST → (Int32 × ST)} (hK60 : ∀ (q0 : Int32) (τ : ST), Fr [(35, 39)] [(75, 86), (88, 88)] σ0 τ → FrP [(35, 39)] [(75, 86), (88, 88)] σ0 (K60 q0 τ)) {l4 : Int32} {σ : ST} (h_σ : Fr [(35, 39)] [(75, 86), (88, 88)] σ0 σ) : FrP [(35, 39)] [(75, 86), (88, 88)] σ0 (fX12_findBest_0b60 K27 K60 l4 σ) := by
  unfold fX12_findBest_0b60
  refine bdF2 fun v63 _ => ?_
  exact iteF2 (fb_fX12_findBest_0b89 hK27 h_σ) (fb_fX12_findBest_0b69 hK27 hK60 h_σ)
theorem fb_fX12_findBest_0l60 {σ0 : ST} {K27 : Int32 → Int32 → ST → (Int32 × ST)} (hK27 : ∀ (q0 : Int32) (q1 : Int32) (τ : ST), Fr [(35, 39)] [(75, 86), (88, 88)] σ0 τ → FrP [(35, 39)] [(75, 86), (88, 88)] σ0 (K27 q0 q1 τ)) : ∀ (fu : Nat) {q0 : Int32} {τ : ST} (h : Fr [(35, 39)] [(75, 86), (88, 88)] σ0 τ), FrP [(35, 39)] [(75, 86), (88, 88)] σ0 (fX12_findBest_0l60 K27 fu q0 τ)
  | 0, _, _, h => h
  | fu + 1, _, _, h => fb_fX12_findBest_0b60 hK27 (fun _ _ q => fb_fX12_findBest_0l60 hK27 fu q) h
theorem fb_fX12_findBest_0b52 {σ0 : ST} {K27 : Int32 → Int32 → ST → (Int32 × ST)} (hK27 : ∀ (q0 : Int32) (q1 : Int32) (τ : ST), Fr [(35, 39)] [(75, 86), (88, 88)] σ0 τ → FrP [(35, 39)] [(75, 86), (88, 88)] σ0 (K27 q0 q1 τ)) {l3 : Int32} {σ : ST} (h_σ : Fr [(35, 39)] [(75, 86), (88, 88)] σ0 σ) : FrP [(35, 39)] [(75, 86), (88, 88)] σ0 (fX12_findBest_0b52 K27 l3 σ) := by
  unfold fX12_findBest_0b52
  refine bdF2 fun s54 e_s54 => ?_
  have h_s54 : Fr [(35, 39)] [(75, 86), (88, 88)] σ0 s54 := by rw [e_s54]; exact h_σ.putI rfl
  exact fb_fX12_findBest_0l60 hK27 _ h_s54
theorem fb_fX12_findBest_0b44 {σ0 : ST} {K27 : Int32 → Int32 → ST → (Int32 × ST)} (hK27 : ∀ (q0 : Int32) (q1 : Int32) (τ : ST), Fr [(35, 39)] [(75, 86), (88, 88)] σ0 τ → FrP [(35, 39)] [(75, 86), (88, 88)] σ0 (K27 q0 q1 τ)) {l3 : Int32} {σ : ST} (h_σ : Fr [(35, 39)] [(75, 86), (88, 88)] σ0 σ) : FrP [(35, 39)] [(75, 86), (88, 88)] σ0 (fX12_findBest_0b44 K27 l3 σ) := by
  unfold fX12_findBest_0b44
  refine bdF2 fun v46 _ => ?_
  exact iteF2 (fb_fX12_findBest_0b89 hK27 h_σ) (fb_fX12_findBest_0b52 hK27 h_σ)
theorem fb_fX12_findBest_0b31 {σ0 : ST} {K27 : Int32 → Int32 → ST → (Int32 × ST)} (hK27 : ∀ (q0 : Int32) (q1 : Int32) (τ : ST), Fr [(35, 39)] [(75, 86), (88, 88)] σ0 τ → FrP [(35, 39)] [(75, 86), (88, 88)] σ0 (K27 q0 q1 τ)) {l2 : Int32} {σ : ST} (h_σ : Fr [(35, 39)] [(75, 86), (88, 88)] σ0 σ) : FrP [(35, 39)] [(75, 86), (88, 88)] σ0 (fX12_findBest_0b31 K27 l2 σ) := by
  unfold fX12_findBest_0b31
  refine bdF2 fun v36 _ => ?_
  exact iteF2 (fb_fX12_findBest_0b52 hK27 h_σ) (fb_fX12_findBest_0b44 hK27 h_σ)
theorem fb_fX12_findBest_0b27 {σ0 : ST} {K27 : Int32 → Int32 → ST → (Int32 × ST)} (hK27 : ∀ (q0 : Int32) (q1 : Int32) (τ : ST), Fr [(35, 39)] [(75, 86), (88, 88)] σ0 τ → FrP [(35, 39)] [(75, 86), (88, 88)] σ0 (K27 q0 q1 τ)) {l1 : Int32} {l2 : Int32} {σ : ST} (h_σ : Fr [(35, 39)] [(75, 86), (88, 88)] σ0 σ) : FrP [(35, 39)] [(75, 86), (88, 88)] σ0 (fX12_findBest_0b27 K27 l1 l2 σ) := by
  unfold fX12_findBest_0b27
  exact iteF2 (fb_fX12_findBest_0b99  h_σ) (fb_fX12_findBest_0b31 hK27 h_σ)
theorem fb_fX12_findBest_0l27 {σ0 : ST}  : ∀ (fu : Nat) {q0 : Int32} {q1 : Int32} {τ : ST} (h : Fr [(35, 39)] [(75, 86), (88, 88)] σ0 τ), FrP [(35, 39)] [(75, 86), (88, 88)] σ0 (fX12_findBest_0l27 fu q0 q1 τ)
  | 0, _, _, _, h => h
  | fu + 1, _, _, _, h => fb_fX12_findBest_0b27 (fun _ _ _ q => fb_fX12_findBest_0l27  fu q) h
theorem fb_fX12_findBest_0b15 {σ0 : ST}  {σ : ST} (h_σ : Fr [(35, 39)] [(75, 86), (88, 88)] σ0 σ) : FrP [(35, 39)] [(75, 86), (88, 88)] σ0 (fX12_findBest_0b15 σ) := by
  unfold fX12_findBest_0b15
  refine bdF2 fun s16 e_s16 => ?_
  have h_s16 : Fr [(35, 39)] [(75, 86), (88, 88)] σ0 s16 := by rw [e_s16]; exact h_σ.call fr_fX12_findGains_0 rfl rfl
  refine bdF2 fun s20 e_s20 => ?_
  have h_s20 : Fr [(35, 39)] [(75, 86), (88, 88)] σ0 s20 := by rw [e_s20]; exact h_s16.call fr_fX12_begin_0 rfl rfl
  exact fb_fX12_findBest_0l27  _ h_s20
theorem fb_fX12_findBest_0b13 {σ0 : ST}  {σ : ST} (h_σ : Fr [(35, 39)] [(75, 86), (88, 88)] σ0 σ) : FrP [(35, 39)] [(75, 86), (88, 88)] σ0 (fX12_findBest_0b13 σ) := by
  unfold fX12_findBest_0b13
  exact h_σ
theorem fb_fX12_findBest_0b0 {σ0 : ST}  {σ : ST} (h_σ : Fr [(35, 39)] [(75, 86), (88, 88)] σ0 σ) : FrP [(35, 39)] [(75, 86), (88, 88)] σ0 (fX12_findBest_0b0 σ) := by
  unfold fX12_findBest_0b0
  refine bdF2 fun s1 e_s1 => ?_
  have h_s1 : Fr [(35, 39)] [(75, 86), (88, 88)] σ0 s1 := by rw [e_s1]; exact h_σ.call fr_fX12_findPieces_0 rfl rfl
  refine bdF2 fun v5 _ => ?_
  exact iteF2 (fb_fX12_findBest_0b15  h_s1) (fb_fX12_findBest_0b13  h_s1)
theorem fr_fX12_findBest_0 {σ : ST} : Fr [(35, 39)] [(75, 86), (88, 88)] σ (fX12_findBest_0 σ).2 := fb_fX12_findBest_0b0 (Fr.refl σ)
theorem fb_fX12_join_0b364 {σ0 : ST}  {σ : ST} (h_σ : Fr [] [(85, 85), (87, 87)] σ0 σ) : Fr [] [(85, 85), (87, 87)] σ0 (fX12_join_0b364 σ) := by
  unfold fX12_join_0b364
  exact h_σ
theorem fb_fX12_join_0b346 {σ0 : ST} {K338 : Int32 → ST → ST} (hK338 : ∀ (q0 : Int32) (τ : ST), Fr [] [(85, 85), (87, 87)] σ0 τ → Fr [] [(85, 85), (87, 87)] σ0 (K338 q0 τ)) {l3 : Int32} {σ : ST} (h_σ : Fr [] [(85, 85), (87, 87)] σ0 σ) : Fr [] [(85, 85), (87, 87)] σ0 (fX12_join_0b346 K338 l3 σ) := by
  unfold fX12_join_0b346
  refine bdF fun v356 _ => ?_
  refine bdF fun s357 e_s357 => ?_
  have h_s357 : Fr [] [(85, 85), (87, 87)] σ0 s357 := by rw [e_s357]; exact h_σ.putA rfl
  refine bdF fun v358 _ => ?_
  exact hK338 _ _ h_s357
theorem fb_fX12_join_0b338 {σ0 : ST} {K338 : Int32 → ST → ST} (hK338 : ∀ (q0 : Int32) (τ : ST), Fr [] [(85, 85), (87, 87)] σ0 τ → Fr [] [(85, 85), (87, 87)] σ0 (K338 q0 τ)) {l3 : Int32} {σ : ST} (h_σ : Fr [] [(85, 85), (87, 87)] σ0 σ) : Fr [] [(85, 85), (87, 87)] σ0 (fX12_join_0b338 K338 l3 σ) := by
  unfold fX12_join_0b338
  refine bdF fun v340 _ => ?_
  exact iteF (fb_fX12_join_0b364  h_σ) (fb_fX12_join_0b346 hK338 h_σ)
theorem fb_fX12_join_0l338 {σ0 : ST}  : ∀ (fu : Nat) {q0 : Int32} {τ : ST} (h : Fr [] [(85, 85), (87, 87)] σ0 τ), Fr [] [(85, 85), (87, 87)] σ0 (fX12_join_0l338 fu q0 τ)
  | 0, _, _, h => h
  | fu + 1, _, _, h => fb_fX12_join_0b338 (fun _ _ q => fb_fX12_join_0l338  fu q) h
theorem fb_fX12_join_0b336 {σ0 : ST}  {σ : ST} (h_σ : Fr [] [(85, 85), (87, 87)] σ0 σ) : Fr [] [(85, 85), (87, 87)] σ0 (fX12_join_0b336 σ) := by
  unfold fX12_join_0b336
  exact fb_fX12_join_0l338  _ h_σ
theorem fb_fX12_join_0b328 {σ0 : ST} {K273 : Int32 → Int32 → ST → ST} (hK273 : ∀ (q0 : Int32) (q1 : Int32) (τ : ST), Fr [] [(85, 85), (87, 87)] σ0 τ → Fr [] [(85, 85), (87, 87)] σ0 (K273 q0 q1 τ)) {l3 : Int32} {t0 : Int32} {t1 : Int32} {σ : ST} (h_σ : Fr [] [(85, 85), (87, 87)] σ0 σ) : Fr [] [(85, 85), (87, 87)] σ0 (fX12_join_0b328 K273 l3 t0 t1 σ) := by
  unfold fX12_join_0b328
  refine bdF fun v328 _ => ?_
  refine bdF fun v330 _ => ?_
  exact hK273 _ _ _ h_σ
theorem fb_fX12_join_0b327 {σ0 : ST} {K273 : Int32 → Int32 → ST → ST} (hK273 : ∀ (q0 : Int32) (q1 : Int32) (τ : ST), Fr [] [(85, 85), (87, 87)] σ0 τ → Fr [] [(85, 85), (87, 87)] σ0 (K273 q0 q1 τ)) {l3 : Int32} {t0 : Int32} {σ : ST} (h_σ : Fr [] [(85, 85), (87, 87)] σ0 σ) : Fr [] [(85, 85), (87, 87)] σ0 (fX12_join_0b327 K273 l3 t0 σ) := by
  unfold fX12_join_0b327
  exact fb_fX12_join_0b328 hK273 h_σ
theorem fb_fX12_join_0b323 {σ0 : ST} {K273 : Int32 → Int32 → ST → ST} (hK273 : ∀ (q0 : Int32) (q1 : Int32) (τ : ST), Fr [] [(85, 85), (87, 87)] σ0 τ → Fr [] [(85, 85), (87, 87)] σ0 (K273 q0 q1 τ)) {l3 : Int32} {t0 : Int32} {σ : ST} (h_σ : Fr [] [(85, 85), (87, 87)] σ0 σ) : Fr [] [(85, 85), (87, 87)] σ0 (fX12_join_0b323 K273 l3 t0 σ) := by
  unfold fX12_join_0b323
  exact fb_fX12_join_0b328 hK273 h_σ
theorem fb_fX12_join_0b311 {σ0 : ST} {K273 : Int32 → Int32 → ST → ST} (hK273 : ∀ (q0 : Int32) (q1 : Int32) (τ : ST), Fr [] [(85, 85), (87, 87)] σ0 τ → Fr [] [(85, 85), (87, 87)] σ0 (K273 q0 q1 τ)) {l2 : Int32} {l3 : Int32} {t0 : Int32} {t1 : Int32} {σ : ST} (h_σ : Fr [] [(85, 85), (87, 87)] σ0 σ) : Fr [] [(85, 85), (87, 87)] σ0 (fX12_join_0b311 K273 l2 l3 t0 t1 σ) := by
  unfold fX12_join_0b311
  refine bdF fun s311 e_s311 => ?_
  have h_s311 : Fr [] [(85, 85), (87, 87)] σ0 s311 := by rw [e_s311]; exact h_σ.putA rfl
  refine bdF fun v318 _ => ?_
  exact iteF (fb_fX12_join_0b323 hK273 h_s311) (fb_fX12_join_0b327 hK273 h_s311)
theorem fb_fX12_join_0b300 {σ0 : ST} {K273 : Int32 → Int32 → ST → ST} (hK273 : ∀ (q0 : Int32) (q1 : Int32) (τ : ST), Fr [] [(85, 85), (87, 87)] σ0 τ → Fr [] [(85, 85), (87, 87)] σ0 (K273 q0 q1 τ)) {l2 : Int32} {l3 : Int32} {t0 : Int32} {σ : ST} (h_σ : Fr [] [(85, 85), (87, 87)] σ0 σ) : Fr [] [(85, 85), (87, 87)] σ0 (fX12_join_0b300 K273 l2 l3 t0 σ) := by
  unfold fX12_join_0b300
  refine bdF fun v309 _ => ?_
  refine bdF fun v310 _ => ?_
  exact fb_fX12_join_0b311 hK273 h_σ
theorem fb_fX12_join_0b296 {σ0 : ST} {K273 : Int32 → Int32 → ST → ST} (hK273 : ∀ (q0 : Int32) (q1 : Int32) (τ : ST), Fr [] [(85, 85), (87, 87)] σ0 τ → Fr [] [(85, 85), (87, 87)] σ0 (K273 q0 q1 τ)) {l2 : Int32} {l3 : Int32} {t0 : Int32} {σ : ST} (h_σ : Fr [] [(85, 85), (87, 87)] σ0 σ) : Fr [] [(85, 85), (87, 87)] σ0 (fX12_join_0b296 K273 l2 l3 t0 σ) := by
  unfold fX12_join_0b296
  exact fb_fX12_join_0b311 hK273 h_σ
theorem fb_fX12_join_0b281 {σ0 : ST} {K273 : Int32 → Int32 → ST → ST} (hK273 : ∀ (q0 : Int32) (q1 : Int32) (τ : ST), Fr [] [(85, 85), (87, 87)] σ0 τ → Fr [] [(85, 85), (87, 87)] σ0 (K273 q0 q1 τ)) {l2 : Int32} {l3 : Int32} {σ : ST} (h_σ : Fr [] [(85, 85), (87, 87)] σ0 σ) : Fr [] [(85, 85), (87, 87)] σ0 (fX12_join_0b281 K273 l2 l3 σ) := by
  unfold fX12_join_0b281
  refine bdF fun v291 _ => ?_
  exact iteF (fb_fX12_join_0b296 hK273 h_σ) (fb_fX12_join_0b300 hK273 h_σ)
theorem fb_fX12_join_0b273 {σ0 : ST} {K273 : Int32 → Int32 → ST → ST} (hK273 : ∀ (q0 : Int32) (q1 : Int32) (τ : ST), Fr [] [(85, 85), (87, 87)] σ0 τ → Fr [] [(85, 85), (87, 87)] σ0 (K273 q0 q1 τ)) {l2 : Int32} {l3 : Int32} {σ : ST} (h_σ : Fr [] [(85, 85), (87, 87)] σ0 σ) : Fr [] [(85, 85), (87, 87)] σ0 (fX12_join_0b273 K273 l2 l3 σ) := by
  unfold fX12_join_0b273
  refine bdF fun v275 _ => ?_
  exact iteF (fb_fX12_join_0b336  h_σ) (fb_fX12_join_0b281 hK273 h_σ)
theorem fb_fX12_join_0l273 {σ0 : ST}  : ∀ (fu : Nat) {q0 : Int32} {q1 : Int32} {τ : ST} (h : Fr [] [(85, 85), (87, 87)] σ0 τ), Fr [] [(85, 85), (87, 87)] σ0 (fX12_join_0l273 fu q0 q1 τ)
  | 0, _, _, _, h => h
  | fu + 1, _, _, _, h => fb_fX12_join_0b273 (fun _ _ _ q => fb_fX12_join_0l273  fu q) h
theorem fb_fX12_join_0b269 {σ0 : ST}  {σ : ST} (h_σ : Fr [] [(85, 85), (87, 87)] σ0 σ) : Fr [] [(85, 85), (87, 87)] σ0 (fX12_join_0b269 σ) := by
  unfold fX12_join_0b269
  exact fb_fX12_join_0l273  _ h_σ
theorem fb_fX12_join_0b266 {σ0 : ST} {K25 : Int32 → ST → ST} (hK25 : ∀ (q0 : Int32) (τ : ST), Fr [] [(85, 85), (87, 87)] σ0 τ → Fr [] [(85, 85), (87, 87)] σ0 (K25 q0 τ)) {l1 : Int32} {σ : ST} (h_σ : Fr [] [(85, 85), (87, 87)] σ0 σ) : Fr [] [(85, 85), (87, 87)] σ0 (fX12_join_0b266 K25 l1 σ) := by
  unfold fX12_join_0b266
  exact hK25 _ _ h_σ
theorem fb_fX12_join_0b259 {σ0 : ST} {K25 : Int32 → ST → ST} (hK25 : ∀ (q0 : Int32) (τ : ST), Fr [] [(85, 85), (87, 87)] σ0 τ → Fr [] [(85, 85), (87, 87)] σ0 (K25 q0 τ)) {K218 : Int32 → Int32 → Int32 → Int32 → ST → ST} (hK218 : ∀ (q0 : Int32) (q1 : Int32) (q2 : Int32) (q3 : Int32) (τ : ST), Fr [] [(85, 85), (87, 87)] σ0 τ → Fr [] [(85, 85), (87, 87)] σ0 (K218 q0 q1 q2 q3 τ)) {l1 : Int32} {l2 : Int32} {l3 : Int32} {l5 : Int32} {t0 : Int32} {t1 : Int32} {σ : ST} (h_σ : Fr [] [(85, 85), (87, 87)] σ0 σ) : Fr [] [(85, 85), (87, 87)] σ0 (fX12_join_0b259 K25 K218 l1 l2 l3 l5 t0 t1 σ) := by
  unfold fX12_join_0b259
  refine bdF fun s259 e_s259 => ?_
  have h_s259 : Fr [] [(85, 85), (87, 87)] σ0 s259 := by rw [e_s259]; exact h_σ.putA rfl
  refine bdF fun v260 _ => ?_
  exact hK218 _ _ _ _ _ h_s259
theorem fb_fX12_join_0b252 {σ0 : ST} {K25 : Int32 → ST → ST} (hK25 : ∀ (q0 : Int32) (τ : ST), Fr [] [(85, 85), (87, 87)] σ0 τ → Fr [] [(85, 85), (87, 87)] σ0 (K25 q0 τ)) {K218 : Int32 → Int32 → Int32 → Int32 → ST → ST} (hK218 : ∀ (q0 : Int32) (q1 : Int32) (q2 : Int32) (q3 : Int32) (τ : ST), Fr [] [(85, 85), (87, 87)] σ0 τ → Fr [] [(85, 85), (87, 87)] σ0 (K218 q0 q1 q2 q3 τ)) {l1 : Int32} {l2 : Int32} {l3 : Int32} {l5 : Int32} {t0 : Int32} {σ : ST} (h_σ : Fr [] [(85, 85), (87, 87)] σ0 σ) : Fr [] [(85, 85), (87, 87)] σ0 (fX12_join_0b252 K25 K218 l1 l2 l3 l5 t0 σ) := by
  unfold fX12_join_0b252
  refine bdF fun v258 _ => ?_
  exact fb_fX12_join_0b259 hK25 hK218 h_σ
theorem fb_fX12_join_0b248 {σ0 : ST} {K25 : Int32 → ST → ST} (hK25 : ∀ (q0 : Int32) (τ : ST), Fr [] [(85, 85), (87, 87)] σ0 τ → Fr [] [(85, 85), (87, 87)] σ0 (K25 q0 τ)) {K218 : Int32 → Int32 → Int32 → Int32 → ST → ST} (hK218 : ∀ (q0 : Int32) (q1 : Int32) (q2 : Int32) (q3 : Int32) (τ : ST), Fr [] [(85, 85), (87, 87)] σ0 τ → Fr [] [(85, 85), (87, 87)] σ0 (K218 q0 q1 q2 q3 τ)) {l1 : Int32} {l2 : Int32} {l3 : Int32} {l5 : Int32} {t0 : Int32} {σ : ST} (h_σ : Fr [] [(85, 85), (87, 87)] σ0 σ) : Fr [] [(85, 85), (87, 87)] σ0 (fX12_join_0b248 K25 K218 l1 l2 l3 l5 t0 σ) := by
  unfold fX12_join_0b248
  exact fb_fX12_join_0b259 hK25 hK218 h_σ
theorem fb_fX12_join_0b231 {σ0 : ST} {K25 : Int32 → ST → ST} (hK25 : ∀ (q0 : Int32) (τ : ST), Fr [] [(85, 85), (87, 87)] σ0 τ → Fr [] [(85, 85), (87, 87)] σ0 (K25 q0 τ)) {K218 : Int32 → Int32 → Int32 → Int32 → ST → ST} (hK218 : ∀ (q0 : Int32) (q1 : Int32) (q2 : Int32) (q3 : Int32) (τ : ST), Fr [] [(85, 85), (87, 87)] σ0 τ → Fr [] [(85, 85), (87, 87)] σ0 (K218 q0 q1 q2 q3 τ)) {l1 : Int32} {l2 : Int32} {l3 : Int32} {l5 : Int32} {σ : ST} (h_σ : Fr [] [(85, 85), (87, 87)] σ0 σ) : Fr [] [(85, 85), (87, 87)] σ0 (fX12_join_0b231 K25 K218 l1 l2 l3 l5 σ) := by
  unfold fX12_join_0b231
  refine bdF fun v243 _ => ?_
  exact iteF (fb_fX12_join_0b248 hK25 hK218 h_σ) (fb_fX12_join_0b252 hK25 hK218 h_σ)
theorem fb_fX12_join_0b227 {σ0 : ST} {K25 : Int32 → ST → ST} (hK25 : ∀ (q0 : Int32) (τ : ST), Fr [] [(85, 85), (87, 87)] σ0 τ → Fr [] [(85, 85), (87, 87)] σ0 (K25 q0 τ)) {K218 : Int32 → Int32 → Int32 → Int32 → ST → ST} (hK218 : ∀ (q0 : Int32) (q1 : Int32) (q2 : Int32) (q3 : Int32) (τ : ST), Fr [] [(85, 85), (87, 87)] σ0 τ → Fr [] [(85, 85), (87, 87)] σ0 (K218 q0 q1 q2 q3 τ)) {l1 : Int32} {l2 : Int32} {l3 : Int32} {l5 : Int32} {σ : ST} (h_σ : Fr [] [(85, 85), (87, 87)] σ0 σ) : Fr [] [(85, 85), (87, 87)] σ0 (fX12_join_0b227 K25 K218 l1 l2 l3 l5 σ) := by
  unfold fX12_join_0b227
  exact iteF (fb_fX12_join_0b266 hK25 h_σ) (fb_fX12_join_0b231 hK25 hK218 h_σ)
theorem fb_fX12_join_0b218 {σ0 : ST} {K25 : Int32 → ST → ST} (hK25 : ∀ (q0 : Int32) (τ : ST), Fr [] [(85, 85), (87, 87)] σ0 τ → Fr [] [(85, 85), (87, 87)] σ0 (K25 q0 τ)) {K218 : Int32 → Int32 → Int32 → Int32 → ST → ST} (hK218 : ∀ (q0 : Int32) (q1 : Int32) (q2 : Int32) (q3 : Int32) (τ : ST), Fr [] [(85, 85), (87, 87)] σ0 τ → Fr [] [(85, 85), (87, 87)] σ0 (K218 q0 q1 q2 q3 τ)) {l1 : Int32} {l2 : Int32} {l3 : Int32} {l5 : Int32} {σ : ST} (h_σ : Fr [] [(85, 85), (87, 87)] σ0 σ) : Fr [] [(85, 85), (87, 87)] σ0 (fX12_join_0b218 K25 K218 l1 l2 l3 l5 σ) := by
  unfold fX12_join_0b218
  refine bdF fun v221 _ => ?_
  exact iteF (fb_fX12_join_0b266 hK25 h_σ) (fb_fX12_join_0b227 hK25 hK218 h_σ)
theorem fb_fX12_join_0l218 {σ0 : ST} {K25 : Int32 → ST → ST} (hK25 : ∀ (q0 : Int32) (τ : ST), Fr [] [(85, 85), (87, 87)] σ0 τ → Fr [] [(85, 85), (87, 87)] σ0 (K25 q0 τ)) : ∀ (fu : Nat) {q0 : Int32} {q1 : Int32} {q2 : Int32} {q3 : Int32} {τ : ST} (h : Fr [] [(85, 85), (87, 87)] σ0 τ), Fr [] [(85, 85), (87, 87)] σ0 (fX12_join_0l218 K25 fu q0 q1 q2 q3 τ)
  | 0, _, _, _, _, _, h => h
  | fu + 1, _, _, _, _, _, h => fb_fX12_join_0b218 hK25 (fun _ _ _ _ _ q => fb_fX12_join_0l218 hK25 fu q) h
theorem fb_fX12_join_0b214 {σ0 : ST} {K25 : Int32 → ST → ST} (hK25 : ∀ (q0 : Int32) (τ : ST), Fr [] [(85, 85), (87, 87)] σ0 τ → Fr [] [(85, 85), (87, 87)] σ0 (K25 q0 τ)) {l2 : Int32} {l3 : Int32} {t0 : Int32} {σ : ST} (h_σ : Fr [] [(85, 85), (87, 87)] σ0 σ) : Fr [] [(85, 85), (87, 87)] σ0 (fX12_join_0b214 K25 l2 l3 t0 σ) := by
  unfold fX12_join_0b214
  exact fb_fX12_join_0l218 hK25 _ h_σ
theorem fb_fX12_join_0b213 {σ0 : ST} {K25 : Int32 → ST → ST} (hK25 : ∀ (q0 : Int32) (τ : ST), Fr [] [(85, 85), (87, 87)] σ0 τ → Fr [] [(85, 85), (87, 87)] σ0 (K25 q0 τ)) {l2 : Int32} {l3 : Int32} {σ : ST} (h_σ : Fr [] [(85, 85), (87, 87)] σ0 σ) : Fr [] [(85, 85), (87, 87)] σ0 (fX12_join_0b213 K25 l2 l3 σ) := by
  unfold fX12_join_0b213
  exact fb_fX12_join_0b214 hK25 h_σ
theorem fb_fX12_join_0b209 {σ0 : ST} {K25 : Int32 → ST → ST} (hK25 : ∀ (q0 : Int32) (τ : ST), Fr [] [(85, 85), (87, 87)] σ0 τ → Fr [] [(85, 85), (87, 87)] σ0 (K25 q0 τ)) {l2 : Int32} {l3 : Int32} {σ : ST} (h_σ : Fr [] [(85, 85), (87, 87)] σ0 σ) : Fr [] [(85, 85), (87, 87)] σ0 (fX12_join_0b209 K25 l2 l3 σ) := by
  unfold fX12_join_0b209
  exact fb_fX12_join_0b214 hK25 h_σ
theorem fb_fX12_join_0b203 {σ0 : ST} {K25 : Int32 → ST → ST} (hK25 : ∀ (q0 : Int32) (τ : ST), Fr [] [(85, 85), (87, 87)] σ0 τ → Fr [] [(85, 85), (87, 87)] σ0 (K25 q0 τ)) {l2 : Int32} {l3 : Int32} {σ : ST} (h_σ : Fr [] [(85, 85), (87, 87)] σ0 σ) : Fr [] [(85, 85), (87, 87)] σ0 (fX12_join_0b203 K25 l2 l3 σ) := by
  unfold fX12_join_0b203
  exact iteF (fb_fX12_join_0b213 hK25 h_σ) (fb_fX12_join_0b209 hK25 h_σ)
theorem fb_fX12_join_0b197 {σ0 : ST} {K25 : Int32 → ST → ST} (hK25 : ∀ (q0 : Int32) (τ : ST), Fr [] [(85, 85), (87, 87)] σ0 τ → Fr [] [(85, 85), (87, 87)] σ0 (K25 q0 τ)) {K41 : Int32 → Int32 → Int32 → Int32 → ST → ST} (hK41 : ∀ (q0 : Int32) (q1 : Int32) (q2 : Int32) (q3 : Int32) (τ : ST), Fr [] [(85, 85), (87, 87)] σ0 τ → Fr [] [(85, 85), (87, 87)] σ0 (K41 q0 q1 q2 q3 τ)) {l2 : Int32} {l3 : Int32} {l4 : Int32} {l5 : Int32} {σ : ST} (h_σ : Fr [] [(85, 85), (87, 87)] σ0 σ) : Fr [] [(85, 85), (87, 87)] σ0 (fX12_join_0b197 K25 K41 l2 l3 l4 l5 σ) := by
  unfold fX12_join_0b197
  refine bdF fun v197 _ => ?_
  exact hK41 _ _ _ _ _ h_σ
theorem fb_fX12_join_0b191 {σ0 : ST} {K25 : Int32 → ST → ST} (hK25 : ∀ (q0 : Int32) (τ : ST), Fr [] [(85, 85), (87, 87)] σ0 τ → Fr [] [(85, 85), (87, 87)] σ0 (K25 q0 τ)) {K41 : Int32 → Int32 → Int32 → Int32 → ST → ST} (hK41 : ∀ (q0 : Int32) (q1 : Int32) (q2 : Int32) (q3 : Int32) (τ : ST), Fr [] [(85, 85), (87, 87)] σ0 τ → Fr [] [(85, 85), (87, 87)] σ0 (K41 q0 q1 q2 q3 τ)) {K56 : Int32 → Int32 → Int32 → Int32 → Int32 → ST → ST} (hK56 : ∀ (q0 : Int32) (q1 : Int32) (q2 : Int32) (q3 : Int32) (q4 : Int32) (τ : ST), Fr [] [(85, 85), (87, 87)] σ0 τ → Fr [] [(85, 85), (87, 87)] σ0 (K56 q0 q1 q2 q3 q4 τ)) {l2 : Int32} {l3 : Int32} {l4 : Int32} {l5 : Int32} {l6 : Int32} {σ : ST} (h_σ : Fr [] [(85, 85), (87, 87)] σ0 σ) : Fr [] [(85, 85), (87, 87)] σ0 (fX12_join_0b191 K25 K41 K56 l2 l3 l4 l5 l6 σ) := by
  unfold fX12_join_0b191
  refine bdF fun v191 _ => ?_
  exact hK56 _ _ _ _ _ _ h_σ
theorem fb_fX12_join_0b181 {σ0 : ST} {K25 : Int32 → ST → ST} (hK25 : ∀ (q0 : Int32) (τ : ST), Fr [] [(85, 85), (87, 87)] σ0 τ → Fr [] [(85, 85), (87, 87)] σ0 (K25 q0 τ)) {K41 : Int32 → Int32 → Int32 → Int32 → ST → ST} (hK41 : ∀ (q0 : Int32) (q1 : Int32) (q2 : Int32) (q3 : Int32) (τ : ST), Fr [] [(85, 85), (87, 87)] σ0 τ → Fr [] [(85, 85), (87, 87)] σ0 (K41 q0 q1 q2 q3 τ)) {K56 : Int32 → Int32 → Int32 → Int32 → Int32 → ST → ST} (hK56 : ∀ (q0 : Int32) (q1 : Int32) (q2 : Int32) (q3 : Int32) (q4 : Int32) (τ : ST), Fr [] [(85, 85), (87, 87)] σ0 τ → Fr [] [(85, 85), (87, 87)] σ0 (K56 q0 q1 q2 q3 q4 τ)) {l5 : Int32} {l6 : Int32} {l7 : Int32} {σ : ST} (h_σ : Fr [] [(85, 85), (87, 87)] σ0 σ) : Fr [] [(85, 85), (87, 87)] σ0 (fX12_join_0b181 K25 K41 K56 l5 l6 l7 σ) := by
  unfold fX12_join_0b181
  exact fb_fX12_join_0b191 hK25 hK41 hK56 h_σ
theorem fb_fX12_join_0b174 {σ0 : ST} {K25 : Int32 → ST → ST} (hK25 : ∀ (q0 : Int32) (τ : ST), Fr [] [(85, 85), (87, 87)] σ0 τ → Fr [] [(85, 85), (87, 87)] σ0 (K25 q0 τ)) {K41 : Int32 → Int32 → Int32 → Int32 → ST → ST} (hK41 : ∀ (q0 : Int32) (q1 : Int32) (q2 : Int32) (q3 : Int32) (τ : ST), Fr [] [(85, 85), (87, 87)] σ0 τ → Fr [] [(85, 85), (87, 87)] σ0 (K41 q0 q1 q2 q3 τ)) {K56 : Int32 → Int32 → Int32 → Int32 → Int32 → ST → ST} (hK56 : ∀ (q0 : Int32) (q1 : Int32) (q2 : Int32) (q3 : Int32) (q4 : Int32) (τ : ST), Fr [] [(85, 85), (87, 87)] σ0 τ → Fr [] [(85, 85), (87, 87)] σ0 (K56 q0 q1 q2 q3 q4 τ)) {l2 : Int32} {l3 : Int32} {l4 : Int32} {l5 : Int32} {l6 : Int32} {l7 : Int32} {σ : ST} (h_σ : Fr [] [(85, 85), (87, 87)] σ0 σ) : Fr [] [(85, 85), (87, 87)] σ0 (fX12_join_0b174 K25 K41 K56 l2 l3 l4 l5 l6 l7 σ) := by
  unfold fX12_join_0b174
  exact iteF (fb_fX12_join_0b191 hK25 hK41 hK56 h_σ) (fb_fX12_join_0b181 hK25 hK41 hK56 h_σ)
theorem fb_fX12_join_0b168 {σ0 : ST} {K25 : Int32 → ST → ST} (hK25 : ∀ (q0 : Int32) (τ : ST), Fr [] [(85, 85), (87, 87)] σ0 τ → Fr [] [(85, 85), (87, 87)] σ0 (K25 q0 τ)) {K41 : Int32 → Int32 → Int32 → Int32 → ST → ST} (hK41 : ∀ (q0 : Int32) (q1 : Int32) (q2 : Int32) (q3 : Int32) (τ : ST), Fr [] [(85, 85), (87, 87)] σ0 τ → Fr [] [(85, 85), (87, 87)] σ0 (K41 q0 q1 q2 q3 τ)) {K56 : Int32 → Int32 → Int32 → Int32 → Int32 → ST → ST} (hK56 : ∀ (q0 : Int32) (q1 : Int32) (q2 : Int32) (q3 : Int32) (q4 : Int32) (τ : ST), Fr [] [(85, 85), (87, 87)] σ0 τ → Fr [] [(85, 85), (87, 87)] σ0 (K56 q0 q1 q2 q3 q4 τ)) {K95 : Int32 → Int32 → Int32 → Int32 → Int32 → Int32 → Int32 → ST → ST} (hK95 : ∀ (q0 : Int32) (q1 : Int32) (q2 : Int32) (q3 : Int32) (q4 : Int32) (q5 : Int32) (q6 : Int32) (τ : ST), Fr [] [(85, 85), (87, 87)] σ0 τ → Fr [] [(85, 85), (87, 87)] σ0 (K95 q0 q1 q2 q3 q4 q5 q6 τ)) {l2 : Int32} {l3 : Int32} {l4 : Int32} {l5 : Int32} {l6 : Int32} {l7 : Int32} {l8 : Int32} {σ : ST} (h_σ : Fr [] [(85, 85), (87, 87)] σ0 σ) : Fr [] [(85, 85), (87, 87)] σ0 (fX12_join_0b168 K25 K41 K56 K95 l2 l3 l4 l5 l6 l7 l8 σ) := by
  unfold fX12_join_0b168
  refine bdF fun v168 _ => ?_
  exact hK95 _ _ _ _ _ _ _ _ h_σ
theorem fb_fX12_join_0b159 {σ0 : ST} {K25 : Int32 → ST → ST} (hK25 : ∀ (q0 : Int32) (τ : ST), Fr [] [(85, 85), (87, 87)] σ0 τ → Fr [] [(85, 85), (87, 87)] σ0 (K25 q0 τ)) {K41 : Int32 → Int32 → Int32 → Int32 → ST → ST} (hK41 : ∀ (q0 : Int32) (q1 : Int32) (q2 : Int32) (q3 : Int32) (τ : ST), Fr [] [(85, 85), (87, 87)] σ0 τ → Fr [] [(85, 85), (87, 87)] σ0 (K41 q0 q1 q2 q3 τ)) {K56 : Int32 → Int32 → Int32 → Int32 → Int32 → ST → ST} (hK56 : ∀ (q0 : Int32) (q1 : Int32) (q2 : Int32) (q3 : Int32) (q4 : Int32) (τ : ST), Fr [] [(85, 85), (87, 87)] σ0 τ → Fr [] [(85, 85), (87, 87)] σ0 (K56 q0 q1 q2 q3 q4 τ)) {K95 : Int32 → Int32 → Int32 → Int32 → Int32 → Int32 → Int32 → ST → ST} (hK95 : ∀ (q0 : Int32) (q1 : Int32) (q2 : Int32) (q3 : Int32) (q4 : Int32) (q5 : Int32) (q6 : Int32) (τ : ST), Fr [] [(85, 85), (87, 87)] σ0 τ → Fr [] [(85, 85), (87, 87)] σ0 (K95 q0 q1 q2 q3 q4 q5 q6 τ)) {K107 : Int32 → Int32 → Int32 → Int32 → Int32 → Int32 → Int32 → Int32 → ST → ST} (hK107 : ∀ (q0 : Int32) (q1 : Int32) (q2 : Int32) (q3 : Int32) (q4 : Int32) (q5 : Int32) (q6 : Int32) (q7 : Int32) (τ : ST), Fr [] [(85, 85), (87, 87)] σ0 τ → Fr [] [(85, 85), (87, 87)] σ0 (K107 q0 q1 q2 q3 q4 q5 q6 q7 τ)) {l2 : Int32} {l3 : Int32} {l4 : Int32} {l5 : Int32} {l6 : Int32} {l8 : Int32} {l9 : Int32} {t0 : Int32} {t1 : Int32} {σ : ST} (h_σ : Fr [] [(85, 85), (87, 87)] σ0 σ) : Fr [] [(85, 85), (87, 87)] σ0 (fX12_join_0b159 K25 K41 K56 K95 K107 l2 l3 l4 l5 l6 l8 l9 t0 t1 σ) := by
  unfold fX12_join_0b159
  refine bdF fun v159 _ => ?_
  refine bdF fun v162 _ => ?_
  exact hK107 _ _ _ _ _ _ _ _ _ h_σ
theorem fb_fX12_join_0b158 {σ0 : ST} {K25 : Int32 → ST → ST} (hK25 : ∀ (q0 : Int32) (τ : ST), Fr [] [(85, 85), (87, 87)] σ0 τ → Fr [] [(85, 85), (87, 87)] σ0 (K25 q0 τ)) {K41 : Int32 → Int32 → Int32 → Int32 → ST → ST} (hK41 : ∀ (q0 : Int32) (q1 : Int32) (q2 : Int32) (q3 : Int32) (τ : ST), Fr [] [(85, 85), (87, 87)] σ0 τ → Fr [] [(85, 85), (87, 87)] σ0 (K41 q0 q1 q2 q3 τ)) {K56 : Int32 → Int32 → Int32 → Int32 → Int32 → ST → ST} (hK56 : ∀ (q0 : Int32) (q1 : Int32) (q2 : Int32) (q3 : Int32) (q4 : Int32) (τ : ST), Fr [] [(85, 85), (87, 87)] σ0 τ → Fr [] [(85, 85), (87, 87)] σ0 (K56 q0 q1 q2 q3 q4 τ)) {K95 : Int32 → Int32 → Int32 → Int32 → Int32 → Int32 → Int32 → ST → ST} (hK95 : ∀ (q0 : Int32) (q1 : Int32) (q2 : Int32) (q3 : Int32) (q4 : Int32) (q5 : Int32) (q6 : Int32) (τ : ST), Fr [] [(85, 85), (87, 87)] σ0 τ → Fr [] [(85, 85), (87, 87)] σ0 (K95 q0 q1 q2 q3 q4 q5 q6 τ)) {K107 : Int32 → Int32 → Int32 → Int32 → Int32 → Int32 → Int32 → Int32 → ST → ST} (hK107 : ∀ (q0 : Int32) (q1 : Int32) (q2 : Int32) (q3 : Int32) (q4 : Int32) (q5 : Int32) (q6 : Int32) (q7 : Int32) (τ : ST), Fr [] [(85, 85), (87, 87)] σ0 τ → Fr [] [(85, 85), (87, 87)] σ0 (K107 q0 q1 q2 q3 q4 q5 q6 q7 τ)) {l2 : Int32} {l3 : Int32} {l4 : Int32} {l5 : Int32} {l6 : Int32} {l8 : Int32} {l9 : Int32} {t0 : Int32} {σ : ST} (h_σ : Fr [] [(85, 85), (87, 87)] σ0 σ) : Fr [] [(85, 85), (87, 87)] σ0 (fX12_join_0b158 K25 K41 K56 K95 K107 l2 l3 l4 l5 l6 l8 l9 t0 σ) := by
  unfold fX12_join_0b158
  exact fb_fX12_join_0b159 hK25 hK41 hK56 hK95 hK107 h_σ
theorem fb_fX12_join_0b142 {σ0 : ST} {K25 : Int32 → ST → ST} (hK25 : ∀ (q0 : Int32) (τ : ST), Fr [] [(85, 85), (87, 87)] σ0 τ → Fr [] [(85, 85), (87, 87)] σ0 (K25 q0 τ)) {K41 : Int32 → Int32 → Int32 → Int32 → ST → ST} (hK41 : ∀ (q0 : Int32) (q1 : Int32) (q2 : Int32) (q3 : Int32) (τ : ST), Fr [] [(85, 85), (87, 87)] σ0 τ → Fr [] [(85, 85), (87, 87)] σ0 (K41 q0 q1 q2 q3 τ)) {K56 : Int32 → Int32 → Int32 → Int32 → Int32 → ST → ST} (hK56 : ∀ (q0 : Int32) (q1 : Int32) (q2 : Int32) (q3 : Int32) (q4 : Int32) (τ : ST), Fr [] [(85, 85), (87, 87)] σ0 τ → Fr [] [(85, 85), (87, 87)] σ0 (K56 q0 q1 q2 q3 q4 τ)) {K95 : Int32 → Int32 → Int32 → Int32 → Int32 → Int32 → Int32 → ST → ST} (hK95 : ∀ (q0 : Int32) (q1 : Int32) (q2 : Int32) (q3 : Int32) (q4 : Int32) (q5 : Int32) (q6 : Int32) (τ : ST), Fr [] [(85, 85), (87, 87)] σ0 τ → Fr [] [(85, 85), (87, 87)] σ0 (K95 q0 q1 q2 q3 q4 q5 q6 τ)) {K107 : Int32 → Int32 → Int32 → Int32 → Int32 → Int32 → Int32 → Int32 → ST → ST} (hK107 : ∀ (q0 : Int32) (q1 : Int32) (q2 : Int32) (q3 : Int32) (q4 : Int32) (q5 : Int32) (q6 : Int32) (q7 : Int32) (τ : ST), Fr [] [(85, 85), (87, 87)] σ0 τ → Fr [] [(85, 85), (87, 87)] σ0 (K107 q0 q1 q2 q3 q4 q5 q6 q7 τ)) {l2 : Int32} {l3 : Int32} {l4 : Int32} {l5 : Int32} {l6 : Int32} {l8 : Int32} {l9 : Int32} {t0 : Int32} {σ : ST} (h_σ : Fr [] [(85, 85), (87, 87)] σ0 σ) : Fr [] [(85, 85), (87, 87)] σ0 (fX12_join_0b142 K25 K41 K56 K95 K107 l2 l3 l4 l5 l6 l8 l9 t0 σ) := by
  unfold fX12_join_0b142
  refine bdF fun v150 _ => ?_
  refine bdF fun v153 _ => ?_
  refine bdF fun v154 _ => ?_
  exact fb_fX12_join_0b159 hK25 hK41 hK56 hK95 hK107 h_σ
theorem fb_fX12_join_0b130 {σ0 : ST} {K25 : Int32 → ST → ST} (hK25 : ∀ (q0 : Int32) (τ : ST), Fr [] [(85, 85), (87, 87)] σ0 τ → Fr [] [(85, 85), (87, 87)] σ0 (K25 q0 τ)) {K41 : Int32 → Int32 → Int32 → Int32 → ST → ST} (hK41 : ∀ (q0 : Int32) (q1 : Int32) (q2 : Int32) (q3 : Int32) (τ : ST), Fr [] [(85, 85), (87, 87)] σ0 τ → Fr [] [(85, 85), (87, 87)] σ0 (K41 q0 q1 q2 q3 τ)) {K56 : Int32 → Int32 → Int32 → Int32 → Int32 → ST → ST} (hK56 : ∀ (q0 : Int32) (q1 : Int32) (q2 : Int32) (q3 : Int32) (q4 : Int32) (τ : ST), Fr [] [(85, 85), (87, 87)] σ0 τ → Fr [] [(85, 85), (87, 87)] σ0 (K56 q0 q1 q2 q3 q4 τ)) {K95 : Int32 → Int32 → Int32 → Int32 → Int32 → Int32 → Int32 → ST → ST} (hK95 : ∀ (q0 : Int32) (q1 : Int32) (q2 : Int32) (q3 : Int32) (q4 : Int32) (q5 : Int32) (q6 : Int32) (τ : ST), Fr [] [(85, 85), (87, 87)] σ0 τ → Fr [] [(85, 85), (87, 87)] σ0 (K95 q0 q1 q2 q3 q4 q5 q6 τ)) {K107 : Int32 → Int32 → Int32 → Int32 → Int32 → Int32 → Int32 → Int32 → ST → ST} (hK107 : ∀ (q0 : Int32) (q1 : Int32) (q2 : Int32) (q3 : Int32) (q4 : Int32) (q5 : Int32) (q6 : Int32) (q7 : Int32) (τ : ST), Fr [] [(85, 85), (87, 87)] σ0 τ → Fr [] [(85, 85), (87, 87)] σ0 (K107 q0 q1 q2 q3 q4 q5 q6 q7 τ)) {l2 : Int32} {l3 : Int32} {l4 : Int32} {l5 : Int32} {l6 : Int32} {l8 : Int32} {l9 : Int32} {t0 : Int32} {σ : ST} (h_σ : Fr [] [(85, 85), (87, 87)] σ0 σ) : Fr [] [(85, 85), (87, 87)] σ0 (fX12_join_0b130 K25 K41 K56 K95 K107 l2 l3 l4 l5 l6 l8 l9 t0 σ) := by
  unfold fX12_join_0b130
  refine bdF fun v136 _ => ?_
  exact iteF (fb_fX12_join_0b142 hK25 hK41 hK56 hK95 hK107 h_σ) (fb_fX12_join_0b158 hK25 hK41 hK56 hK95 hK107 h_σ)
theorem fb_fX12_join_0b116 {σ0 : ST} {K25 : Int32 → ST → ST} (hK25 : ∀ (q0 : Int32) (τ : ST), Fr [] [(85, 85), (87, 87)] σ0 τ → Fr [] [(85, 85), (87, 87)] σ0 (K25 q0 τ)) {K41 : Int32 → Int32 → Int32 → Int32 → ST → ST} (hK41 : ∀ (q0 : Int32) (q1 : Int32) (q2 : Int32) (q3 : Int32) (τ : ST), Fr [] [(85, 85), (87, 87)] σ0 τ → Fr [] [(85, 85), (87, 87)] σ0 (K41 q0 q1 q2 q3 τ)) {K56 : Int32 → Int32 → Int32 → Int32 → Int32 → ST → ST} (hK56 : ∀ (q0 : Int32) (q1 : Int32) (q2 : Int32) (q3 : Int32) (q4 : Int32) (τ : ST), Fr [] [(85, 85), (87, 87)] σ0 τ → Fr [] [(85, 85), (87, 87)] σ0 (K56 q0 q1 q2 q3 q4 τ)) {K95 : Int32 → Int32 → Int32 → Int32 → Int32 → Int32 → Int32 → ST → ST} (hK95 : ∀ (q0 : Int32) (q1 : Int32) (q2 : Int32) (q3 : Int32) (q4 : Int32) (q5 : Int32) (q6 : Int32) (τ : ST), Fr [] [(85, 85), (87, 87)] σ0 τ → Fr [] [(85, 85), (87, 87)] σ0 (K95 q0 q1 q2 q3 q4 q5 q6 τ)) {K107 : Int32 → Int32 → Int32 → Int32 → Int32 → Int32 → Int32 → Int32 → ST → ST} (hK107 : ∀ (q0 : Int32) (q1 : Int32) (q2 : Int32) (q3 : Int32) (q4 : Int32) (q5 : Int32) (q6 : Int32) (q7 : Int32) (τ : ST), Fr [] [(85, 85), (87, 87)] σ0 τ → Fr [] [(85, 85), (87, 87)] σ0 (K107 q0 q1 q2 q3 q4 q5 q6 q7 τ)) {l2 : Int32} {l3 : Int32} {l4 : Int32} {l5 : Int32} {l6 : Int32} {l7 : Int32} {l8 : Int32} {l9 : Int32} {σ : ST} (h_σ : Fr [] [(85, 85), (87, 87)] σ0 σ) : Fr [] [(85, 85), (87, 87)] σ0 (fX12_join_0b116 K25 K41 K56 K95 K107 l2 l3 l4 l5 l6 l7 l8 l9 σ) := by
  unfold fX12_join_0b116
  refine bdF fun v124 _ => ?_
  exact iteF (fb_fX12_join_0b130 hK25 hK41 hK56 hK95 hK107 h_σ) (fb_fX12_join_0b158 hK25 hK41 hK56 hK95 hK107 h_σ)
theorem fb_fX12_join_0b107 {σ0 : ST} {K25 : Int32 → ST → ST} (hK25 : ∀ (q0 : Int32) (τ : ST), Fr [] [(85, 85), (87, 87)] σ0 τ → Fr [] [(85, 85), (87, 87)] σ0 (K25 q0 τ)) {K41 : Int32 → Int32 → Int32 → Int32 → ST → ST} (hK41 : ∀ (q0 : Int32) (q1 : Int32) (q2 : Int32) (q3 : Int32) (τ : ST), Fr [] [(85, 85), (87, 87)] σ0 τ → Fr [] [(85, 85), (87, 87)] σ0 (K41 q0 q1 q2 q3 τ)) {K56 : Int32 → Int32 → Int32 → Int32 → Int32 → ST → ST} (hK56 : ∀ (q0 : Int32) (q1 : Int32) (q2 : Int32) (q3 : Int32) (q4 : Int32) (τ : ST), Fr [] [(85, 85), (87, 87)] σ0 τ → Fr [] [(85, 85), (87, 87)] σ0 (K56 q0 q1 q2 q3 q4 τ)) {K95 : Int32 → Int32 → Int32 → Int32 → Int32 → Int32 → Int32 → ST → ST} (hK95 : ∀ (q0 : Int32) (q1 : Int32) (q2 : Int32) (q3 : Int32) (q4 : Int32) (q5 : Int32) (q6 : Int32) (τ : ST), Fr [] [(85, 85), (87, 87)] σ0 τ → Fr [] [(85, 85), (87, 87)] σ0 (K95 q0 q1 q2 q3 q4 q5 q6 τ)) {K107 : Int32 → Int32 → Int32 → Int32 → Int32 → Int32 → Int32 → Int32 → ST → ST} (hK107 : ∀ (q0 : Int32) (q1 : Int32) (q2 : Int32) (q3 : Int32) (q4 : Int32) (q5 : Int32) (q6 : Int32) (q7 : Int32) (τ : ST), Fr [] [(85, 85), (87, 87)] σ0 τ → Fr [] [(85, 85), (87, 87)] σ0 (K107 q0 q1 q2 q3 q4 q5 q6 q7 τ)) {l2 : Int32} {l3 : Int32} {l4 : Int32} {l5 : Int32} {l6 : Int32} {l7 : Int32} {l8 : Int32} {l9 : Int32} {σ : ST} (h_σ : Fr [] [(85, 85), (87, 87)] σ0 σ) : Fr [] [(85, 85), (87, 87)] σ0 (fX12_join_0b107 K25 K41 K56 K95 K107 l2 l3 l4 l5 l6 l7 l8 l9 σ) := by
  unfold fX12_join_0b107
  refine bdF fun v110 _ => ?_
  exact iteF (fb_fX12_join_0b168 hK25 hK41 hK56 hK95 h_σ) (fb_fX12_join_0b116 hK25 hK41 hK56 hK95 hK107 h_σ)
theorem fb_fX12_join_0l107 {σ0 : ST} {K25 : Int32 → ST → ST} (hK25 : ∀ (q0 : Int32) (τ : ST), Fr [] [(85, 85), (87, 87)] σ0 τ → Fr [] [(85, 85), (87, 87)] σ0 (K25 q0 τ)) {K41 : Int32 → Int32 → Int32 → Int32 → ST → ST} (hK41 : ∀ (q0 : Int32) (q1 : Int32) (q2 : Int32) (q3 : Int32) (τ : ST), Fr [] [(85, 85), (87, 87)] σ0 τ → Fr [] [(85, 85), (87, 87)] σ0 (K41 q0 q1 q2 q3 τ)) {K56 : Int32 → Int32 → Int32 → Int32 → Int32 → ST → ST} (hK56 : ∀ (q0 : Int32) (q1 : Int32) (q2 : Int32) (q3 : Int32) (q4 : Int32) (τ : ST), Fr [] [(85, 85), (87, 87)] σ0 τ → Fr [] [(85, 85), (87, 87)] σ0 (K56 q0 q1 q2 q3 q4 τ)) {K95 : Int32 → Int32 → Int32 → Int32 → Int32 → Int32 → Int32 → ST → ST} (hK95 : ∀ (q0 : Int32) (q1 : Int32) (q2 : Int32) (q3 : Int32) (q4 : Int32) (q5 : Int32) (q6 : Int32) (τ : ST), Fr [] [(85, 85), (87, 87)] σ0 τ → Fr [] [(85, 85), (87, 87)] σ0 (K95 q0 q1 q2 q3 q4 q5 q6 τ)) : ∀ (fu : Nat) {q0 : Int32} {q1 : Int32} {q2 : Int32} {q3 : Int32} {q4 : Int32} {q5 : Int32} {q6 : Int32} {q7 : Int32} {τ : ST} (h : Fr [] [(85, 85), (87, 87)] σ0 τ), Fr [] [(85, 85), (87, 87)] σ0 (fX12_join_0l107 K25 K41 K56 K95 fu q0 q1 q2 q3 q4 q5 q6 q7 τ)
  | 0, _, _, _, _, _, _, _, _, _, h => h
  | fu + 1, _, _, _, _, _, _, _, _, _, h => fb_fX12_join_0b107 hK25 hK41 hK56 hK95 (fun _ _ _ _ _ _ _ _ _ q => fb_fX12_join_0l107 hK25 hK41 hK56 hK95 fu q) h
theorem fb_fX12_join_0b104 {σ0 : ST} {K25 : Int32 → ST → ST} (hK25 : ∀ (q0 : Int32) (τ : ST), Fr [] [(85, 85), (87, 87)] σ0 τ → Fr [] [(85, 85), (87, 87)] σ0 (K25 q0 τ)) {K41 : Int32 → Int32 → Int32 → Int32 → ST → ST} (hK41 : ∀ (q0 : Int32) (q1 : Int32) (q2 : Int32) (q3 : Int32) (τ : ST), Fr [] [(85, 85), (87, 87)] σ0 τ → Fr [] [(85, 85), (87, 87)] σ0 (K41 q0 q1 q2 q3 τ)) {K56 : Int32 → Int32 → Int32 → Int32 → Int32 → ST → ST} (hK56 : ∀ (q0 : Int32) (q1 : Int32) (q2 : Int32) (q3 : Int32) (q4 : Int32) (τ : ST), Fr [] [(85, 85), (87, 87)] σ0 τ → Fr [] [(85, 85), (87, 87)] σ0 (K56 q0 q1 q2 q3 q4 τ)) {K95 : Int32 → Int32 → Int32 → Int32 → Int32 → Int32 → Int32 → ST → ST} (hK95 : ∀ (q0 : Int32) (q1 : Int32) (q2 : Int32) (q3 : Int32) (q4 : Int32) (q5 : Int32) (q6 : Int32) (τ : ST), Fr [] [(85, 85), (87, 87)] σ0 τ → Fr [] [(85, 85), (87, 87)] σ0 (K95 q0 q1 q2 q3 q4 q5 q6 τ)) {l2 : Int32} {l3 : Int32} {l4 : Int32} {l5 : Int32} {l6 : Int32} {l7 : Int32} {l8 : Int32} {σ : ST} (h_σ : Fr [] [(85, 85), (87, 87)] σ0 σ) : Fr [] [(85, 85), (87, 87)] σ0 (fX12_join_0b104 K25 K41 K56 K95 l2 l3 l4 l5 l6 l7 l8 σ) := by
  unfold fX12_join_0b104
  exact fb_fX12_join_0l107 hK25 hK41 hK56 hK95 _ h_σ
theorem fb_fX12_join_0b95 {σ0 : ST} {K25 : Int32 → ST → ST} (hK25 : ∀ (q0 : Int32) (τ : ST), Fr [] [(85, 85), (87, 87)] σ0 τ → Fr [] [(85, 85), (87, 87)] σ0 (K25 q0 τ)) {K41 : Int32 → Int32 → Int32 → Int32 → ST → ST} (hK41 : ∀ (q0 : Int32) (q1 : Int32) (q2 : Int32) (q3 : Int32) (τ : ST), Fr [] [(85, 85), (87, 87)] σ0 τ → Fr [] [(85, 85), (87, 87)] σ0 (K41 q0 q1 q2 q3 τ)) {K56 : Int32 → Int32 → Int32 → Int32 → Int32 → ST → ST} (hK56 : ∀ (q0 : Int32) (q1 : Int32) (q2 : Int32) (q3 : Int32) (q4 : Int32) (τ : ST), Fr [] [(85, 85), (87, 87)] σ0 τ → Fr [] [(85, 85), (87, 87)] σ0 (K56 q0 q1 q2 q3 q4 τ)) {K95 : Int32 → Int32 → Int32 → Int32 → Int32 → Int32 → Int32 → ST → ST} (hK95 : ∀ (q0 : Int32) (q1 : Int32) (q2 : Int32) (q3 : Int32) (q4 : Int32) (q5 : Int32) (q6 : Int32) (τ : ST), Fr [] [(85, 85), (87, 87)] σ0 τ → Fr [] [(85, 85), (87, 87)] σ0 (K95 q0 q1 q2 q3 q4 q5 q6 τ)) {l2 : Int32} {l3 : Int32} {l4 : Int32} {l5 : Int32} {l6 : Int32} {l7 : Int32} {l8 : Int32} {σ : ST} (h_σ : Fr [] [(85, 85), (87, 87)] σ0 σ) : Fr [] [(85, 85), (87, 87)] σ0 (fX12_join_0b95 K25 K41 K56 K95 l2 l3 l4 l5 l6 l7 l8 σ) := by
  unfold fX12_join_0b95
  refine bdF fun v98 _ => ?_
  exact iteF (fb_fX12_join_0b174 hK25 hK41 hK56 h_σ) (fb_fX12_join_0b104 hK25 hK41 hK56 hK95 h_σ)
theorem fb_fX12_join_0l95 {σ0 : ST} {K25 : Int32 → ST → ST} (hK25 : ∀ (q0 : Int32) (τ : ST), Fr [] [(85, 85), (87, 87)] σ0 τ → Fr [] [(85, 85), (87, 87)] σ0 (K25 q0 τ)) {K41 : Int32 → Int32 → Int32 → Int32 → ST → ST} (hK41 : ∀ (q0 : Int32) (q1 : Int32) (q2 : Int32) (q3 : Int32) (τ : ST), Fr [] [(85, 85), (87, 87)] σ0 τ → Fr [] [(85, 85), (87, 87)] σ0 (K41 q0 q1 q2 q3 τ)) {K56 : Int32 → Int32 → Int32 → Int32 → Int32 → ST → ST} (hK56 : ∀ (q0 : Int32) (q1 : Int32) (q2 : Int32) (q3 : Int32) (q4 : Int32) (τ : ST), Fr [] [(85, 85), (87, 87)] σ0 τ → Fr [] [(85, 85), (87, 87)] σ0 (K56 q0 q1 q2 q3 q4 τ)) : ∀ (fu : Nat) {q0 : Int32} {q1 : Int32} {q2 : Int32} {q3 : Int32} {q4 : Int32} {q5 : Int32} {q6 : Int32} {τ : ST} (h : Fr [] [(85, 85), (87, 87)] σ0 τ), Fr [] [(85, 85), (87, 87)] σ0 (fX12_join_0l95 K25 K41 K56 fu q0 q1 q2 q3 q4 q5 q6 τ)
  | 0, _, _, _, _, _, _, _, _, h => h
  | fu + 1, _, _, _, _, _, _, _, _, h => fb_fX12_join_0b95 hK25 hK41 hK56 (fun _ _ _ _ _ _ _ _ q => fb_fX12_join_0l95 hK25 hK41 hK56 fu q) h
theorem fb_fX12_join_0b89 {σ0 : ST} {K25 : Int32 → ST → ST} (hK25 : ∀ (q0 : Int32) (τ : ST), Fr [] [(85, 85), (87, 87)] σ0 τ → Fr [] [(85, 85), (87, 87)] σ0 (K25 q0 τ)) {K41 : Int32 → Int32 → Int32 → Int32 → ST → ST} (hK41 : ∀ (q0 : Int32) (q1 : Int32) (q2 : Int32) (q3 : Int32) (τ : ST), Fr [] [(85, 85), (87, 87)] σ0 τ → Fr [] [(85, 85), (87, 87)] σ0 (K41 q0 q1 q2 q3 τ)) {K56 : Int32 → Int32 → Int32 → Int32 → Int32 → ST → ST} (hK56 : ∀ (q0 : Int32) (q1 : Int32) (q2 : Int32) (q3 : Int32) (q4 : Int32) (τ : ST), Fr [] [(85, 85), (87, 87)] σ0 τ → Fr [] [(85, 85), (87, 87)] σ0 (K56 q0 q1 q2 q3 q4 τ)) {l2 : Int32} {l3 : Int32} {l4 : Int32} {l5 : Int32} {l6 : Int32} {σ : ST} (h_σ : Fr [] [(85, 85), (87, 87)] σ0 σ) : Fr [] [(85, 85), (87, 87)] σ0 (fX12_join_0b89 K25 K41 K56 l2 l3 l4 l5 l6 σ) := by
  unfold fX12_join_0b89
  exact fb_fX12_join_0l95 hK25 hK41 hK56 _ h_σ
theorem fb_fX12_join_0b77 {σ0 : ST} {K25 : Int32 → ST → ST} (hK25 : ∀ (q0 : Int32) (τ : ST), Fr [] [(85, 85), (87, 87)] σ0 τ → Fr [] [(85, 85), (87, 87)] σ0 (K25 q0 τ)) {K41 : Int32 → Int32 → Int32 → Int32 → ST → ST} (hK41 : ∀ (q0 : Int32) (q1 : Int32) (q2 : Int32) (q3 : Int32) (τ : ST), Fr [] [(85, 85), (87, 87)] σ0 τ → Fr [] [(85, 85), (87, 87)] σ0 (K41 q0 q1 q2 q3 τ)) {K56 : Int32 → Int32 → Int32 → Int32 → Int32 → ST → ST} (hK56 : ∀ (q0 : Int32) (q1 : Int32) (q2 : Int32) (q3 : Int32) (q4 : Int32) (τ : ST), Fr [] [(85, 85), (87, 87)] σ0 τ → Fr [] [(85, 85), (87, 87)] σ0 (K56 q0 q1 q2 q3 q4 τ)) {l2 : Int32} {l3 : Int32} {l4 : Int32} {l5 : Int32} {l6 : Int32} {σ : ST} (h_σ : Fr [] [(85, 85), (87, 87)] σ0 σ) : Fr [] [(85, 85), (87, 87)] σ0 (fX12_join_0b77 K25 K41 K56 l2 l3 l4 l5 l6 σ) := by
  unfold fX12_join_0b77
  refine bdF fun v83 _ => ?_
  exact iteF (fb_fX12_join_0b89 hK25 hK41 hK56 h_σ) (fb_fX12_join_0b191 hK25 hK41 hK56 h_σ)
theorem fb_fX12_join_0b65 {σ0 : ST} {K25 : Int32 → ST → ST} (hK25 : ∀ (q0 : Int32) (τ : ST), Fr [] [(85, 85), (87, 87)] σ0 τ → Fr [] [(85, 85), (87, 87)] σ0 (K25 q0 τ)) {K41 : Int32 → Int32 → Int32 → Int32 → ST → ST} (hK41 : ∀ (q0 : Int32) (q1 : Int32) (q2 : Int32) (q3 : Int32) (τ : ST), Fr [] [(85, 85), (87, 87)] σ0 τ → Fr [] [(85, 85), (87, 87)] σ0 (K41 q0 q1 q2 q3 τ)) {K56 : Int32 → Int32 → Int32 → Int32 → Int32 → ST → ST} (hK56 : ∀ (q0 : Int32) (q1 : Int32) (q2 : Int32) (q3 : Int32) (q4 : Int32) (τ : ST), Fr [] [(85, 85), (87, 87)] σ0 τ → Fr [] [(85, 85), (87, 87)] σ0 (K56 q0 q1 q2 q3 q4 τ)) {l2 : Int32} {l3 : Int32} {l4 : Int32} {l5 : Int32} {l6 : Int32} {σ : ST} (h_σ : Fr [] [(85, 85), (87, 87)] σ0 σ) : Fr [] [(85, 85), (87, 87)] σ0 (fX12_join_0b65 K25 K41 K56 l2 l3 l4 l5 l6 σ) := by
  unfold fX12_join_0b65
  refine bdF fun v71 _ => ?_
  exact iteF (fb_fX12_join_0b77 hK25 hK41 hK56 h_σ) (fb_fX12_join_0b191 hK25 hK41 hK56 h_σ)
theorem fb_fX12_join_0b56 {σ0 : ST} {K25 : Int32 → ST → ST} (hK25 : ∀ (q0 : Int32) (τ : ST), Fr [] [(85, 85), (87, 87)] σ0 τ → Fr [] [(85, 85), (87, 87)] σ0 (K25 q0 τ)) {K41 : Int32 → Int32 → Int32 → Int32 → ST → ST} (hK41 : ∀ (q0 : Int32) (q1 : Int32) (q2 : Int32) (q3 : Int32) (τ : ST), Fr [] [(85, 85), (87, 87)] σ0 τ → Fr [] [(85, 85), (87, 87)] σ0 (K41 q0 q1 q2 q3 τ)) {K56 : Int32 → Int32 → Int32 → Int32 → Int32 → ST → ST} (hK56 : ∀ (q0 : Int32) (q1 : Int32) (q2 : Int32) (q3 : Int32) (q4 : Int32) (τ : ST), Fr [] [(85, 85), (87, 87)] σ0 τ → Fr [] [(85, 85), (87, 87)] σ0 (K56 q0 q1 q2 q3 q4 τ)) {l2 : Int32} {l3 : Int32} {l4 : Int32} {l5 : Int32} {l6 : Int32} {σ : ST} (h_σ : Fr [] [(85, 85), (87, 87)] σ0 σ) : Fr [] [(85, 85), (87, 87)] σ0 (fX12_join_0b56 K25 K41 K56 l2 l3 l4 l5 l6 σ) := by
  unfold fX12_join_0b56
  refine bdF fun v59 _ => ?_
  exact iteF (fb_fX12_join_0b197 hK25 hK41 h_σ) (fb_fX12_join_0b65 hK25 hK41 hK56 h_σ)
theorem fb_fX12_join_0l56 {σ0 : ST} {K25 : Int32 → ST → ST} (hK25 : ∀ (q0 : Int32) (τ : ST), Fr [] [(85, 85), (87, 87)] σ0 τ → Fr [] [(85, 85), (87, 87)] σ0 (K25 q0 τ)) {K41 : Int32 → Int32 → Int32 → Int32 → ST → ST} (hK41 : ∀ (q0 : Int32) (q1 : Int32) (q2 : Int32) (q3 : Int32) (τ : ST), Fr [] [(85, 85), (87, 87)] σ0 τ → Fr [] [(85, 85), (87, 87)] σ0 (K41 q0 q1 q2 q3 τ)) : ∀ (fu : Nat) {q0 : Int32} {q1 : Int32} {q2 : Int32} {q3 : Int32} {q4 : Int32} {τ : ST} (h : Fr [] [(85, 85), (87, 87)] σ0 τ), Fr [] [(85, 85), (87, 87)] σ0 (fX12_join_0l56 K25 K41 fu q0 q1 q2 q3 q4 τ)
  | 0, _, _, _, _, _, _, h => h
  | fu + 1, _, _, _, _, _, _, h => fb_fX12_join_0b56 hK25 hK41 (fun _ _ _ _ _ _ q => fb_fX12_join_0l56 hK25 hK41 fu q) h
theorem fb_fX12_join_0b50 {σ0 : ST} {K25 : Int32 → ST → ST} (hK25 : ∀ (q0 : Int32) (τ : ST), Fr [] [(85, 85), (87, 87)] σ0 τ → Fr [] [(85, 85), (87, 87)] σ0 (K25 q0 τ)) {K41 : Int32 → Int32 → Int32 → Int32 → ST → ST} (hK41 : ∀ (q0 : Int32) (q1 : Int32) (q2 : Int32) (q3 : Int32) (τ : ST), Fr [] [(85, 85), (87, 87)] σ0 τ → Fr [] [(85, 85), (87, 87)] σ0 (K41 q0 q1 q2 q3 τ)) {l2 : Int32} {l3 : Int32} {l4 : Int32} {l5 : Int32} {σ : ST} (h_σ : Fr [] [(85, 85), (87, 87)] σ0 σ) : Fr [] [(85, 85), (87, 87)] σ0 (fX12_join_0b50 K25 K41 l2 l3 l4 l5 σ) := by
  unfold fX12_join_0b50
  refine bdF fun v53 _ => ?_
  exact fb_fX12_join_0l56 hK25 hK41 _ h_σ
theorem fb_fX12_join_0b41 {σ0 : ST} {K25 : Int32 → ST → ST} (hK25 : ∀ (q0 : Int32) (τ : ST), Fr [] [(85, 85), (87, 87)] σ0 τ → Fr [] [(85, 85), (87, 87)] σ0 (K25 q0 τ)) {K41 : Int32 → Int32 → Int32 → Int32 → ST → ST} (hK41 : ∀ (q0 : Int32) (q1 : Int32) (q2 : Int32) (q3 : Int32) (τ : ST), Fr [] [(85, 85), (87, 87)] σ0 τ → Fr [] [(85, 85), (87, 87)] σ0 (K41 q0 q1 q2 q3 τ)) {l2 : Int32} {l3 : Int32} {l4 : Int32} {l5 : Int32} {σ : ST} (h_σ : Fr [] [(85, 85), (87, 87)] σ0 σ) : Fr [] [(85, 85), (87, 87)] σ0 (fX12_join_0b41 K25 K41 l2 l3 l4 l5 σ) := by
  unfold fX12_join_0b41
  refine bdF fun v44 _ => ?_
  exact iteF (fb_fX12_join_0b203 hK25 h_σ) (fb_fX12_join_0b50 hK25 hK41 h_σ)
theorem fb_fX12_join_0l41 {σ0 : ST} {K25 : Int32 → ST → ST} (hK25 : ∀ (q0 : Int32) (τ : ST), Fr [] [(85, 85), (87, 87)] σ0 τ → Fr [] [(85, 85), (87, 87)] σ0 (K25 q0 τ)) : ∀ (fu : Nat) {q0 : Int32} {q1 : Int32} {q2 : Int32} {q3 : Int32} {τ : ST} (h : Fr [] [(85, 85), (87, 87)] σ0 τ), Fr [] [(85, 85), (87, 87)] σ0 (fX12_join_0l41 K25 fu q0 q1 q2 q3 τ)
  | 0, _, _, _, _, _, h => h
  | fu + 1, _, _, _, _, _, h => fb_fX12_join_0b41 hK25 (fun _ _ _ _ _ q => fb_fX12_join_0l41 hK25 fu q) h
theorem fb_fX12_join_0b29 {σ0 : ST} {K25 : Int32 → ST → ST} (hK25 : ∀ (q0 : Int32) (τ : ST), Fr [] [(85, 85), (87, 87)] σ0 τ → Fr [] [(85, 85), (87, 87)] σ0 (K25 q0 τ)) {σ : ST} (h_σ : Fr [] [(85, 85), (87, 87)] σ0 σ) : Fr [] [(85, 85), (87, 87)] σ0 (fX12_join_0b29 K25 σ) := by
  unfold fX12_join_0b29
  exact fb_fX12_join_0l41 hK25 _ h_σ
theorem fb_fX12_join_0b25 {σ0 : ST} {K25 : Int32 → ST → ST} (hK25 : ∀ (q0 : Int32) (τ : ST), Fr [] [(85, 85), (87, 87)] σ0 τ → Fr [] [(85, 85), (87, 87)] σ0 (K25 q0 τ)) {l1 : Int32} {σ : ST} (h_σ : Fr [] [(85, 85), (87, 87)] σ0 σ) : Fr [] [(85, 85), (87, 87)] σ0 (fX12_join_0b25 K25 l1 σ) := by
  unfold fX12_join_0b25
  exact iteF (fb_fX12_join_0b269  h_σ) (fb_fX12_join_0b29 hK25 h_σ)
theorem fb_fX12_join_0l25 {σ0 : ST}  : ∀ (fu : Nat) {q0 : Int32} {τ : ST} (h : Fr [] [(85, 85), (87, 87)] σ0 τ), Fr [] [(85, 85), (87, 87)] σ0 (fX12_join_0l25 fu q0 τ)
  | 0, _, _, h => h
  | fu + 1, _, _, h => fb_fX12_join_0b25 (fun _ _ q => fb_fX12_join_0l25  fu q) h
theorem fb_fX12_join_0b23 {σ0 : ST}  {σ : ST} (h_σ : Fr [] [(85, 85), (87, 87)] σ0 σ) : Fr [] [(85, 85), (87, 87)] σ0 (fX12_join_0b23 σ) := by
  unfold fX12_join_0b23
  exact fb_fX12_join_0l25  _ h_σ
theorem fb_fX12_join_0b10 {σ0 : ST} {K2 : Int32 → ST → ST} (hK2 : ∀ (q0 : Int32) (τ : ST), Fr [] [(85, 85), (87, 87)] σ0 τ → Fr [] [(85, 85), (87, 87)] σ0 (K2 q0 τ)) {l1 : Int32} {σ : ST} (h_σ : Fr [] [(85, 85), (87, 87)] σ0 σ) : Fr [] [(85, 85), (87, 87)] σ0 (fX12_join_0b10 K2 l1 σ) := by
  unfold fX12_join_0b10
  refine bdF fun s16 e_s16 => ?_
  have h_s16 : Fr [] [(85, 85), (87, 87)] σ0 s16 := by rw [e_s16]; exact h_σ.putA rfl
  refine bdF fun v17 _ => ?_
  exact hK2 _ _ h_s16
theorem fb_fX12_join_0b2 {σ0 : ST} {K2 : Int32 → ST → ST} (hK2 : ∀ (q0 : Int32) (τ : ST), Fr [] [(85, 85), (87, 87)] σ0 τ → Fr [] [(85, 85), (87, 87)] σ0 (K2 q0 τ)) {l1 : Int32} {σ : ST} (h_σ : Fr [] [(85, 85), (87, 87)] σ0 σ) : Fr [] [(85, 85), (87, 87)] σ0 (fX12_join_0b2 K2 l1 σ) := by
  unfold fX12_join_0b2
  refine bdF fun v4 _ => ?_
  exact iteF (fb_fX12_join_0b23  h_σ) (fb_fX12_join_0b10 hK2 h_σ)
theorem fb_fX12_join_0l2 {σ0 : ST}  : ∀ (fu : Nat) {q0 : Int32} {τ : ST} (h : Fr [] [(85, 85), (87, 87)] σ0 τ), Fr [] [(85, 85), (87, 87)] σ0 (fX12_join_0l2 fu q0 τ)
  | 0, _, _, h => h
  | fu + 1, _, _, h => fb_fX12_join_0b2 (fun _ _ q => fb_fX12_join_0l2  fu q) h
theorem fb_fX12_join_0b0 {σ0 : ST}  {σ : ST} (h_σ : Fr [] [(85, 85), (87, 87)] σ0 σ) : Fr [] [(85, 85), (87, 87)] σ0 (fX12_join_0b0 σ) := by
  unfold fX12_join_0b0
  exact fb_fX12_join_0l2  _ h_σ
theorem fr_fX12_join_0 {σ : ST} : Fr [] [(85, 85), (87, 87)] σ (fX12_join_0 σ) := fb_fX12_join_0b0 (Fr.refl σ)
theorem fb_fX12_heap_0b21 {σ0 : ST}  {σ : ST} (h_σ : Fr [(35, 39)] [(75, 88)] σ0 σ) : FrP [(35, 39)] [(75, 88)] σ0 (fX12_heap_0b21 σ) := by
  unfold fX12_heap_0b21
  exact h_σ
theorem fb_fX12_heap_0b56 {σ0 : ST}  {t0 : Int32} {σ : ST} (h_σ : Fr [(35, 39)] [(75, 88)] σ0 σ) : FrP [(35, 39)] [(75, 88)] σ0 (fX12_heap_0b56 t0 σ) := by
  unfold fX12_heap_0b56
  exact h_σ
theorem fb_fX12_heap_0b50 {σ0 : ST}  {l1 : Int32} {σ : ST} (h_σ : Fr [(35, 39)] [(75, 88)] σ0 σ) : FrP [(35, 39)] [(75, 88)] σ0 (fX12_heap_0b50 l1 σ) := by
  unfold fX12_heap_0b50
  refine bdF2 fun v55 _ => ?_
  exact fb_fX12_heap_0b56  h_σ
theorem fb_fX12_heap_0b41 {σ0 : ST}  {l1 : Int32} {σ : ST} (h_σ : Fr [(35, 39)] [(75, 88)] σ0 σ) : FrP [(35, 39)] [(75, 88)] σ0 (fX12_heap_0b41 l1 σ) := by
  unfold fX12_heap_0b41
  refine bdF2 fun v46 _ => ?_
  exact fb_fX12_heap_0b56  h_σ
theorem fb_fX12_heap_0b33 {σ0 : ST}  {l1 : Int32} {l2 : Int32} {σ : ST} (h_σ : Fr [(35, 39)] [(75, 88)] σ0 σ) : FrP [(35, 39)] [(75, 88)] σ0 (fX12_heap_0b33 l1 l2 σ) := by
  unfold fX12_heap_0b33
  refine bdF2 fun s34 e_s34 => ?_
  have h_s34 : Fr [(35, 39)] [(75, 88)] σ0 s34 := by rw [e_s34]; exact h_σ.call fr_fX12_join_0 rfl rfl
  exact iteF2 (fb_fX12_heap_0b41  h_s34) (fb_fX12_heap_0b50  h_s34)
theorem fb_fX12_heap_0b30 {σ0 : ST}  {σ : ST} (h_σ : Fr [(35, 39)] [(75, 88)] σ0 σ) : FrP [(35, 39)] [(75, 88)] σ0 (fX12_heap_0b30 σ) := by
  unfold fX12_heap_0b30
  exact h_σ
theorem fb_fX12_heap_0b23 {σ0 : ST}  {l1 : Int32} {l2 : Int32} {σ : ST} (h_σ : Fr [(35, 39)] [(75, 88)] σ0 σ) : FrP [(35, 39)] [(75, 88)] σ0 (fX12_heap_0b23 l1 l2 σ) := by
  unfold fX12_heap_0b23
  refine bpF2 fun v24 s24 e_s24 => ?_
  have h_s24 : Fr [(35, 39)] [(75, 88)] σ0 s24 := by rw [← e_s24]; exact h_σ.call fr_fX12_findBest_0 rfl rfl
  exact iteF2 (fb_fX12_heap_0b30  h_s24) (fb_fX12_heap_0b33  h_s24)
theorem fb_fX12_heap_0b12 {σ0 : ST}  {l1 : Int32} {l2 : Int32} {σ : ST} (h_σ : Fr [(35, 39)] [(75, 88)] σ0 σ) : FrP [(35, 39)] [(75, 88)] σ0 (fX12_heap_0b12 l1 l2 σ) := by
  unfold fX12_heap_0b12
  refine bdF2 fun v15 _ => ?_
  exact iteF2 (fb_fX12_heap_0b21  h_σ) (fb_fX12_heap_0b23  h_σ)
theorem fb_fX12_heap_0b0 {σ0 : ST}  {l1 : Int32} {l2 : Int32} {σ : ST} (h_σ : Fr [(35, 39)] [(75, 88)] σ0 σ) : FrP [(35, 39)] [(75, 88)] σ0 (fX12_heap_0b0 l1 l2 σ) := by
  unfold fX12_heap_0b0
  refine bdF2 fun s1 e_s1 => ?_
  have h_s1 : Fr [(35, 39)] [(75, 88)] σ0 s1 := by rw [e_s1]; exact h_σ.call fr_fX12_findPieces_0 rfl rfl
  refine bdF2 fun v6 _ => ?_
  exact iteF2 (fb_fX12_heap_0b21  h_s1) (fb_fX12_heap_0b12  h_s1)
theorem fr_fX12_heap_0 {p1 : Int32} {p2 : Int32} {σ : ST} : Fr [(35, 39)] [(75, 88)] σ (fX12_heap_0 p1 p2 σ).2 := fb_fX12_heap_0b0 (Fr.refl σ)
theorem fb_fX12_worth_0b16 {σ0 : ST}  {σ : ST} (h_σ : Fr [(35, 39)] [(75, 88)] σ0 σ) : FrP [(35, 39)] [(75, 88)] σ0 (fX12_worth_0b16 σ) := by
  unfold fX12_worth_0b16
  exact h_σ
theorem fb_fX12_worth_0b42 {σ0 : ST}  {t0 : Int32} {σ : ST} (h_σ : Fr [(35, 39)] [(75, 88)] σ0 σ) : FrP [(35, 39)] [(75, 88)] σ0 (fX12_worth_0b42 t0 σ) := by
  unfold fX12_worth_0b42
  exact h_σ
theorem fb_fX12_worth_0b34 {σ0 : ST}  {σ : ST} (h_σ : Fr [(35, 39)] [(75, 88)] σ0 σ) : FrP [(35, 39)] [(75, 88)] σ0 (fX12_worth_0b34 σ) := by
  unfold fX12_worth_0b34
  refine bdF2 fun v39 _ => ?_
  exact fb_fX12_worth_0b42  h_σ
theorem fb_fX12_worth_0b27 {σ0 : ST}  {σ : ST} (h_σ : Fr [(35, 39)] [(75, 88)] σ0 σ) : FrP [(35, 39)] [(75, 88)] σ0 (fX12_worth_0b27 σ) := by
  unfold fX12_worth_0b27
  refine bdF2 fun v28 _ => ?_
  exact fb_fX12_worth_0b42  h_σ
theorem fb_fX12_worth_0b19 {σ0 : ST}  {l1 : Int32} {σ : ST} (h_σ : Fr [(35, 39)] [(75, 88)] σ0 σ) : FrP [(35, 39)] [(75, 88)] σ0 (fX12_worth_0b19 l1 σ) := by
  unfold fX12_worth_0b19
  refine bdF2 fun s20 e_s20 => ?_
  have h_s20 : Fr [(35, 39)] [(75, 88)] σ0 s20 := by rw [e_s20]; exact h_σ.call fr_fX12_join_0 rfl rfl
  exact iteF2 (fb_fX12_worth_0b27  h_s20) (fb_fX12_worth_0b34  h_s20)
theorem fb_fX12_worth_0b9 {σ0 : ST}  {l1 : Int32} {σ : ST} (h_σ : Fr [(35, 39)] [(75, 88)] σ0 σ) : FrP [(35, 39)] [(75, 88)] σ0 (fX12_worth_0b9 l1 σ) := by
  unfold fX12_worth_0b9
  refine bpF2 fun v10 s10 e_s10 => ?_
  have h_s10 : Fr [(35, 39)] [(75, 88)] σ0 s10 := by rw [← e_s10]; exact h_σ.call fr_fX12_findBest_0 rfl rfl
  exact iteF2 (fb_fX12_worth_0b16  h_s10) (fb_fX12_worth_0b19  h_s10)
theorem fb_fX12_worth_0b0 {σ0 : ST}  {l1 : Int32} {σ : ST} (h_σ : Fr [(35, 39)] [(75, 88)] σ0 σ) : FrP [(35, 39)] [(75, 88)] σ0 (fX12_worth_0b0 l1 σ) := by
  unfold fX12_worth_0b0
  refine bdF2 fun v3 _ => ?_
  exact iteF2 (fb_fX12_worth_0b16  h_σ) (fb_fX12_worth_0b9  h_σ)
theorem fr_fX12_worth_0 {p1 : Int32} {σ : ST} : Fr [(35, 39)] [(75, 88)] σ (fX12_worth_0 p1 σ).2 := fb_fX12_worth_0b0 (Fr.refl σ)
theorem fb_fX12_near_0b176 {σ0 : ST}  {t0 : Int32} {σ : ST} (h_σ : Fr [(35, 39)] [(75, 88)] σ0 σ) : FrP [(35, 39)] [(75, 88)] σ0 (fX12_near_0b176 t0 σ) := by
  unfold fX12_near_0b176
  exact h_σ
theorem fb_fX12_near_0b174 {σ0 : ST}  {l4 : Int32} {σ : ST} (h_σ : Fr [(35, 39)] [(75, 88)] σ0 σ) : FrP [(35, 39)] [(75, 88)] σ0 (fX12_near_0b174 l4 σ) := by
  unfold fX12_near_0b174
  exact fb_fX12_near_0b176  h_σ
theorem fb_fX12_near_0b170 {σ0 : ST}  {l3 : Int32} {σ : ST} (h_σ : Fr [(35, 39)] [(75, 88)] σ0 σ) : FrP [(35, 39)] [(75, 88)] σ0 (fX12_near_0b170 l3 σ) := by
  unfold fX12_near_0b170
  exact fb_fX12_near_0b176  h_σ
theorem fb_fX12_near_0b165 {σ0 : ST}  {l1 : Int32} {l3 : Int32} {l4 : Int32} {σ : ST} (h_σ : Fr [(35, 39)] [(75, 88)] σ0 σ) : FrP [(35, 39)] [(75, 88)] σ0 (fX12_near_0b165 l1 l3 l4 σ) := by
  unfold fX12_near_0b165
  exact iteF2 (fb_fX12_near_0b170  h_σ) (fb_fX12_near_0b174  h_σ)
theorem fb_fX12_near_0b161 {σ0 : ST}  {l2 : Int32} {σ : ST} (h_σ : Fr [(35, 39)] [(75, 88)] σ0 σ) : FrP [(35, 39)] [(75, 88)] σ0 (fX12_near_0b161 l2 σ) := by
  unfold fX12_near_0b161
  exact fb_fX12_near_0b176  h_σ
theorem fb_fX12_near_0b157 {σ0 : ST}  {l1 : Int32} {l2 : Int32} {l3 : Int32} {l4 : Int32} {σ : ST} (h_σ : Fr [(35, 39)] [(75, 88)] σ0 σ) : FrP [(35, 39)] [(75, 88)] σ0 (fX12_near_0b157 l1 l2 l3 l4 σ) := by
  unfold fX12_near_0b157
  exact iteF2 (fb_fX12_near_0b161  h_σ) (fb_fX12_near_0b165  h_σ)
theorem fb_fX12_near_0b148 {σ0 : ST} {K76 : Int32 → Int32 → Int32 → Int32 → Int32 → ST → (Int32 × ST)} (hK76 : ∀ (q0 : Int32) (q1 : Int32) (q2 : Int32) (q3 : Int32) (q4 : Int32) (τ : ST), Fr [(35, 39)] [(75, 88)] σ0 τ → FrP [(35, 39)] [(75, 88)] σ0 (K76 q0 q1 q2 q3 q4 τ)) {l1 : Int32} {l2 : Int32} {l3 : Int32} {l4 : Int32} {σ : ST} (h_σ : Fr [(35, 39)] [(75, 88)] σ0 σ) : FrP [(35, 39)] [(75, 88)] σ0 (fX12_near_0b148 K76 l1 l2 l3 l4 σ) := by
  unfold fX12_near_0b148
  refine bpF2 fun v149 s149 e_s149 => ?_
  have h_s149 : Fr [(35, 39)] [(75, 88)] σ0 s149 := by rw [← e_s149]; exact h_σ.call fr_fX12_goOn_0 rfl rfl
  exact hK76 _ _ _ _ _ _ h_s149
theorem fb_fX12_near_0b146 {σ0 : ST} {K76 : Int32 → Int32 → Int32 → Int32 → Int32 → ST → (Int32 × ST)} (hK76 : ∀ (q0 : Int32) (q1 : Int32) (q2 : Int32) (q3 : Int32) (q4 : Int32) (τ : ST), Fr [(35, 39)] [(75, 88)] σ0 τ → FrP [(35, 39)] [(75, 88)] σ0 (K76 q0 q1 q2 q3 q4 τ)) {l1 : Int32} {l2 : Int32} {l3 : Int32} {t0 : Int32} {σ : ST} (h_σ : Fr [(35, 39)] [(75, 88)] σ0 σ) : FrP [(35, 39)] [(75, 88)] σ0 (fX12_near_0b146 K76 l1 l2 l3 t0 σ) := by
  unfold fX12_near_0b146
  exact fb_fX12_near_0b148 hK76 h_σ
theorem fb_fX12_near_0b144 {σ0 : ST} {K76 : Int32 → Int32 → Int32 → Int32 → Int32 → ST → (Int32 × ST)} (hK76 : ∀ (q0 : Int32) (q1 : Int32) (q2 : Int32) (q3 : Int32) (q4 : Int32) (τ : ST), Fr [(35, 39)] [(75, 88)] σ0 τ → FrP [(35, 39)] [(75, 88)] σ0 (K76 q0 q1 q2 q3 q4 τ)) {l1 : Int32} {l2 : Int32} {l3 : Int32} {l4 : Int32} {σ : ST} (h_σ : Fr [(35, 39)] [(75, 88)] σ0 σ) : FrP [(35, 39)] [(75, 88)] σ0 (fX12_near_0b144 K76 l1 l2 l3 l4 σ) := by
  unfold fX12_near_0b144
  exact fb_fX12_near_0b146 hK76 h_σ
theorem fb_fX12_near_0b139 {σ0 : ST} {K76 : Int32 → Int32 → Int32 → Int32 → Int32 → ST → (Int32 × ST)} (hK76 : ∀ (q0 : Int32) (q1 : Int32) (q2 : Int32) (q3 : Int32) (q4 : Int32) (τ : ST), Fr [(35, 39)] [(75, 88)] σ0 τ → FrP [(35, 39)] [(75, 88)] σ0 (K76 q0 q1 q2 q3 q4 τ)) {l1 : Int32} {l2 : Int32} {l3 : Int32} {l6 : Int32} {σ : ST} (h_σ : Fr [(35, 39)] [(75, 88)] σ0 σ) : FrP [(35, 39)] [(75, 88)] σ0 (fX12_near_0b139 K76 l1 l2 l3 l6 σ) := by
  unfold fX12_near_0b139
  exact fb_fX12_near_0b146 hK76 h_σ
theorem fb_fX12_near_0b131 {σ0 : ST} {K76 : Int32 → Int32 → Int32 → Int32 → Int32 → ST → (Int32 × ST)} (hK76 : ∀ (q0 : Int32) (q1 : Int32) (q2 : Int32) (q3 : Int32) (q4 : Int32) (τ : ST), Fr [(35, 39)] [(75, 88)] σ0 τ → FrP [(35, 39)] [(75, 88)] σ0 (K76 q0 q1 q2 q3 q4 τ)) {l1 : Int32} {l2 : Int32} {l4 : Int32} {l6 : Int32} {t0 : Int32} {σ : ST} (h_σ : Fr [(35, 39)] [(75, 88)] σ0 σ) : FrP [(35, 39)] [(75, 88)] σ0 (fX12_near_0b131 K76 l1 l2 l4 l6 t0 σ) := by
  unfold fX12_near_0b131
  exact iteF2 (fb_fX12_near_0b144 hK76 h_σ) (fb_fX12_near_0b139 hK76 h_σ)
theorem fb_fX12_near_0b130 {σ0 : ST} {K76 : Int32 → Int32 → Int32 → Int32 → Int32 → ST → (Int32 × ST)} (hK76 : ∀ (q0 : Int32) (q1 : Int32) (q2 : Int32) (q3 : Int32) (q4 : Int32) (τ : ST), Fr [(35, 39)] [(75, 88)] σ0 τ → FrP [(35, 39)] [(75, 88)] σ0 (K76 q0 q1 q2 q3 q4 τ)) {l1 : Int32} {l2 : Int32} {l3 : Int32} {l4 : Int32} {l6 : Int32} {σ : ST} (h_σ : Fr [(35, 39)] [(75, 88)] σ0 σ) : FrP [(35, 39)] [(75, 88)] σ0 (fX12_near_0b130 K76 l1 l2 l3 l4 l6 σ) := by
  unfold fX12_near_0b130
  exact fb_fX12_near_0b131 hK76 h_σ
theorem fb_fX12_near_0b125 {σ0 : ST} {K76 : Int32 → Int32 → Int32 → Int32 → Int32 → ST → (Int32 × ST)} (hK76 : ∀ (q0 : Int32) (q1 : Int32) (q2 : Int32) (q3 : Int32) (q4 : Int32) (τ : ST), Fr [(35, 39)] [(75, 88)] σ0 τ → FrP [(35, 39)] [(75, 88)] σ0 (K76 q0 q1 q2 q3 q4 τ)) {l1 : Int32} {l2 : Int32} {l4 : Int32} {l6 : Int32} {σ : ST} (h_σ : Fr [(35, 39)] [(75, 88)] σ0 σ) : FrP [(35, 39)] [(75, 88)] σ0 (fX12_near_0b125 K76 l1 l2 l4 l6 σ) := by
  unfold fX12_near_0b125
  exact fb_fX12_near_0b131 hK76 h_σ
theorem fb_fX12_near_0b103 {σ0 : ST} {K76 : Int32 → Int32 → Int32 → Int32 → Int32 → ST → (Int32 × ST)} (hK76 : ∀ (q0 : Int32) (q1 : Int32) (q2 : Int32) (q3 : Int32) (q4 : Int32) (τ : ST), Fr [(35, 39)] [(75, 88)] σ0 τ → FrP [(35, 39)] [(75, 88)] σ0 (K76 q0 q1 q2 q3 q4 τ)) {l1 : Int32} {l2 : Int32} {l3 : Int32} {l4 : Int32} {σ : ST} (h_σ : Fr [(35, 39)] [(75, 88)] σ0 σ) : FrP [(35, 39)] [(75, 88)] σ0 (fX12_near_0b103 K76 l1 l2 l3 l4 σ) := by
  unfold fX12_near_0b103
  refine bdF2 fun v108 _ => ?_
  refine bdF2 fun v111 _ => ?_
  refine bdF2 fun v116 _ => ?_
  exact iteF2 (fb_fX12_near_0b130 hK76 h_σ) (fb_fX12_near_0b125 hK76 h_σ)
theorem fb_fX12_near_0b81 {σ0 : ST} {K76 : Int32 → Int32 → Int32 → Int32 → Int32 → ST → (Int32 × ST)} (hK76 : ∀ (q0 : Int32) (q1 : Int32) (q2 : Int32) (q3 : Int32) (q4 : Int32) (τ : ST), Fr [(35, 39)] [(75, 88)] σ0 τ → FrP [(35, 39)] [(75, 88)] σ0 (K76 q0 q1 q2 q3 q4 τ)) {l1 : Int32} {l2 : Int32} {l3 : Int32} {l4 : Int32} {σ : ST} (h_σ : Fr [(35, 39)] [(75, 88)] σ0 σ) : FrP [(35, 39)] [(75, 88)] σ0 (fX12_near_0b81 K76 l1 l2 l3 l4 σ) := by
  unfold fX12_near_0b81
  refine bdF2 fun v86 _ => ?_
  refine bdF2 fun v90 _ => ?_
  refine bdF2 fun v98 _ => ?_
  refine bdF2 fun v99 _ => ?_
  exact iteF2 (fb_fX12_near_0b148 hK76 h_σ) (fb_fX12_near_0b103 hK76 h_σ)
theorem fb_fX12_near_0b76 {σ0 : ST} {K76 : Int32 → Int32 → Int32 → Int32 → Int32 → ST → (Int32 × ST)} (hK76 : ∀ (q0 : Int32) (q1 : Int32) (q2 : Int32) (q3 : Int32) (q4 : Int32) (τ : ST), Fr [(35, 39)] [(75, 88)] σ0 τ → FrP [(35, 39)] [(75, 88)] σ0 (K76 q0 q1 q2 q3 q4 τ)) {l1 : Int32} {l2 : Int32} {l3 : Int32} {l4 : Int32} {l5 : Int32} {σ : ST} (h_σ : Fr [(35, 39)] [(75, 88)] σ0 σ) : FrP [(35, 39)] [(75, 88)] σ0 (fX12_near_0b76 K76 l1 l2 l3 l4 l5 σ) := by
  unfold fX12_near_0b76
  exact iteF2 (fb_fX12_near_0b157  h_σ) (fb_fX12_near_0b81 hK76 h_σ)
theorem fb_fX12_near_0l76 {σ0 : ST}  : ∀ (fu : Nat) {q0 : Int32} {q1 : Int32} {q2 : Int32} {q3 : Int32} {q4 : Int32} {τ : ST} (h : Fr [(35, 39)] [(75, 88)] σ0 τ), FrP [(35, 39)] [(75, 88)] σ0 (fX12_near_0l76 fu q0 q1 q2 q3 q4 τ)
  | 0, _, _, _, _, _, _, h => h
  | fu + 1, _, _, _, _, _, _, h => fb_fX12_near_0b76 (fun _ _ _ _ _ _ q => fb_fX12_near_0l76  fu q) h
theorem fb_fX12_near_0b61 {σ0 : ST}  {l1 : Int32} {σ : ST} (h_σ : Fr [(35, 39)] [(75, 88)] σ0 σ) : FrP [(35, 39)] [(75, 88)] σ0 (fX12_near_0b61 l1 σ) := by
  unfold fX12_near_0b61
  refine bdF2 fun s70 e_s70 => ?_
  have h_s70 : Fr [(35, 39)] [(75, 88)] σ0 s70 := by rw [e_s70]; exact h_σ.call fr_fX12_begin_0 rfl rfl
  exact fb_fX12_near_0l76  _ h_s70
theorem fb_fX12_near_0b60 {σ0 : ST}  {t0 : Int32} {σ : ST} (h_σ : Fr [(35, 39)] [(75, 88)] σ0 σ) : FrP [(35, 39)] [(75, 88)] σ0 (fX12_near_0b60 t0 σ) := by
  unfold fX12_near_0b60
  exact h_σ
theorem fb_fX12_near_0b49 {σ0 : ST}  {σ : ST} (h_σ : Fr [(35, 39)] [(75, 88)] σ0 σ) : FrP [(35, 39)] [(75, 88)] σ0 (fX12_near_0b49 σ) := by
  unfold fX12_near_0b49
  refine bdF2 fun v54 _ => ?_
  refine bdF2 fun v57 _ => ?_
  exact fb_fX12_near_0b60  h_σ
theorem fb_fX12_near_0b35 {σ0 : ST}  {σ : ST} (h_σ : Fr [(35, 39)] [(75, 88)] σ0 σ) : FrP [(35, 39)] [(75, 88)] σ0 (fX12_near_0b35 σ) := by
  unfold fX12_near_0b35
  refine bdF2 fun v40 _ => ?_
  refine bdF2 fun v43 _ => ?_
  exact fb_fX12_near_0b60  h_σ
theorem fb_fX12_near_0b26 {σ0 : ST}  {l1 : Int32} {σ : ST} (h_σ : Fr [(35, 39)] [(75, 88)] σ0 σ) : FrP [(35, 39)] [(75, 88)] σ0 (fX12_near_0b26 l1 σ) := by
  unfold fX12_near_0b26
  refine bdF2 fun s27 e_s27 => ?_
  have h_s27 : Fr [(35, 39)] [(75, 88)] σ0 s27 := by rw [e_s27]; exact h_σ.call fr_fX12_join_0 rfl rfl
  exact iteF2 (fb_fX12_near_0b35  h_s27) (fb_fX12_near_0b49  h_s27)
theorem fb_fX12_near_0b21 {σ0 : ST}  {l1 : Int32} {σ : ST} (h_σ : Fr [(35, 39)] [(75, 88)] σ0 σ) : FrP [(35, 39)] [(75, 88)] σ0 (fX12_near_0b21 l1 σ) := by
  unfold fX12_near_0b21
  exact iteF2 (fb_fX12_near_0b61  h_σ) (fb_fX12_near_0b26  h_σ)
theorem fb_fX12_near_0b18 {σ0 : ST}  {σ : ST} (h_σ : Fr [(35, 39)] [(75, 88)] σ0 σ) : FrP [(35, 39)] [(75, 88)] σ0 (fX12_near_0b18 σ) := by
  unfold fX12_near_0b18
  exact h_σ
theorem fb_fX12_near_0b11 {σ0 : ST}  {l1 : Int32} {σ : ST} (h_σ : Fr [(35, 39)] [(75, 88)] σ0 σ) : FrP [(35, 39)] [(75, 88)] σ0 (fX12_near_0b11 l1 σ) := by
  unfold fX12_near_0b11
  refine bpF2 fun v12 s12 e_s12 => ?_
  have h_s12 : Fr [(35, 39)] [(75, 88)] σ0 s12 := by rw [← e_s12]; exact h_σ.call fr_fX12_findBest_0 rfl rfl
  exact iteF2 (fb_fX12_near_0b18  h_s12) (fb_fX12_near_0b21  h_s12)
theorem fb_fX12_near_0b9 {σ0 : ST}  {σ : ST} (h_σ : Fr [(35, 39)] [(75, 88)] σ0 σ) : FrP [(35, 39)] [(75, 88)] σ0 (fX12_near_0b9 σ) := by
  unfold fX12_near_0b9
  exact h_σ
theorem fb_fX12_near_0b0 {σ0 : ST}  {l1 : Int32} {σ : ST} (h_σ : Fr [(35, 39)] [(75, 88)] σ0 σ) : FrP [(35, 39)] [(75, 88)] σ0 (fX12_near_0b0 l1 σ) := by
  unfold fX12_near_0b0
  refine bdF2 fun v3 _ => ?_
  exact iteF2 (fb_fX12_near_0b9  h_σ) (fb_fX12_near_0b11  h_σ)
theorem fr_fX12_near_0 {p1 : Int32} {σ : ST} : Fr [(35, 39)] [(75, 88)] σ (fX12_near_0 p1 σ).2 := fb_fX12_near_0b0 (Fr.refl σ)
theorem fb_fX12_sure_0b25 {σ0 : ST}  {σ : ST} (h_σ : Fr [(35, 39)] [(75, 86), (88, 88)] σ0 σ) : FrP [(35, 39)] [(75, 86), (88, 88)] σ0 (fX12_sure_0b25 σ) := by
  unfold fX12_sure_0b25
  exact h_σ
theorem fb_fX12_sure_0b155 {σ0 : ST}  {t0 : Int32} {σ : ST} (h_σ : Fr [(35, 39)] [(75, 86), (88, 88)] σ0 σ) : FrP [(35, 39)] [(75, 86), (88, 88)] σ0 (fX12_sure_0b155 t0 σ) := by
  unfold fX12_sure_0b155
  exact h_σ
theorem fb_fX12_sure_0b154 {σ0 : ST}  {σ : ST} (h_σ : Fr [(35, 39)] [(75, 86), (88, 88)] σ0 σ) : FrP [(35, 39)] [(75, 86), (88, 88)] σ0 (fX12_sure_0b154 σ) := by
  unfold fX12_sure_0b154
  exact fb_fX12_sure_0b155  h_σ
theorem fb_fX12_sure_0b150 {σ0 : ST}  {σ : ST} (h_σ : Fr [(35, 39)] [(75, 86), (88, 88)] σ0 σ) : FrP [(35, 39)] [(75, 86), (88, 88)] σ0 (fX12_sure_0b150 σ) := by
  unfold fX12_sure_0b150
  exact fb_fX12_sure_0b155  h_σ
theorem fb_fX12_sure_0b146 {σ0 : ST}  {l3 : Int32} {σ : ST} (h_σ : Fr [(35, 39)] [(75, 86), (88, 88)] σ0 σ) : FrP [(35, 39)] [(75, 86), (88, 88)] σ0 (fX12_sure_0b146 l3 σ) := by
  unfold fX12_sure_0b146
  exact iteF2 (fb_fX12_sure_0b150  h_σ) (fb_fX12_sure_0b154  h_σ)
theorem fb_fX12_sure_0b142 {σ0 : ST}  {σ : ST} (h_σ : Fr [(35, 39)] [(75, 86), (88, 88)] σ0 σ) : FrP [(35, 39)] [(75, 86), (88, 88)] σ0 (fX12_sure_0b142 σ) := by
  unfold fX12_sure_0b142
  exact fb_fX12_sure_0b155  h_σ
theorem fb_fX12_sure_0b137 {σ0 : ST}  {l3 : Int32} {l4 : Int32} {σ : ST} (h_σ : Fr [(35, 39)] [(75, 86), (88, 88)] σ0 σ) : FrP [(35, 39)] [(75, 86), (88, 88)] σ0 (fX12_sure_0b137 l3 l4 σ) := by
  unfold fX12_sure_0b137
  exact iteF2 (fb_fX12_sure_0b142  h_σ) (fb_fX12_sure_0b146  h_σ)
theorem fb_fX12_sure_0b128 {σ0 : ST} {K49 : Int32 → Int32 → Int32 → Int32 → Int32 → ST → (Int32 × ST)} (hK49 : ∀ (q0 : Int32) (q1 : Int32) (q2 : Int32) (q3 : Int32) (q4 : Int32) (τ : ST), Fr [(35, 39)] [(75, 86), (88, 88)] σ0 τ → FrP [(35, 39)] [(75, 86), (88, 88)] σ0 (K49 q0 q1 q2 q3 q4 τ)) {l1 : Int32} {l2 : Int32} {l3 : Int32} {l4 : Int32} {σ : ST} (h_σ : Fr [(35, 39)] [(75, 86), (88, 88)] σ0 σ) : FrP [(35, 39)] [(75, 86), (88, 88)] σ0 (fX12_sure_0b128 K49 l1 l2 l3 l4 σ) := by
  unfold fX12_sure_0b128
  refine bpF2 fun v129 s129 e_s129 => ?_
  have h_s129 : Fr [(35, 39)] [(75, 86), (88, 88)] σ0 s129 := by rw [← e_s129]; exact h_σ.call fr_fX12_goOn_0 rfl rfl
  exact hK49 _ _ _ _ _ _ h_s129
theorem fb_fX12_sure_0b126 {σ0 : ST} {K49 : Int32 → Int32 → Int32 → Int32 → Int32 → ST → (Int32 × ST)} (hK49 : ∀ (q0 : Int32) (q1 : Int32) (q2 : Int32) (q3 : Int32) (q4 : Int32) (τ : ST), Fr [(35, 39)] [(75, 86), (88, 88)] σ0 τ → FrP [(35, 39)] [(75, 86), (88, 88)] σ0 (K49 q0 q1 q2 q3 q4 τ)) {l1 : Int32} {l2 : Int32} {l3 : Int32} {t0 : Int32} {σ : ST} (h_σ : Fr [(35, 39)] [(75, 86), (88, 88)] σ0 σ) : FrP [(35, 39)] [(75, 86), (88, 88)] σ0 (fX12_sure_0b126 K49 l1 l2 l3 t0 σ) := by
  unfold fX12_sure_0b126
  exact fb_fX12_sure_0b128 hK49 h_σ
theorem fb_fX12_sure_0b121 {σ0 : ST} {K49 : Int32 → Int32 → Int32 → Int32 → Int32 → ST → (Int32 × ST)} (hK49 : ∀ (q0 : Int32) (q1 : Int32) (q2 : Int32) (q3 : Int32) (q4 : Int32) (τ : ST), Fr [(35, 39)] [(75, 86), (88, 88)] σ0 τ → FrP [(35, 39)] [(75, 86), (88, 88)] σ0 (K49 q0 q1 q2 q3 q4 τ)) {l1 : Int32} {l2 : Int32} {l3 : Int32} {σ : ST} (h_σ : Fr [(35, 39)] [(75, 86), (88, 88)] σ0 σ) : FrP [(35, 39)] [(75, 86), (88, 88)] σ0 (fX12_sure_0b121 K49 l1 l2 l3 σ) := by
  unfold fX12_sure_0b121
  exact fb_fX12_sure_0b126 hK49 h_σ
theorem fb_fX12_sure_0b125 {σ0 : ST} {K49 : Int32 → Int32 → Int32 → Int32 → Int32 → ST → (Int32 × ST)} (hK49 : ∀ (q0 : Int32) (q1 : Int32) (q2 : Int32) (q3 : Int32) (q4 : Int32) (τ : ST), Fr [(35, 39)] [(75, 86), (88, 88)] σ0 τ → FrP [(35, 39)] [(75, 86), (88, 88)] σ0 (K49 q0 q1 q2 q3 q4 τ)) {l1 : Int32} {l2 : Int32} {l3 : Int32} {σ : ST} (h_σ : Fr [(35, 39)] [(75, 86), (88, 88)] σ0 σ) : FrP [(35, 39)] [(75, 86), (88, 88)] σ0 (fX12_sure_0b125 K49 l1 l2 l3 σ) := by
  unfold fX12_sure_0b125
  exact fb_fX12_sure_0b126 hK49 h_σ
theorem fb_fX12_sure_0b106 {σ0 : ST} {K49 : Int32 → Int32 → Int32 → Int32 → Int32 → ST → (Int32 × ST)} (hK49 : ∀ (q0 : Int32) (q1 : Int32) (q2 : Int32) (q3 : Int32) (q4 : Int32) (τ : ST), Fr [(35, 39)] [(75, 86), (88, 88)] σ0 τ → FrP [(35, 39)] [(75, 86), (88, 88)] σ0 (K49 q0 q1 q2 q3 q4 τ)) {l1 : Int32} {l2 : Int32} {l3 : Int32} {σ : ST} (h_σ : Fr [(35, 39)] [(75, 86), (88, 88)] σ0 σ) : FrP [(35, 39)] [(75, 86), (88, 88)] σ0 (fX12_sure_0b106 K49 l1 l2 l3 σ) := by
  unfold fX12_sure_0b106
  refine bdF2 fun v111 _ => ?_
  refine bdF2 fun v117 _ => ?_
  exact iteF2 (fb_fX12_sure_0b125 hK49 h_σ) (fb_fX12_sure_0b121 hK49 h_σ)
theorem fb_fX12_sure_0b100 {σ0 : ST} {K49 : Int32 → Int32 → Int32 → Int32 → Int32 → ST → (Int32 × ST)} (hK49 : ∀ (q0 : Int32) (q1 : Int32) (q2 : Int32) (q3 : Int32) (q4 : Int32) (τ : ST), Fr [(35, 39)] [(75, 86), (88, 88)] σ0 τ → FrP [(35, 39)] [(75, 86), (88, 88)] σ0 (K49 q0 q1 q2 q3 q4 τ)) {l1 : Int32} {l2 : Int32} {l4 : Int32} {t0 : Int32} {σ : ST} (h_σ : Fr [(35, 39)] [(75, 86), (88, 88)] σ0 σ) : FrP [(35, 39)] [(75, 86), (88, 88)] σ0 (fX12_sure_0b100 K49 l1 l2 l4 t0 σ) := by
  unfold fX12_sure_0b100
  exact iteF2 (fb_fX12_sure_0b106 hK49 h_σ) (fb_fX12_sure_0b121 hK49 h_σ)
theorem fb_fX12_sure_0b95 {σ0 : ST} {K49 : Int32 → Int32 → Int32 → Int32 → Int32 → ST → (Int32 × ST)} (hK49 : ∀ (q0 : Int32) (q1 : Int32) (q2 : Int32) (q3 : Int32) (q4 : Int32) (τ : ST), Fr [(35, 39)] [(75, 86), (88, 88)] σ0 τ → FrP [(35, 39)] [(75, 86), (88, 88)] σ0 (K49 q0 q1 q2 q3 q4 τ)) {l1 : Int32} {l2 : Int32} {l4 : Int32} {σ : ST} (h_σ : Fr [(35, 39)] [(75, 86), (88, 88)] σ0 σ) : FrP [(35, 39)] [(75, 86), (88, 88)] σ0 (fX12_sure_0b95 K49 l1 l2 l4 σ) := by
  unfold fX12_sure_0b95
  exact fb_fX12_sure_0b100 hK49 h_σ
theorem fb_fX12_sure_0b99 {σ0 : ST} {K49 : Int32 → Int32 → Int32 → Int32 → Int32 → ST → (Int32 × ST)} (hK49 : ∀ (q0 : Int32) (q1 : Int32) (q2 : Int32) (q3 : Int32) (q4 : Int32) (τ : ST), Fr [(35, 39)] [(75, 86), (88, 88)] σ0 τ → FrP [(35, 39)] [(75, 86), (88, 88)] σ0 (K49 q0 q1 q2 q3 q4 τ)) {l1 : Int32} {l2 : Int32} {l4 : Int32} {σ : ST} (h_σ : Fr [(35, 39)] [(75, 86), (88, 88)] σ0 σ) : FrP [(35, 39)] [(75, 86), (88, 88)] σ0 (fX12_sure_0b99 K49 l1 l2 l4 σ) := by
  unfold fX12_sure_0b99
  exact fb_fX12_sure_0b100 hK49 h_σ
theorem fb_fX12_sure_0b80 {σ0 : ST} {K49 : Int32 → Int32 → Int32 → Int32 → Int32 → ST → (Int32 × ST)} (hK49 : ∀ (q0 : Int32) (q1 : Int32) (q2 : Int32) (q3 : Int32) (q4 : Int32) (τ : ST), Fr [(35, 39)] [(75, 86), (88, 88)] σ0 τ → FrP [(35, 39)] [(75, 86), (88, 88)] σ0 (K49 q0 q1 q2 q3 q4 τ)) {l1 : Int32} {l2 : Int32} {l4 : Int32} {σ : ST} (h_σ : Fr [(35, 39)] [(75, 86), (88, 88)] σ0 σ) : FrP [(35, 39)] [(75, 86), (88, 88)] σ0 (fX12_sure_0b80 K49 l1 l2 l4 σ) := by
  unfold fX12_sure_0b80
  refine bdF2 fun v85 _ => ?_
  refine bdF2 fun v91 _ => ?_
  exact iteF2 (fb_fX12_sure_0b95 hK49 h_σ) (fb_fX12_sure_0b99 hK49 h_σ)
theorem fb_fX12_sure_0b76 {σ0 : ST} {K49 : Int32 → Int32 → Int32 → Int32 → Int32 → ST → (Int32 × ST)} (hK49 : ∀ (q0 : Int32) (q1 : Int32) (q2 : Int32) (q3 : Int32) (q4 : Int32) (τ : ST), Fr [(35, 39)] [(75, 86), (88, 88)] σ0 τ → FrP [(35, 39)] [(75, 86), (88, 88)] σ0 (K49 q0 q1 q2 q3 q4 τ)) {l1 : Int32} {l2 : Int32} {l3 : Int32} {l4 : Int32} {σ : ST} (h_σ : Fr [(35, 39)] [(75, 86), (88, 88)] σ0 σ) : FrP [(35, 39)] [(75, 86), (88, 88)] σ0 (fX12_sure_0b76 K49 l1 l2 l3 l4 σ) := by
  unfold fX12_sure_0b76
  exact iteF2 (fb_fX12_sure_0b80 hK49 h_σ) (fb_fX12_sure_0b95 hK49 h_σ)
theorem fb_fX12_sure_0b54 {σ0 : ST} {K49 : Int32 → Int32 → Int32 → Int32 → Int32 → ST → (Int32 × ST)} (hK49 : ∀ (q0 : Int32) (q1 : Int32) (q2 : Int32) (q3 : Int32) (q4 : Int32) (τ : ST), Fr [(35, 39)] [(75, 86), (88, 88)] σ0 τ → FrP [(35, 39)] [(75, 86), (88, 88)] σ0 (K49 q0 q1 q2 q3 q4 τ)) {l1 : Int32} {l2 : Int32} {l3 : Int32} {l4 : Int32} {σ : ST} (h_σ : Fr [(35, 39)] [(75, 86), (88, 88)] σ0 σ) : FrP [(35, 39)] [(75, 86), (88, 88)] σ0 (fX12_sure_0b54 K49 l1 l2 l3 l4 σ) := by
  unfold fX12_sure_0b54
  refine bdF2 fun v59 _ => ?_
  refine bdF2 fun v63 _ => ?_
  refine bdF2 fun v71 _ => ?_
  refine bdF2 fun v72 _ => ?_
  exact iteF2 (fb_fX12_sure_0b128 hK49 h_σ) (fb_fX12_sure_0b76 hK49 h_σ)
theorem fb_fX12_sure_0b49 {σ0 : ST} {K49 : Int32 → Int32 → Int32 → Int32 → Int32 → ST → (Int32 × ST)} (hK49 : ∀ (q0 : Int32) (q1 : Int32) (q2 : Int32) (q3 : Int32) (q4 : Int32) (τ : ST), Fr [(35, 39)] [(75, 86), (88, 88)] σ0 τ → FrP [(35, 39)] [(75, 86), (88, 88)] σ0 (K49 q0 q1 q2 q3 q4 τ)) {l1 : Int32} {l2 : Int32} {l3 : Int32} {l4 : Int32} {l5 : Int32} {σ : ST} (h_σ : Fr [(35, 39)] [(75, 86), (88, 88)] σ0 σ) : FrP [(35, 39)] [(75, 86), (88, 88)] σ0 (fX12_sure_0b49 K49 l1 l2 l3 l4 l5 σ) := by
  unfold fX12_sure_0b49
  exact iteF2 (fb_fX12_sure_0b137  h_σ) (fb_fX12_sure_0b54 hK49 h_σ)
theorem fb_fX12_sure_0l49 {σ0 : ST}  : ∀ (fu : Nat) {q0 : Int32} {q1 : Int32} {q2 : Int32} {q3 : Int32} {q4 : Int32} {τ : ST} (h : Fr [(35, 39)] [(75, 86), (88, 88)] σ0 τ), FrP [(35, 39)] [(75, 86), (88, 88)] σ0 (fX12_sure_0l49 fu q0 q1 q2 q3 q4 τ)
  | 0, _, _, _, _, _, _, h => h
  | fu + 1, _, _, _, _, _, _, h => fb_fX12_sure_0b49 (fun _ _ _ _ _ _ q => fb_fX12_sure_0l49  fu q) h
theorem fb_fX12_sure_0b37 {σ0 : ST}  {l1 : Int32} {l2 : Int32} {σ : ST} (h_σ : Fr [(35, 39)] [(75, 86), (88, 88)] σ0 σ) : FrP [(35, 39)] [(75, 86), (88, 88)] σ0 (fX12_sure_0b37 l1 l2 σ) := by
  unfold fX12_sure_0b37
  refine bdF2 fun s43 e_s43 => ?_
  have h_s43 : Fr [(35, 39)] [(75, 86), (88, 88)] σ0 s43 := by rw [e_s43]; exact h_σ.call fr_fX12_begin_0 rfl rfl
  exact fb_fX12_sure_0l49  _ h_s43
theorem fb_fX12_sure_0b34 {σ0 : ST}  {σ : ST} (h_σ : Fr [(35, 39)] [(75, 86), (88, 88)] σ0 σ) : FrP [(35, 39)] [(75, 86), (88, 88)] σ0 (fX12_sure_0b34 σ) := by
  unfold fX12_sure_0b34
  exact h_σ
theorem fb_fX12_sure_0b27 {σ0 : ST}  {l1 : Int32} {l2 : Int32} {σ : ST} (h_σ : Fr [(35, 39)] [(75, 86), (88, 88)] σ0 σ) : FrP [(35, 39)] [(75, 86), (88, 88)] σ0 (fX12_sure_0b27 l1 l2 σ) := by
  unfold fX12_sure_0b27
  refine bpF2 fun v28 s28 e_s28 => ?_
  have h_s28 : Fr [(35, 39)] [(75, 86), (88, 88)] σ0 s28 := by rw [← e_s28]; exact h_σ.call fr_fX12_findBest_0 rfl rfl
  exact iteF2 (fb_fX12_sure_0b34  h_s28) (fb_fX12_sure_0b37  h_s28)
theorem fb_fX12_sure_0b20 {σ0 : ST}  {l1 : Int32} {l2 : Int32} {σ : ST} (h_σ : Fr [(35, 39)] [(75, 86), (88, 88)] σ0 σ) : FrP [(35, 39)] [(75, 86), (88, 88)] σ0 (fX12_sure_0b20 l1 l2 σ) := by
  unfold fX12_sure_0b20
  exact iteF2 (fb_fX12_sure_0b25  h_σ) (fb_fX12_sure_0b27  h_σ)
theorem fb_fX12_sure_0b12 {σ0 : ST}  {l1 : Int32} {l2 : Int32} {σ : ST} (h_σ : Fr [(35, 39)] [(75, 86), (88, 88)] σ0 σ) : FrP [(35, 39)] [(75, 86), (88, 88)] σ0 (fX12_sure_0b12 l1 l2 σ) := by
  unfold fX12_sure_0b12
  refine bdF2 fun v14 _ => ?_
  exact iteF2 (fb_fX12_sure_0b25  h_σ) (fb_fX12_sure_0b20  h_σ)
theorem fb_fX12_sure_0b0 {σ0 : ST}  {l1 : Int32} {l2 : Int32} {σ : ST} (h_σ : Fr [(35, 39)] [(75, 86), (88, 88)] σ0 σ) : FrP [(35, 39)] [(75, 86), (88, 88)] σ0 (fX12_sure_0b0 l1 l2 σ) := by
  unfold fX12_sure_0b0
  refine bdF2 fun s1 e_s1 => ?_
  have h_s1 : Fr [(35, 39)] [(75, 86), (88, 88)] σ0 s1 := by rw [e_s1]; exact h_σ.call fr_fX12_findPieces_0 rfl rfl
  refine bdF2 fun v6 _ => ?_
  exact iteF2 (fb_fX12_sure_0b25  h_s1) (fb_fX12_sure_0b12  h_s1)
theorem fr_fX12_sure_0 {p1 : Int32} {p2 : Int32} {σ : ST} : Fr [(35, 39)] [(75, 86), (88, 88)] σ (fX12_sure_0 p1 p2 σ).2 := fb_fX12_sure_0b0 (Fr.refl σ)
theorem fb_fX12_findHeapMiddles_0b109 {σ0 : ST}  {σ : ST} (h_σ : Fr [(38, 38)] [(80, 82), (89, 89)] σ0 σ) : Fr [(38, 38)] [(80, 82), (89, 89)] σ0 (fX12_findHeapMiddles_0b109 σ) := by
  unfold fX12_findHeapMiddles_0b109
  exact h_σ
theorem fb_fX12_findHeapMiddles_0b103 {σ0 : ST} {K2 : Int32 → ST → ST} (hK2 : ∀ (q0 : Int32) (τ : ST), Fr [(38, 38)] [(80, 82), (89, 89)] σ0 τ → Fr [(38, 38)] [(80, 82), (89, 89)] σ0 (K2 q0 τ)) {l1 : Int32} {σ : ST} (h_σ : Fr [(38, 38)] [(80, 82), (89, 89)] σ0 σ) : Fr [(38, 38)] [(80, 82), (89, 89)] σ0 (fX12_findHeapMiddles_0b103 K2 l1 σ) := by
  unfold fX12_findHeapMiddles_0b103
  refine bdF fun v103 _ => ?_
  exact hK2 _ _ h_σ
theorem fb_fX12_findHeapMiddles_0b81 {σ0 : ST} {K2 : Int32 → ST → ST} (hK2 : ∀ (q0 : Int32) (τ : ST), Fr [(38, 38)] [(80, 82), (89, 89)] σ0 τ → Fr [(38, 38)] [(80, 82), (89, 89)] σ0 (K2 q0 τ)) {K76 : Int32 → Int32 → ST → ST} (hK76 : ∀ (q0 : Int32) (q1 : Int32) (τ : ST), Fr [(38, 38)] [(80, 82), (89, 89)] σ0 τ → Fr [(38, 38)] [(80, 82), (89, 89)] σ0 (K76 q0 q1 τ)) {l1 : Int32} {l2 : Int32} {σ : ST} (h_σ : Fr [(38, 38)] [(80, 82), (89, 89)] σ0 σ) : Fr [(38, 38)] [(80, 82), (89, 89)] σ0 (fX12_findHeapMiddles_0b81 K2 K76 l1 l2 σ) := by
  unfold fX12_findHeapMiddles_0b81
  refine bdF fun v87 _ => ?_
  refine bdF fun v89 _ => ?_
  refine bdF fun v95 _ => ?_
  refine bdF fun s96 e_s96 => ?_
  have h_s96 : Fr [(38, 38)] [(80, 82), (89, 89)] σ0 s96 := by rw [e_s96]; exact h_σ.putA rfl
  refine bdF fun v97 _ => ?_
  exact hK76 _ _ _ h_s96
theorem fb_fX12_findHeapMiddles_0b76 {σ0 : ST} {K2 : Int32 → ST → ST} (hK2 : ∀ (q0 : Int32) (τ : ST), Fr [(38, 38)] [(80, 82), (89, 89)] σ0 τ → Fr [(38, 38)] [(80, 82), (89, 89)] σ0 (K2 q0 τ)) {K76 : Int32 → Int32 → ST → ST} (hK76 : ∀ (q0 : Int32) (q1 : Int32) (τ : ST), Fr [(38, 38)] [(80, 82), (89, 89)] σ0 τ → Fr [(38, 38)] [(80, 82), (89, 89)] σ0 (K76 q0 q1 τ)) {l1 : Int32} {l2 : Int32} {σ : ST} (h_σ : Fr [(38, 38)] [(80, 82), (89, 89)] σ0 σ) : Fr [(38, 38)] [(80, 82), (89, 89)] σ0 (fX12_findHeapMiddles_0b76 K2 K76 l1 l2 σ) := by
  unfold fX12_findHeapMiddles_0b76
  exact iteF (fb_fX12_findHeapMiddles_0b103 hK2 h_σ) (fb_fX12_findHeapMiddles_0b81 hK2 hK76 h_σ)
theorem fb_fX12_findHeapMiddles_0l76 {σ0 : ST} {K2 : Int32 → ST → ST} (hK2 : ∀ (q0 : Int32) (τ : ST), Fr [(38, 38)] [(80, 82), (89, 89)] σ0 τ → Fr [(38, 38)] [(80, 82), (89, 89)] σ0 (K2 q0 τ)) : ∀ (fu : Nat) {q0 : Int32} {q1 : Int32} {τ : ST} (h : Fr [(38, 38)] [(80, 82), (89, 89)] σ0 τ), Fr [(38, 38)] [(80, 82), (89, 89)] σ0 (fX12_findHeapMiddles_0l76 K2 fu q0 q1 τ)
  | 0, _, _, _, h => h
  | fu + 1, _, _, _, h => fb_fX12_findHeapMiddles_0b76 hK2 (fun _ _ _ q => fb_fX12_findHeapMiddles_0l76 hK2 fu q) h
theorem fb_fX12_findHeapMiddles_0b70 {σ0 : ST} {K2 : Int32 → ST → ST} (hK2 : ∀ (q0 : Int32) (τ : ST), Fr [(38, 38)] [(80, 82), (89, 89)] σ0 τ → Fr [(38, 38)] [(80, 82), (89, 89)] σ0 (K2 q0 τ)) {l1 : Int32} {σ : ST} (h_σ : Fr [(38, 38)] [(80, 82), (89, 89)] σ0 σ) : Fr [(38, 38)] [(80, 82), (89, 89)] σ0 (fX12_findHeapMiddles_0b70 K2 l1 σ) := by
  unfold fX12_findHeapMiddles_0b70
  refine bdF fun s71 e_s71 => ?_
  have h_s71 : Fr [(38, 38)] [(80, 82), (89, 89)] σ0 s71 := by rw [e_s71]; exact h_σ.call fr_fX12_findMiddle_0 rfl rfl
  exact fb_fX12_findHeapMiddles_0l76 hK2 _ h_s71
theorem fb_fX12_findHeapMiddles_0b63 {σ0 : ST} {K2 : Int32 → ST → ST} (hK2 : ∀ (q0 : Int32) (τ : ST), Fr [(38, 38)] [(80, 82), (89, 89)] σ0 τ → Fr [(38, 38)] [(80, 82), (89, 89)] σ0 (K2 q0 τ)) {K19 : Int32 → Int32 → ST → ST} (hK19 : ∀ (q0 : Int32) (q1 : Int32) (τ : ST), Fr [(38, 38)] [(80, 82), (89, 89)] σ0 τ → Fr [(38, 38)] [(80, 82), (89, 89)] σ0 (K19 q0 q1 τ)) {l1 : Int32} {l2 : Int32} {t0 : Int32} {t1 : Int32} {σ : ST} (h_σ : Fr [(38, 38)] [(80, 82), (89, 89)] σ0 σ) : Fr [(38, 38)] [(80, 82), (89, 89)] σ0 (fX12_findHeapMiddles_0b63 K2 K19 l1 l2 t0 t1 σ) := by
  unfold fX12_findHeapMiddles_0b63
  refine bdF fun s63 e_s63 => ?_
  have h_s63 : Fr [(38, 38)] [(80, 82), (89, 89)] σ0 s63 := by rw [e_s63]; exact h_σ.putA rfl
  refine bdF fun v64 _ => ?_
  exact hK19 _ _ _ h_s63
theorem fb_fX12_findHeapMiddles_0b62 {σ0 : ST} {K2 : Int32 → ST → ST} (hK2 : ∀ (q0 : Int32) (τ : ST), Fr [(38, 38)] [(80, 82), (89, 89)] σ0 τ → Fr [(38, 38)] [(80, 82), (89, 89)] σ0 (K2 q0 τ)) {K19 : Int32 → Int32 → ST → ST} (hK19 : ∀ (q0 : Int32) (q1 : Int32) (τ : ST), Fr [(38, 38)] [(80, 82), (89, 89)] σ0 τ → Fr [(38, 38)] [(80, 82), (89, 89)] σ0 (K19 q0 q1 τ)) {l1 : Int32} {l2 : Int32} {t0 : Int32} {σ : ST} (h_σ : Fr [(38, 38)] [(80, 82), (89, 89)] σ0 σ) : Fr [(38, 38)] [(80, 82), (89, 89)] σ0 (fX12_findHeapMiddles_0b62 K2 K19 l1 l2 t0 σ) := by
  unfold fX12_findHeapMiddles_0b62
  exact fb_fX12_findHeapMiddles_0b63 hK2 hK19 h_σ
theorem fb_fX12_findHeapMiddles_0b58 {σ0 : ST} {K2 : Int32 → ST → ST} (hK2 : ∀ (q0 : Int32) (τ : ST), Fr [(38, 38)] [(80, 82), (89, 89)] σ0 τ → Fr [(38, 38)] [(80, 82), (89, 89)] σ0 (K2 q0 τ)) {K19 : Int32 → Int32 → ST → ST} (hK19 : ∀ (q0 : Int32) (q1 : Int32) (τ : ST), Fr [(38, 38)] [(80, 82), (89, 89)] σ0 τ → Fr [(38, 38)] [(80, 82), (89, 89)] σ0 (K19 q0 q1 τ)) {l1 : Int32} {l2 : Int32} {t0 : Int32} {σ : ST} (h_σ : Fr [(38, 38)] [(80, 82), (89, 89)] σ0 σ) : Fr [(38, 38)] [(80, 82), (89, 89)] σ0 (fX12_findHeapMiddles_0b58 K2 K19 l1 l2 t0 σ) := by
  unfold fX12_findHeapMiddles_0b58
  exact fb_fX12_findHeapMiddles_0b63 hK2 hK19 h_σ
theorem fb_fX12_findHeapMiddles_0b43 {σ0 : ST} {K2 : Int32 → ST → ST} (hK2 : ∀ (q0 : Int32) (τ : ST), Fr [(38, 38)] [(80, 82), (89, 89)] σ0 τ → Fr [(38, 38)] [(80, 82), (89, 89)] σ0 (K2 q0 τ)) {K19 : Int32 → Int32 → ST → ST} (hK19 : ∀ (q0 : Int32) (q1 : Int32) (τ : ST), Fr [(38, 38)] [(80, 82), (89, 89)] σ0 τ → Fr [(38, 38)] [(80, 82), (89, 89)] σ0 (K19 q0 q1 τ)) {l1 : Int32} {l2 : Int32} {t0 : Int32} {σ : ST} (h_σ : Fr [(38, 38)] [(80, 82), (89, 89)] σ0 σ) : Fr [(38, 38)] [(80, 82), (89, 89)] σ0 (fX12_findHeapMiddles_0b43 K2 K19 l1 l2 t0 σ) := by
  unfold fX12_findHeapMiddles_0b43
  refine bdF fun v52 _ => ?_
  refine bdF fun v53 _ => ?_
  exact iteF (fb_fX12_findHeapMiddles_0b58 hK2 hK19 h_σ) (fb_fX12_findHeapMiddles_0b62 hK2 hK19 h_σ)
theorem fb_fX12_findHeapMiddles_0b27 {σ0 : ST} {K2 : Int32 → ST → ST} (hK2 : ∀ (q0 : Int32) (τ : ST), Fr [(38, 38)] [(80, 82), (89, 89)] σ0 τ → Fr [(38, 38)] [(80, 82), (89, 89)] σ0 (K2 q0 τ)) {K19 : Int32 → Int32 → ST → ST} (hK19 : ∀ (q0 : Int32) (q1 : Int32) (τ : ST), Fr [(38, 38)] [(80, 82), (89, 89)] σ0 τ → Fr [(38, 38)] [(80, 82), (89, 89)] σ0 (K19 q0 q1 τ)) {l1 : Int32} {l2 : Int32} {σ : ST} (h_σ : Fr [(38, 38)] [(80, 82), (89, 89)] σ0 σ) : Fr [(38, 38)] [(80, 82), (89, 89)] σ0 (fX12_findHeapMiddles_0b27 K2 K19 l1 l2 σ) := by
  unfold fX12_findHeapMiddles_0b27
  refine bdF fun v37 _ => ?_
  exact iteF (fb_fX12_findHeapMiddles_0b62 hK2 hK19 h_σ) (fb_fX12_findHeapMiddles_0b43 hK2 hK19 h_σ)
theorem fb_fX12_findHeapMiddles_0b19 {σ0 : ST} {K2 : Int32 → ST → ST} (hK2 : ∀ (q0 : Int32) (τ : ST), Fr [(38, 38)] [(80, 82), (89, 89)] σ0 τ → Fr [(38, 38)] [(80, 82), (89, 89)] σ0 (K2 q0 τ)) {K19 : Int32 → Int32 → ST → ST} (hK19 : ∀ (q0 : Int32) (q1 : Int32) (τ : ST), Fr [(38, 38)] [(80, 82), (89, 89)] σ0 τ → Fr [(38, 38)] [(80, 82), (89, 89)] σ0 (K19 q0 q1 τ)) {l1 : Int32} {l2 : Int32} {σ : ST} (h_σ : Fr [(38, 38)] [(80, 82), (89, 89)] σ0 σ) : Fr [(38, 38)] [(80, 82), (89, 89)] σ0 (fX12_findHeapMiddles_0b19 K2 K19 l1 l2 σ) := by
  unfold fX12_findHeapMiddles_0b19
  refine bdF fun v21 _ => ?_
  exact iteF (fb_fX12_findHeapMiddles_0b70 hK2 h_σ) (fb_fX12_findHeapMiddles_0b27 hK2 hK19 h_σ)
theorem fb_fX12_findHeapMiddles_0l19 {σ0 : ST} {K2 : Int32 → ST → ST} (hK2 : ∀ (q0 : Int32) (τ : ST), Fr [(38, 38)] [(80, 82), (89, 89)] σ0 τ → Fr [(38, 38)] [(80, 82), (89, 89)] σ0 (K2 q0 τ)) : ∀ (fu : Nat) {q0 : Int32} {q1 : Int32} {τ : ST} (h : Fr [(38, 38)] [(80, 82), (89, 89)] σ0 τ), Fr [(38, 38)] [(80, 82), (89, 89)] σ0 (fX12_findHeapMiddles_0l19 K2 fu q0 q1 τ)
  | 0, _, _, _, h => h
  | fu + 1, _, _, _, h => fb_fX12_findHeapMiddles_0b19 hK2 (fun _ _ _ q => fb_fX12_findHeapMiddles_0l19 hK2 fu q) h
theorem fb_fX12_findHeapMiddles_0b17 {σ0 : ST} {K2 : Int32 → ST → ST} (hK2 : ∀ (q0 : Int32) (τ : ST), Fr [(38, 38)] [(80, 82), (89, 89)] σ0 τ → Fr [(38, 38)] [(80, 82), (89, 89)] σ0 (K2 q0 τ)) {l1 : Int32} {σ : ST} (h_σ : Fr [(38, 38)] [(80, 82), (89, 89)] σ0 σ) : Fr [(38, 38)] [(80, 82), (89, 89)] σ0 (fX12_findHeapMiddles_0b17 K2 l1 σ) := by
  unfold fX12_findHeapMiddles_0b17
  exact fb_fX12_findHeapMiddles_0l19 hK2 _ h_σ
theorem fb_fX12_findHeapMiddles_0b2 {σ0 : ST} {K2 : Int32 → ST → ST} (hK2 : ∀ (q0 : Int32) (τ : ST), Fr [(38, 38)] [(80, 82), (89, 89)] σ0 τ → Fr [(38, 38)] [(80, 82), (89, 89)] σ0 (K2 q0 τ)) {l1 : Int32} {σ : ST} (h_σ : Fr [(38, 38)] [(80, 82), (89, 89)] σ0 σ) : Fr [(38, 38)] [(80, 82), (89, 89)] σ0 (fX12_findHeapMiddles_0b2 K2 l1 σ) := by
  unfold fX12_findHeapMiddles_0b2
  refine bdF fun v8 _ => ?_
  refine bdF fun v11 _ => ?_
  exact iteF (fb_fX12_findHeapMiddles_0b109  h_σ) (fb_fX12_findHeapMiddles_0b17 hK2 h_σ)
theorem fb_fX12_findHeapMiddles_0l2 {σ0 : ST}  : ∀ (fu : Nat) {q0 : Int32} {τ : ST} (h : Fr [(38, 38)] [(80, 82), (89, 89)] σ0 τ), Fr [(38, 38)] [(80, 82), (89, 89)] σ0 (fX12_findHeapMiddles_0l2 fu q0 τ)
  | 0, _, _, h => h
  | fu + 1, _, _, h => fb_fX12_findHeapMiddles_0b2 (fun _ _ q => fb_fX12_findHeapMiddles_0l2  fu q) h
theorem fb_fX12_findHeapMiddles_0b0 {σ0 : ST}  {σ : ST} (h_σ : Fr [(38, 38)] [(80, 82), (89, 89)] σ0 σ) : Fr [(38, 38)] [(80, 82), (89, 89)] σ0 (fX12_findHeapMiddles_0b0 σ) := by
  unfold fX12_findHeapMiddles_0b0
  exact fb_fX12_findHeapMiddles_0l2  _ h_σ
theorem fr_fX12_findHeapMiddles_0 {σ : ST} : Fr [(38, 38)] [(80, 82), (89, 89)] σ (fX12_findHeapMiddles_0 σ) := fb_fX12_findHeapMiddles_0b0 (Fr.refl σ)
theorem fb_fX12_wrong_0b46 {σ0 : ST}  {t0 : Int32} {σ : ST} (h_σ : Fr [(35, 39)] [(75, 86), (88, 89)] σ0 σ) : FrP [(35, 39)] [(75, 86), (88, 89)] σ0 (fX12_wrong_0b46 t0 σ) := by
  unfold fX12_wrong_0b46
  exact h_σ
theorem fb_fX12_wrong_0b45 {σ0 : ST}  {σ : ST} (h_σ : Fr [(35, 39)] [(75, 86), (88, 89)] σ0 σ) : FrP [(35, 39)] [(75, 86), (88, 89)] σ0 (fX12_wrong_0b45 σ) := by
  unfold fX12_wrong_0b45
  exact fb_fX12_wrong_0b46  h_σ
theorem fb_fX12_wrong_0b41 {σ0 : ST}  {σ : ST} (h_σ : Fr [(35, 39)] [(75, 86), (88, 89)] σ0 σ) : FrP [(35, 39)] [(75, 86), (88, 89)] σ0 (fX12_wrong_0b41 σ) := by
  unfold fX12_wrong_0b41
  exact fb_fX12_wrong_0b46  h_σ
theorem fb_fX12_wrong_0b22 {σ0 : ST}  {l1 : Int32} {σ : ST} (h_σ : Fr [(35, 39)] [(75, 86), (88, 89)] σ0 σ) : FrP [(35, 39)] [(75, 86), (88, 89)] σ0 (fX12_wrong_0b22 l1 σ) := by
  unfold fX12_wrong_0b22
  refine bdF2 fun s23 e_s23 => ?_
  have h_s23 : Fr [(35, 39)] [(75, 86), (88, 89)] σ0 s23 := by rw [e_s23]; exact h_σ.call fr_fX12_findHeapMiddles_0 rfl rfl
  refine bdF2 fun v32 _ => ?_
  refine bdF2 fun v35 _ => ?_
  exact iteF2 (fb_fX12_wrong_0b45  h_s23) (fb_fX12_wrong_0b41  h_s23)
theorem fb_fX12_wrong_0b19 {σ0 : ST}  {σ : ST} (h_σ : Fr [(35, 39)] [(75, 86), (88, 89)] σ0 σ) : FrP [(35, 39)] [(75, 86), (88, 89)] σ0 (fX12_wrong_0b19 σ) := by
  unfold fX12_wrong_0b19
  exact h_σ
theorem fb_fX12_wrong_0b12 {σ0 : ST}  {l1 : Int32} {σ : ST} (h_σ : Fr [(35, 39)] [(75, 86), (88, 89)] σ0 σ) : FrP [(35, 39)] [(75, 86), (88, 89)] σ0 (fX12_wrong_0b12 l1 σ) := by
  unfold fX12_wrong_0b12
  refine bpF2 fun v13 s13 e_s13 => ?_
  have h_s13 : Fr [(35, 39)] [(75, 86), (88, 89)] σ0 s13 := by rw [← e_s13]; exact h_σ.call fr_fX12_findBest_0 rfl rfl
  exact iteF2 (fb_fX12_wrong_0b19  h_s13) (fb_fX12_wrong_0b22  h_s13)
theorem fb_fX12_wrong_0b10 {σ0 : ST}  {σ : ST} (h_σ : Fr [(35, 39)] [(75, 86), (88, 89)] σ0 σ) : FrP [(35, 39)] [(75, 86), (88, 89)] σ0 (fX12_wrong_0b10 σ) := by
  unfold fX12_wrong_0b10
  exact h_σ
theorem fb_fX12_wrong_0b0 {σ0 : ST}  {l1 : Int32} {σ : ST} (h_σ : Fr [(35, 39)] [(75, 86), (88, 89)] σ0 σ) : FrP [(35, 39)] [(75, 86), (88, 89)] σ0 (fX12_wrong_0b0 l1 σ) := by
  unfold fX12_wrong_0b0
  refine bdF2 fun v4 _ => ?_
  exact iteF2 (fb_fX12_wrong_0b10  h_σ) (fb_fX12_wrong_0b12  h_σ)
theorem fr_fX12_wrong_0 {p1 : Int32} {σ : ST} : Fr [(35, 39)] [(75, 86), (88, 89)] σ (fX12_wrong_0 p1 σ).2 := fb_fX12_wrong_0b0 (Fr.refl σ)
theorem fb_fX12_middle_0b37 {σ0 : ST}  {t0 : Int32} {σ : ST} (h_σ : Fr [(35, 39)] [(75, 86), (88, 89)] σ0 σ) : FrP [(35, 39)] [(75, 86), (88, 89)] σ0 (fX12_middle_0b37 t0 σ) := by
  unfold fX12_middle_0b37
  exact h_σ
theorem fb_fX12_middle_0b36 {σ0 : ST}  {l3 : Int32} {σ : ST} (h_σ : Fr [(35, 39)] [(75, 86), (88, 89)] σ0 σ) : FrP [(35, 39)] [(75, 86), (88, 89)] σ0 (fX12_middle_0b36 l3 σ) := by
  unfold fX12_middle_0b36
  exact fb_fX12_middle_0b37  h_σ
theorem fb_fX12_middle_0b23 {σ0 : ST}  {l1 : Int32} {l2 : Int32} {σ : ST} (h_σ : Fr [(35, 39)] [(75, 86), (88, 89)] σ0 σ) : FrP [(35, 39)] [(75, 86), (88, 89)] σ0 (fX12_middle_0b23 l1 l2 σ) := by
  unfold fX12_middle_0b23
  refine bdF2 fun v29 _ => ?_
  refine bdF2 fun v31 _ => ?_
  refine bdF2 fun v32 _ => ?_
  exact fb_fX12_middle_0b37  h_σ
theorem fb_fX12_middle_0b18 {σ0 : ST}  {l1 : Int32} {l2 : Int32} {t0 : Int32} {σ : ST} (h_σ : Fr [(35, 39)] [(75, 86), (88, 89)] σ0 σ) : FrP [(35, 39)] [(75, 86), (88, 89)] σ0 (fX12_middle_0b18 l1 l2 t0 σ) := by
  unfold fX12_middle_0b18
  exact iteF2 (fb_fX12_middle_0b23  h_σ) (fb_fX12_middle_0b36  h_σ)
theorem fb_fX12_middle_0b17 {σ0 : ST}  {l1 : Int32} {l2 : Int32} {σ : ST} (h_σ : Fr [(35, 39)] [(75, 86), (88, 89)] σ0 σ) : FrP [(35, 39)] [(75, 86), (88, 89)] σ0 (fX12_middle_0b17 l1 l2 σ) := by
  unfold fX12_middle_0b17
  exact fb_fX12_middle_0b18  h_σ
theorem fb_fX12_middle_0b9 {σ0 : ST}  {l1 : Int32} {l2 : Int32} {σ : ST} (h_σ : Fr [(35, 39)] [(75, 86), (88, 89)] σ0 σ) : FrP [(35, 39)] [(75, 86), (88, 89)] σ0 (fX12_middle_0b9 l1 l2 σ) := by
  unfold fX12_middle_0b9
  refine bpF2 fun v11 s11 e_s11 => ?_
  have h_s11 : Fr [(35, 39)] [(75, 86), (88, 89)] σ0 s11 := by rw [← e_s11]; exact h_σ.call fr_fX12_wrong_0 rfl rfl
  exact fb_fX12_middle_0b18  h_s11
theorem fb_fX12_middle_0b0 {σ0 : ST}  {l1 : Int32} {l2 : Int32} {σ : ST} (h_σ : Fr [(35, 39)] [(75, 86), (88, 89)] σ0 σ) : FrP [(35, 39)] [(75, 86), (88, 89)] σ0 (fX12_middle_0b0 l1 l2 σ) := by
  unfold fX12_middle_0b0
  refine bdF2 fun v3 _ => ?_
  exact iteF2 (fb_fX12_middle_0b17  h_σ) (fb_fX12_middle_0b9  h_σ)
theorem fr_fX12_middle_0 {p1 : Int32} {p2 : Int32} {σ : ST} : Fr [(35, 39)] [(75, 86), (88, 89)] σ (fX12_middle_0 p1 p2 σ).2 := fb_fX12_middle_0b0 (Fr.refl σ)
theorem fb_fX12_twice_0b21 {σ0 : ST}  {σ : ST} (h_σ : Fr [(35, 39)] [(75, 86), (88, 89)] σ0 σ) : FrP [(35, 39)] [(75, 86), (88, 89)] σ0 (fX12_twice_0b21 σ) := by
  unfold fX12_twice_0b21
  exact h_σ
theorem fb_fX12_twice_0b287 {σ0 : ST}  {t0 : Int32} {σ : ST} (h_σ : Fr [(35, 39)] [(75, 86), (88, 89)] σ0 σ) : FrP [(35, 39)] [(75, 86), (88, 89)] σ0 (fX12_twice_0b287 t0 σ) := by
  unfold fX12_twice_0b287
  exact h_σ
theorem fb_fX12_twice_0b285 {σ0 : ST}  {l5 : Int32} {σ : ST} (h_σ : Fr [(35, 39)] [(75, 86), (88, 89)] σ0 σ) : FrP [(35, 39)] [(75, 86), (88, 89)] σ0 (fX12_twice_0b285 l5 σ) := by
  unfold fX12_twice_0b285
  exact fb_fX12_twice_0b287  h_σ
theorem fb_fX12_twice_0b280 {σ0 : ST}  {l4 : Int32} {σ : ST} (h_σ : Fr [(35, 39)] [(75, 86), (88, 89)] σ0 σ) : FrP [(35, 39)] [(75, 86), (88, 89)] σ0 (fX12_twice_0b280 l4 σ) := by
  unfold fX12_twice_0b280
  exact fb_fX12_twice_0b287  h_σ
theorem fb_fX12_twice_0b276 {σ0 : ST}  {l2 : Int32} {l4 : Int32} {l5 : Int32} {σ : ST} (h_σ : Fr [(35, 39)] [(75, 86), (88, 89)] σ0 σ) : FrP [(35, 39)] [(75, 86), (88, 89)] σ0 (fX12_twice_0b276 l2 l4 l5 σ) := by
  unfold fX12_twice_0b276
  exact iteF2 (fb_fX12_twice_0b280  h_σ) (fb_fX12_twice_0b285  h_σ)
theorem fb_fX12_twice_0b270 {σ0 : ST} {K124 : Int32 → Int32 → Int32 → Int32 → Int32 → Int32 → Int32 → ST → (Int32 × ST)} (hK124 : ∀ (q0 : Int32) (q1 : Int32) (q2 : Int32) (q3 : Int32) (q4 : Int32) (q5 : Int32) (q6 : Int32) (τ : ST), Fr [(35, 39)] [(75, 86), (88, 89)] σ0 τ → FrP [(35, 39)] [(75, 86), (88, 89)] σ0 (K124 q0 q1 q2 q3 q4 q5 q6 τ)) {l1 : Int32} {l2 : Int32} {l4 : Int32} {l5 : Int32} {l6 : Int32} {l7 : Int32} {l8 : Int32} {σ : ST} (h_σ : Fr [(35, 39)] [(75, 86), (88, 89)] σ0 σ) : FrP [(35, 39)] [(75, 86), (88, 89)] σ0 (fX12_twice_0b270 K124 l1 l2 l4 l5 l6 l7 l8 σ) := by
  unfold fX12_twice_0b270
  refine bdF2 fun v270 _ => ?_
  exact hK124 _ _ _ _ _ _ _ _ h_σ
theorem fb_fX12_twice_0b264 {σ0 : ST} {K124 : Int32 → Int32 → Int32 → Int32 → Int32 → Int32 → Int32 → ST → (Int32 × ST)} (hK124 : ∀ (q0 : Int32) (q1 : Int32) (q2 : Int32) (q3 : Int32) (q4 : Int32) (q5 : Int32) (q6 : Int32) (τ : ST), Fr [(35, 39)] [(75, 86), (88, 89)] σ0 τ → FrP [(35, 39)] [(75, 86), (88, 89)] σ0 (K124 q0 q1 q2 q3 q4 q5 q6 τ)) {K137 : Int32 → Int32 → Int32 → Int32 → Int32 → Int32 → Int32 → Int32 → ST → (Int32 × ST)} (hK137 : ∀ (q0 : Int32) (q1 : Int32) (q2 : Int32) (q3 : Int32) (q4 : Int32) (q5 : Int32) (q6 : Int32) (q7 : Int32) (τ : ST), Fr [(35, 39)] [(75, 86), (88, 89)] σ0 τ → FrP [(35, 39)] [(75, 86), (88, 89)] σ0 (K137 q0 q1 q2 q3 q4 q5 q6 q7 τ)) {l1 : Int32} {l2 : Int32} {l4 : Int32} {l5 : Int32} {l6 : Int32} {l7 : Int32} {l8 : Int32} {l9 : Int32} {σ : ST} (h_σ : Fr [(35, 39)] [(75, 86), (88, 89)] σ0 σ) : FrP [(35, 39)] [(75, 86), (88, 89)] σ0 (fX12_twice_0b264 K124 K137 l1 l2 l4 l5 l6 l7 l8 l9 σ) := by
  unfold fX12_twice_0b264
  refine bdF2 fun v264 _ => ?_
  exact hK137 _ _ _ _ _ _ _ _ _ h_σ
theorem fb_fX12_twice_0b252 {σ0 : ST} {K124 : Int32 → Int32 → Int32 → Int32 → Int32 → Int32 → Int32 → ST → (Int32 × ST)} (hK124 : ∀ (q0 : Int32) (q1 : Int32) (q2 : Int32) (q3 : Int32) (q4 : Int32) (q5 : Int32) (q6 : Int32) (τ : ST), Fr [(35, 39)] [(75, 86), (88, 89)] σ0 τ → FrP [(35, 39)] [(75, 86), (88, 89)] σ0 (K124 q0 q1 q2 q3 q4 q5 q6 τ)) {K137 : Int32 → Int32 → Int32 → Int32 → Int32 → Int32 → Int32 → Int32 → ST → (Int32 × ST)} (hK137 : ∀ (q0 : Int32) (q1 : Int32) (q2 : Int32) (q3 : Int32) (q4 : Int32) (q5 : Int32) (q6 : Int32) (q7 : Int32) (τ : ST), Fr [(35, 39)] [(75, 86), (88, 89)] σ0 τ → FrP [(35, 39)] [(75, 86), (88, 89)] σ0 (K137 q0 q1 q2 q3 q4 q5 q6 q7 τ)) {l1 : Int32} {l2 : Int32} {l7 : Int32} {l8 : Int32} {l9 : Int32} {l10 : Int32} {σ : ST} (h_σ : Fr [(35, 39)] [(75, 86), (88, 89)] σ0 σ) : FrP [(35, 39)] [(75, 86), (88, 89)] σ0 (fX12_twice_0b252 K124 K137 l1 l2 l7 l8 l9 l10 σ) := by
  unfold fX12_twice_0b252
  exact fb_fX12_twice_0b264 hK124 hK137 h_σ
theorem fb_fX12_twice_0b245 {σ0 : ST} {K124 : Int32 → Int32 → Int32 → Int32 → Int32 → Int32 → Int32 → ST → (Int32 × ST)} (hK124 : ∀ (q0 : Int32) (q1 : Int32) (q2 : Int32) (q3 : Int32) (q4 : Int32) (q5 : Int32) (q6 : Int32) (τ : ST), Fr [(35, 39)] [(75, 86), (88, 89)] σ0 τ → FrP [(35, 39)] [(75, 86), (88, 89)] σ0 (K124 q0 q1 q2 q3 q4 q5 q6 τ)) {K137 : Int32 → Int32 → Int32 → Int32 → Int32 → Int32 → Int32 → Int32 → ST → (Int32 × ST)} (hK137 : ∀ (q0 : Int32) (q1 : Int32) (q2 : Int32) (q3 : Int32) (q4 : Int32) (q5 : Int32) (q6 : Int32) (q7 : Int32) (τ : ST), Fr [(35, 39)] [(75, 86), (88, 89)] σ0 τ → FrP [(35, 39)] [(75, 86), (88, 89)] σ0 (K137 q0 q1 q2 q3 q4 q5 q6 q7 τ)) {l1 : Int32} {l2 : Int32} {l4 : Int32} {l5 : Int32} {l6 : Int32} {l7 : Int32} {l8 : Int32} {l9 : Int32} {l10 : Int32} {σ : ST} (h_σ : Fr [(35, 39)] [(75, 86), (88, 89)] σ0 σ) : FrP [(35, 39)] [(75, 86), (88, 89)] σ0 (fX12_twice_0b245 K124 K137 l1 l2 l4 l5 l6 l7 l8 l9 l10 σ) := by
  unfold fX12_twice_0b245
  exact iteF2 (fb_fX12_twice_0b264 hK124 hK137 h_σ) (fb_fX12_twice_0b252 hK124 hK137 h_σ)
theorem fb_fX12_twice_0b234 {σ0 : ST} {K124 : Int32 → Int32 → Int32 → Int32 → Int32 → Int32 → Int32 → ST → (Int32 × ST)} (hK124 : ∀ (q0 : Int32) (q1 : Int32) (q2 : Int32) (q3 : Int32) (q4 : Int32) (q5 : Int32) (q6 : Int32) (τ : ST), Fr [(35, 39)] [(75, 86), (88, 89)] σ0 τ → FrP [(35, 39)] [(75, 86), (88, 89)] σ0 (K124 q0 q1 q2 q3 q4 q5 q6 τ)) {K137 : Int32 → Int32 → Int32 → Int32 → Int32 → Int32 → Int32 → Int32 → ST → (Int32 × ST)} (hK137 : ∀ (q0 : Int32) (q1 : Int32) (q2 : Int32) (q3 : Int32) (q4 : Int32) (q5 : Int32) (q6 : Int32) (q7 : Int32) (τ : ST), Fr [(35, 39)] [(75, 86), (88, 89)] σ0 τ → FrP [(35, 39)] [(75, 86), (88, 89)] σ0 (K137 q0 q1 q2 q3 q4 q5 q6 q7 τ)) {l1 : Int32} {l2 : Int32} {l4 : Int32} {l5 : Int32} {l6 : Int32} {l7 : Int32} {l8 : Int32} {l9 : Int32} {l10 : Int32} {σ : ST} (h_σ : Fr [(35, 39)] [(75, 86), (88, 89)] σ0 σ) : FrP [(35, 39)] [(75, 86), (88, 89)] σ0 (fX12_twice_0b234 K124 K137 l1 l2 l4 l5 l6 l7 l8 l9 l10 σ) := by
  unfold fX12_twice_0b234
  refine bdF2 fun v241 _ => ?_
  exact iteF2 (fb_fX12_twice_0b264 hK124 hK137 h_σ) (fb_fX12_twice_0b245 hK124 hK137 h_σ)
theorem fb_fX12_twice_0b223 {σ0 : ST} {K124 : Int32 → Int32 → Int32 → Int32 → Int32 → Int32 → Int32 → ST → (Int32 × ST)} (hK124 : ∀ (q0 : Int32) (q1 : Int32) (q2 : Int32) (q3 : Int32) (q4 : Int32) (q5 : Int32) (q6 : Int32) (τ : ST), Fr [(35, 39)] [(75, 86), (88, 89)] σ0 τ → FrP [(35, 39)] [(75, 86), (88, 89)] σ0 (K124 q0 q1 q2 q3 q4 q5 q6 τ)) {K137 : Int32 → Int32 → Int32 → Int32 → Int32 → Int32 → Int32 → Int32 → ST → (Int32 × ST)} (hK137 : ∀ (q0 : Int32) (q1 : Int32) (q2 : Int32) (q3 : Int32) (q4 : Int32) (q5 : Int32) (q6 : Int32) (q7 : Int32) (τ : ST), Fr [(35, 39)] [(75, 86), (88, 89)] σ0 τ → FrP [(35, 39)] [(75, 86), (88, 89)] σ0 (K137 q0 q1 q2 q3 q4 q5 q6 q7 τ)) {l1 : Int32} {l2 : Int32} {l4 : Int32} {l5 : Int32} {l6 : Int32} {l7 : Int32} {l8 : Int32} {l9 : Int32} {l10 : Int32} {σ : ST} (h_σ : Fr [(35, 39)] [(75, 86), (88, 89)] σ0 σ) : FrP [(35, 39)] [(75, 86), (88, 89)] σ0 (fX12_twice_0b223 K124 K137 l1 l2 l4 l5 l6 l7 l8 l9 l10 σ) := by
  unfold fX12_twice_0b223
  refine bdF2 fun v230 _ => ?_
  exact iteF2 (fb_fX12_twice_0b264 hK124 hK137 h_σ) (fb_fX12_twice_0b234 hK124 hK137 h_σ)
theorem fb_fX12_twice_0b210 {σ0 : ST} {K124 : Int32 → Int32 → Int32 → Int32 → Int32 → Int32 → Int32 → ST → (Int32 × ST)} (hK124 : ∀ (q0 : Int32) (q1 : Int32) (q2 : Int32) (q3 : Int32) (q4 : Int32) (q5 : Int32) (q6 : Int32) (τ : ST), Fr [(35, 39)] [(75, 86), (88, 89)] σ0 τ → FrP [(35, 39)] [(75, 86), (88, 89)] σ0 (K124 q0 q1 q2 q3 q4 q5 q6 τ)) {K137 : Int32 → Int32 → Int32 → Int32 → Int32 → Int32 → Int32 → Int32 → ST → (Int32 × ST)} (hK137 : ∀ (q0 : Int32) (q1 : Int32) (q2 : Int32) (q3 : Int32) (q4 : Int32) (q5 : Int32) (q6 : Int32) (q7 : Int32) (τ : ST), Fr [(35, 39)] [(75, 86), (88, 89)] σ0 τ → FrP [(35, 39)] [(75, 86), (88, 89)] σ0 (K137 q0 q1 q2 q3 q4 q5 q6 q7 τ)) {K150 : Int32 → Int32 → Int32 → Int32 → Int32 → Int32 → Int32 → Int32 → Int32 → Int32 → ST → (Int32 × ST)} (hK150 : ∀ (q0 : Int32) (q1 : Int32) (q2 : Int32) (q3 : Int32) (q4 : Int32) (q5 : Int32) (q6 : Int32) (q7 : Int32) (q8 : Int32) (q9 : Int32) (τ : ST), Fr [(35, 39)] [(75, 86), (88, 89)] σ0 τ → FrP [(35, 39)] [(75, 86), (88, 89)] σ0 (K150 q0 q1 q2 q3 q4 q5 q6 q7 q8 q9 τ)) {l1 : Int32} {l2 : Int32} {l4 : Int32} {l5 : Int32} {l6 : Int32} {l7 : Int32} {l8 : Int32} {l9 : Int32} {l11 : Int32} {t0 : Int32} {t1 : Int32} {t2 : Int32} {σ : ST} (h_σ : Fr [(35, 39)] [(75, 86), (88, 89)] σ0 σ) : FrP [(35, 39)] [(75, 86), (88, 89)] σ0 (fX12_twice_0b210 K124 K137 K150 l1 l2 l4 l5 l6 l7 l8 l9 l11 t0 t1 t2 σ) := by
  unfold fX12_twice_0b210
  refine bdF2 fun v210 _ => ?_
  refine bdF2 fun v211 _ => ?_
  refine bdF2 fun v214 _ => ?_
  refine bdF2 fun v217 _ => ?_
  exact hK150 _ _ _ _ _ _ _ _ _ _ _ h_σ
theorem fb_fX12_twice_0b208 {σ0 : ST} {K124 : Int32 → Int32 → Int32 → Int32 → Int32 → Int32 → Int32 → ST → (Int32 × ST)} (hK124 : ∀ (q0 : Int32) (q1 : Int32) (q2 : Int32) (q3 : Int32) (q4 : Int32) (q5 : Int32) (q6 : Int32) (τ : ST), Fr [(35, 39)] [(75, 86), (88, 89)] σ0 τ → FrP [(35, 39)] [(75, 86), (88, 89)] σ0 (K124 q0 q1 q2 q3 q4 q5 q6 τ)) {K137 : Int32 → Int32 → Int32 → Int32 → Int32 → Int32 → Int32 → Int32 → ST → (Int32 × ST)} (hK137 : ∀ (q0 : Int32) (q1 : Int32) (q2 : Int32) (q3 : Int32) (q4 : Int32) (q5 : Int32) (q6 : Int32) (q7 : Int32) (τ : ST), Fr [(35, 39)] [(75, 86), (88, 89)] σ0 τ → FrP [(35, 39)] [(75, 86), (88, 89)] σ0 (K137 q0 q1 q2 q3 q4 q5 q6 q7 τ)) {K150 : Int32 → Int32 → Int32 → Int32 → Int32 → Int32 → Int32 → Int32 → Int32 → Int32 → ST → (Int32 × ST)} (hK150 : ∀ (q0 : Int32) (q1 : Int32) (q2 : Int32) (q3 : Int32) (q4 : Int32) (q5 : Int32) (q6 : Int32) (q7 : Int32) (q8 : Int32) (q9 : Int32) (τ : ST), Fr [(35, 39)] [(75, 86), (88, 89)] σ0 τ → FrP [(35, 39)] [(75, 86), (88, 89)] σ0 (K150 q0 q1 q2 q3 q4 q5 q6 q7 q8 q9 τ)) {l1 : Int32} {l2 : Int32} {l4 : Int32} {l5 : Int32} {l6 : Int32} {l7 : Int32} {l8 : Int32} {l9 : Int32} {l11 : Int32} {l12 : Int32} {t0 : Int32} {t1 : Int32} {σ : ST} (h_σ : Fr [(35, 39)] [(75, 86), (88, 89)] σ0 σ) : FrP [(35, 39)] [(75, 86), (88, 89)] σ0 (fX12_twice_0b208 K124 K137 K150 l1 l2 l4 l5 l6 l7 l8 l9 l11 l12 t0 t1 σ) := by
  unfold fX12_twice_0b208
  exact fb_fX12_twice_0b210 hK124 hK137 hK150 h_σ
theorem fb_fX12_twice_0b203 {σ0 : ST} {K124 : Int32 → Int32 → Int32 → Int32 → Int32 → Int32 → Int32 → ST → (Int32 × ST)} (hK124 : ∀ (q0 : Int32) (q1 : Int32) (q2 : Int32) (q3 : Int32) (q4 : Int32) (q5 : Int32) (q6 : Int32) (τ : ST), Fr [(35, 39)] [(75, 86), (88, 89)] σ0 τ → FrP [(35, 39)] [(75, 86), (88, 89)] σ0 (K124 q0 q1 q2 q3 q4 q5 q6 τ)) {K137 : Int32 → Int32 → Int32 → Int32 → Int32 → Int32 → Int32 → Int32 → ST → (Int32 × ST)} (hK137 : ∀ (q0 : Int32) (q1 : Int32) (q2 : Int32) (q3 : Int32) (q4 : Int32) (q5 : Int32) (q6 : Int32) (q7 : Int32) (τ : ST), Fr [(35, 39)] [(75, 86), (88, 89)] σ0 τ → FrP [(35, 39)] [(75, 86), (88, 89)] σ0 (K137 q0 q1 q2 q3 q4 q5 q6 q7 τ)) {K150 : Int32 → Int32 → Int32 → Int32 → Int32 → Int32 → Int32 → Int32 → Int32 → Int32 → ST → (Int32 × ST)} (hK150 : ∀ (q0 : Int32) (q1 : Int32) (q2 : Int32) (q3 : Int32) (q4 : Int32) (q5 : Int32) (q6 : Int32) (q7 : Int32) (q8 : Int32) (q9 : Int32) (τ : ST), Fr [(35, 39)] [(75, 86), (88, 89)] σ0 τ → FrP [(35, 39)] [(75, 86), (88, 89)] σ0 (K150 q0 q1 q2 q3 q4 q5 q6 q7 q8 q9 τ)) {l1 : Int32} {l2 : Int32} {l4 : Int32} {l5 : Int32} {l6 : Int32} {l7 : Int32} {l8 : Int32} {l9 : Int32} {l11 : Int32} {t0 : Int32} {t1 : Int32} {σ : ST} (h_σ : Fr [(35, 39)] [(75, 86), (88, 89)] σ0 σ) : FrP [(35, 39)] [(75, 86), (88, 89)] σ0 (fX12_twice_0b203 K124 K137 K150 l1 l2 l4 l5 l6 l7 l8 l9 l11 t0 t1 σ) := by
  unfold fX12_twice_0b203
  exact fb_fX12_twice_0b210 hK124 hK137 hK150 h_σ
theorem fb_fX12_twice_0b156 {σ0 : ST} {K124 : Int32 → Int32 → Int32 → Int32 → Int32 → Int32 → Int32 → ST → (Int32 × ST)} (hK124 : ∀ (q0 : Int32) (q1 : Int32) (q2 : Int32) (q3 : Int32) (q4 : Int32) (q5 : Int32) (q6 : Int32) (τ : ST), Fr [(35, 39)] [(75, 86), (88, 89)] σ0 τ → FrP [(35, 39)] [(75, 86), (88, 89)] σ0 (K124 q0 q1 q2 q3 q4 q5 q6 τ)) {K137 : Int32 → Int32 → Int32 → Int32 → Int32 → Int32 → Int32 → Int32 → ST → (Int32 × ST)} (hK137 : ∀ (q0 : Int32) (q1 : Int32) (q2 : Int32) (q3 : Int32) (q4 : Int32) (q5 : Int32) (q6 : Int32) (q7 : Int32) (τ : ST), Fr [(35, 39)] [(75, 86), (88, 89)] σ0 τ → FrP [(35, 39)] [(75, 86), (88, 89)] σ0 (K137 q0 q1 q2 q3 q4 q5 q6 q7 τ)) {K150 : Int32 → Int32 → Int32 → Int32 → Int32 → Int32 → Int32 → Int32 → Int32 → Int32 → ST → (Int32 × ST)} (hK150 : ∀ (q0 : Int32) (q1 : Int32) (q2 : Int32) (q3 : Int32) (q4 : Int32) (q5 : Int32) (q6 : Int32) (q7 : Int32) (q8 : Int32) (q9 : Int32) (τ : ST), Fr [(35, 39)] [(75, 86), (88, 89)] σ0 τ → FrP [(35, 39)] [(75, 86), (88, 89)] σ0 (K150 q0 q1 q2 q3 q4 q5 q6 q7 q8 q9 τ)) {l1 : Int32} {l2 : Int32} {l4 : Int32} {l5 : Int32} {l6 : Int32} {l7 : Int32} {l8 : Int32} {l9 : Int32} {l10 : Int32} {l11 : Int32} {σ : ST} (h_σ : Fr [(35, 39)] [(75, 86), (88, 89)] σ0 σ) : FrP [(35, 39)] [(75, 86), (88, 89)] σ0 (fX12_twice_0b156 K124 K137 K150 l1 l2 l4 l5 l6 l7 l8 l9 l10 l11 σ) := by
  unfold fX12_twice_0b156
  refine bdF2 fun v163 _ => ?_
  refine bdF2 fun v166 _ => ?_
  refine bdF2 fun v167 _ => ?_
  refine bdF2 fun v175 _ => ?_
  refine bdF2 fun v178 _ => ?_
  refine bdF2 fun v179 _ => ?_
  refine bdF2 fun v180 _ => ?_
  refine bdF2 fun v191 _ => ?_
  refine bdF2 fun v194 _ => ?_
  refine bdF2 fun v195 _ => ?_
  exact iteF2 (fb_fX12_twice_0b208 hK124 hK137 hK150 h_σ) (fb_fX12_twice_0b203 hK124 hK137 hK150 h_σ)
theorem fb_fX12_twice_0b150 {σ0 : ST} {K124 : Int32 → Int32 → Int32 → Int32 → Int32 → Int32 → Int32 → ST → (Int32 × ST)} (hK124 : ∀ (q0 : Int32) (q1 : Int32) (q2 : Int32) (q3 : Int32) (q4 : Int32) (q5 : Int32) (q6 : Int32) (τ : ST), Fr [(35, 39)] [(75, 86), (88, 89)] σ0 τ → FrP [(35, 39)] [(75, 86), (88, 89)] σ0 (K124 q0 q1 q2 q3 q4 q5 q6 τ)) {K137 : Int32 → Int32 → Int32 → Int32 → Int32 → Int32 → Int32 → Int32 → ST → (Int32 × ST)} (hK137 : ∀ (q0 : Int32) (q1 : Int32) (q2 : Int32) (q3 : Int32) (q4 : Int32) (q5 : Int32) (q6 : Int32) (q7 : Int32) (τ : ST), Fr [(35, 39)] [(75, 86), (88, 89)] σ0 τ → FrP [(35, 39)] [(75, 86), (88, 89)] σ0 (K137 q0 q1 q2 q3 q4 q5 q6 q7 τ)) {K150 : Int32 → Int32 → Int32 → Int32 → Int32 → Int32 → Int32 → Int32 → Int32 → Int32 → ST → (Int32 × ST)} (hK150 : ∀ (q0 : Int32) (q1 : Int32) (q2 : Int32) (q3 : Int32) (q4 : Int32) (q5 : Int32) (q6 : Int32) (q7 : Int32) (q8 : Int32) (q9 : Int32) (τ : ST), Fr [(35, 39)] [(75, 86), (88, 89)] σ0 τ → FrP [(35, 39)] [(75, 86), (88, 89)] σ0 (K150 q0 q1 q2 q3 q4 q5 q6 q7 q8 q9 τ)) {l1 : Int32} {l2 : Int32} {l4 : Int32} {l5 : Int32} {l6 : Int32} {l7 : Int32} {l8 : Int32} {l9 : Int32} {l10 : Int32} {l11 : Int32} {σ : ST} (h_σ : Fr [(35, 39)] [(75, 86), (88, 89)] σ0 σ) : FrP [(35, 39)] [(75, 86), (88, 89)] σ0 (fX12_twice_0b150 K124 K137 K150 l1 l2 l4 l5 l6 l7 l8 l9 l10 l11 σ) := by
  unfold fX12_twice_0b150
  exact iteF2 (fb_fX12_twice_0b223 hK124 hK137 h_σ) (fb_fX12_twice_0b156 hK124 hK137 hK150 h_σ)
theorem fb_fX12_twice_0l150 {σ0 : ST} {K124 : Int32 → Int32 → Int32 → Int32 → Int32 → Int32 → Int32 → ST → (Int32 × ST)} (hK124 : ∀ (q0 : Int32) (q1 : Int32) (q2 : Int32) (q3 : Int32) (q4 : Int32) (q5 : Int32) (q6 : Int32) (τ : ST), Fr [(35, 39)] [(75, 86), (88, 89)] σ0 τ → FrP [(35, 39)] [(75, 86), (88, 89)] σ0 (K124 q0 q1 q2 q3 q4 q5 q6 τ)) {K137 : Int32 → Int32 → Int32 → Int32 → Int32 → Int32 → Int32 → Int32 → ST → (Int32 × ST)} (hK137 : ∀ (q0 : Int32) (q1 : Int32) (q2 : Int32) (q3 : Int32) (q4 : Int32) (q5 : Int32) (q6 : Int32) (q7 : Int32) (τ : ST), Fr [(35, 39)] [(75, 86), (88, 89)] σ0 τ → FrP [(35, 39)] [(75, 86), (88, 89)] σ0 (K137 q0 q1 q2 q3 q4 q5 q6 q7 τ)) : ∀ (fu : Nat) {q0 : Int32} {q1 : Int32} {q2 : Int32} {q3 : Int32} {q4 : Int32} {q5 : Int32} {q6 : Int32} {q7 : Int32} {q8 : Int32} {q9 : Int32} {τ : ST} (h : Fr [(35, 39)] [(75, 86), (88, 89)] σ0 τ), FrP [(35, 39)] [(75, 86), (88, 89)] σ0 (fX12_twice_0l150 K124 K137 fu q0 q1 q2 q3 q4 q5 q6 q7 q8 q9 τ)
  | 0, _, _, _, _, _, _, _, _, _, _, _, h => h
  | fu + 1, _, _, _, _, _, _, _, _, _, _, _, h => fb_fX12_twice_0b150 hK124 hK137 (fun _ _ _ _ _ _ _ _ _ _ _ q => fb_fX12_twice_0l150 hK124 hK137 fu q) h
theorem fb_fX12_twice_0b144 {σ0 : ST} {K124 : Int32 → Int32 → Int32 → Int32 → Int32 → Int32 → Int32 → ST → (Int32 × ST)} (hK124 : ∀ (q0 : Int32) (q1 : Int32) (q2 : Int32) (q3 : Int32) (q4 : Int32) (q5 : Int32) (q6 : Int32) (τ : ST), Fr [(35, 39)] [(75, 86), (88, 89)] σ0 τ → FrP [(35, 39)] [(75, 86), (88, 89)] σ0 (K124 q0 q1 q2 q3 q4 q5 q6 τ)) {K137 : Int32 → Int32 → Int32 → Int32 → Int32 → Int32 → Int32 → Int32 → ST → (Int32 × ST)} (hK137 : ∀ (q0 : Int32) (q1 : Int32) (q2 : Int32) (q3 : Int32) (q4 : Int32) (q5 : Int32) (q6 : Int32) (q7 : Int32) (τ : ST), Fr [(35, 39)] [(75, 86), (88, 89)] σ0 τ → FrP [(35, 39)] [(75, 86), (88, 89)] σ0 (K137 q0 q1 q2 q3 q4 q5 q6 q7 τ)) {l1 : Int32} {l2 : Int32} {l4 : Int32} {l5 : Int32} {l6 : Int32} {l7 : Int32} {l8 : Int32} {l9 : Int32} {σ : ST} (h_σ : Fr [(35, 39)] [(75, 86), (88, 89)] σ0 σ) : FrP [(35, 39)] [(75, 86), (88, 89)] σ0 (fX12_twice_0b144 K124 K137 l1 l2 l4 l5 l6 l7 l8 l9 σ) := by
  unfold fX12_twice_0b144
  exact fb_fX12_twice_0l150 hK124 hK137 _ h_σ
theorem fb_fX12_twice_0b137 {σ0 : ST} {K124 : Int32 → Int32 → Int32 → Int32 → Int32 → Int32 → Int32 → ST → (Int32 × ST)} (hK124 : ∀ (q0 : Int32) (q1 : Int32) (q2 : Int32) (q3 : Int32) (q4 : Int32) (q5 : Int32) (q6 : Int32) (τ : ST), Fr [(35, 39)] [(75, 86), (88, 89)] σ0 τ → FrP [(35, 39)] [(75, 86), (88, 89)] σ0 (K124 q0 q1 q2 q3 q4 q5 q6 τ)) {K137 : Int32 → Int32 → Int32 → Int32 → Int32 → Int32 → Int32 → Int32 → ST → (Int32 × ST)} (hK137 : ∀ (q0 : Int32) (q1 : Int32) (q2 : Int32) (q3 : Int32) (q4 : Int32) (q5 : Int32) (q6 : Int32) (q7 : Int32) (τ : ST), Fr [(35, 39)] [(75, 86), (88, 89)] σ0 τ → FrP [(35, 39)] [(75, 86), (88, 89)] σ0 (K137 q0 q1 q2 q3 q4 q5 q6 q7 τ)) {l1 : Int32} {l2 : Int32} {l4 : Int32} {l5 : Int32} {l6 : Int32} {l7 : Int32} {l8 : Int32} {l9 : Int32} {σ : ST} (h_σ : Fr [(35, 39)] [(75, 86), (88, 89)] σ0 σ) : FrP [(35, 39)] [(75, 86), (88, 89)] σ0 (fX12_twice_0b137 K124 K137 l1 l2 l4 l5 l6 l7 l8 l9 σ) := by
  unfold fX12_twice_0b137
  exact iteF2 (fb_fX12_twice_0b270 hK124 h_σ) (fb_fX12_twice_0b144 hK124 hK137 h_σ)
theorem fb_fX12_twice_0l137 {σ0 : ST} {K124 : Int32 → Int32 → Int32 → Int32 → Int32 → Int32 → Int32 → ST → (Int32 × ST)} (hK124 : ∀ (q0 : Int32) (q1 : Int32) (q2 : Int32) (q3 : Int32) (q4 : Int32) (q5 : Int32) (q6 : Int32) (τ : ST), Fr [(35, 39)] [(75, 86), (88, 89)] σ0 τ → FrP [(35, 39)] [(75, 86), (88, 89)] σ0 (K124 q0 q1 q2 q3 q4 q5 q6 τ)) : ∀ (fu : Nat) {q0 : Int32} {q1 : Int32} {q2 : Int32} {q3 : Int32} {q4 : Int32} {q5 : Int32} {q6 : Int32} {q7 : Int32} {τ : ST} (h : Fr [(35, 39)] [(75, 86), (88, 89)] σ0 τ), FrP [(35, 39)] [(75, 86), (88, 89)] σ0 (fX12_twice_0l137 K124 fu q0 q1 q2 q3 q4 q5 q6 q7 τ)
  | 0, _, _, _, _, _, _, _, _, _, h => h
  | fu + 1, _, _, _, _, _, _, _, _, _, h => fb_fX12_twice_0b137 hK124 (fun _ _ _ _ _ _ _ _ _ q => fb_fX12_twice_0l137 hK124 fu q) h
theorem fb_fX12_twice_0b131 {σ0 : ST} {K124 : Int32 → Int32 → Int32 → Int32 → Int32 → Int32 → Int32 → ST → (Int32 × ST)} (hK124 : ∀ (q0 : Int32) (q1 : Int32) (q2 : Int32) (q3 : Int32) (q4 : Int32) (q5 : Int32) (q6 : Int32) (τ : ST), Fr [(35, 39)] [(75, 86), (88, 89)] σ0 τ → FrP [(35, 39)] [(75, 86), (88, 89)] σ0 (K124 q0 q1 q2 q3 q4 q5 q6 τ)) {l1 : Int32} {l2 : Int32} {l4 : Int32} {l5 : Int32} {l6 : Int32} {l7 : Int32} {l8 : Int32} {σ : ST} (h_σ : Fr [(35, 39)] [(75, 86), (88, 89)] σ0 σ) : FrP [(35, 39)] [(75, 86), (88, 89)] σ0 (fX12_twice_0b131 K124 l1 l2 l4 l5 l6 l7 l8 σ) := by
  unfold fX12_twice_0b131
  refine bdF2 fun v134 _ => ?_
  exact fb_fX12_twice_0l137 hK124 _ h_σ
theorem fb_fX12_twice_0b124 {σ0 : ST} {K124 : Int32 → Int32 → Int32 → Int32 → Int32 → Int32 → Int32 → ST → (Int32 × ST)} (hK124 : ∀ (q0 : Int32) (q1 : Int32) (q2 : Int32) (q3 : Int32) (q4 : Int32) (q5 : Int32) (q6 : Int32) (τ : ST), Fr [(35, 39)] [(75, 86), (88, 89)] σ0 τ → FrP [(35, 39)] [(75, 86), (88, 89)] σ0 (K124 q0 q1 q2 q3 q4 q5 q6 τ)) {l1 : Int32} {l2 : Int32} {l4 : Int32} {l5 : Int32} {l6 : Int32} {l7 : Int32} {l8 : Int32} {σ : ST} (h_σ : Fr [(35, 39)] [(75, 86), (88, 89)] σ0 σ) : FrP [(35, 39)] [(75, 86), (88, 89)] σ0 (fX12_twice_0b124 K124 l1 l2 l4 l5 l6 l7 l8 σ) := by
  unfold fX12_twice_0b124
  exact iteF2 (fb_fX12_twice_0b276  h_σ) (fb_fX12_twice_0b131 hK124 h_σ)
theorem fb_fX12_twice_0l124 {σ0 : ST}  : ∀ (fu : Nat) {q0 : Int32} {q1 : Int32} {q2 : Int32} {q3 : Int32} {q4 : Int32} {q5 : Int32} {q6 : Int32} {τ : ST} (h : Fr [(35, 39)] [(75, 86), (88, 89)] σ0 τ), FrP [(35, 39)] [(75, 86), (88, 89)] σ0 (fX12_twice_0l124 fu q0 q1 q2 q3 q4 q5 q6 τ)
  | 0, _, _, _, _, _, _, _, _, h => h
  | fu + 1, _, _, _, _, _, _, _, _, h => fb_fX12_twice_0b124 (fun _ _ _ _ _ _ _ _ q => fb_fX12_twice_0l124  fu q) h
theorem fb_fX12_twice_0b88 {σ0 : ST}  {l1 : Int32} {l2 : Int32} {l3 : Int32} {σ : ST} (h_σ : Fr [(35, 39)] [(75, 86), (88, 89)] σ0 σ) : FrP [(35, 39)] [(75, 86), (88, 89)] σ0 (fX12_twice_0b88 l1 l2 l3 σ) := by
  unfold fX12_twice_0b88
  refine bdF2 fun v102 _ => ?_
  refine bdF2 fun v103 _ => ?_
  refine bdF2 fun v105 _ => ?_
  refine bdF2 fun v113 _ => ?_
  refine bdF2 fun v116 _ => ?_
  exact fb_fX12_twice_0l124  _ h_σ
theorem fb_fX12_twice_0b48 {σ0 : ST} {K42 : Int32 → Int32 → Int32 → Int32 → ST → (Int32 × ST)} (hK42 : ∀ (q0 : Int32) (q1 : Int32) (q2 : Int32) (q3 : Int32) (τ : ST), Fr [(35, 39)] [(75, 86), (88, 89)] σ0 τ → FrP [(35, 39)] [(75, 86), (88, 89)] σ0 (K42 q0 q1 q2 q3 τ)) {l1 : Int32} {l2 : Int32} {l3 : Int32} {l4 : Int32} {σ : ST} (h_σ : Fr [(35, 39)] [(75, 86), (88, 89)] σ0 σ) : FrP [(35, 39)] [(75, 86), (88, 89)] σ0 (fX12_twice_0b48 K42 l1 l2 l3 l4 σ) := by
  unfold fX12_twice_0b48
  refine bdF2 fun v55 _ => ?_
  refine bdF2 fun v58 _ => ?_
  refine bdF2 fun v59 _ => ?_
  refine bdF2 fun v70 _ => ?_
  refine bdF2 fun v71 _ => ?_
  refine bdF2 fun v74 _ => ?_
  refine bdF2 fun v75 _ => ?_
  refine bdF2 fun v76 _ => ?_
  refine bdF2 fun v77 _ => ?_
  refine bdF2 fun v80 _ => ?_
  refine bdF2 fun v82 _ => ?_
  exact hK42 _ _ _ _ _ h_σ
theorem fb_fX12_twice_0b42 {σ0 : ST} {K42 : Int32 → Int32 → Int32 → Int32 → ST → (Int32 × ST)} (hK42 : ∀ (q0 : Int32) (q1 : Int32) (q2 : Int32) (q3 : Int32) (τ : ST), Fr [(35, 39)] [(75, 86), (88, 89)] σ0 τ → FrP [(35, 39)] [(75, 86), (88, 89)] σ0 (K42 q0 q1 q2 q3 τ)) {l1 : Int32} {l2 : Int32} {l3 : Int32} {l4 : Int32} {σ : ST} (h_σ : Fr [(35, 39)] [(75, 86), (88, 89)] σ0 σ) : FrP [(35, 39)] [(75, 86), (88, 89)] σ0 (fX12_twice_0b42 K42 l1 l2 l3 l4 σ) := by
  unfold fX12_twice_0b42
  exact iteF2 (fb_fX12_twice_0b88  h_σ) (fb_fX12_twice_0b48 hK42 h_σ)
theorem fb_fX12_twice_0l42 {σ0 : ST}  : ∀ (fu : Nat) {q0 : Int32} {q1 : Int32} {q2 : Int32} {q3 : Int32} {τ : ST} (h : Fr [(35, 39)] [(75, 86), (88, 89)] σ0 τ), FrP [(35, 39)] [(75, 86), (88, 89)] σ0 (fX12_twice_0l42 fu q0 q1 q2 q3 τ)
  | 0, _, _, _, _, _, h => h
  | fu + 1, _, _, _, _, _, h => fb_fX12_twice_0b42 (fun _ _ _ _ _ q => fb_fX12_twice_0l42  fu q) h
theorem fb_fX12_twice_0b33 {σ0 : ST}  {l1 : Int32} {l2 : Int32} {σ : ST} (h_σ : Fr [(35, 39)] [(75, 86), (88, 89)] σ0 σ) : FrP [(35, 39)] [(75, 86), (88, 89)] σ0 (fX12_twice_0b33 l1 l2 σ) := by
  unfold fX12_twice_0b33
  refine bdF2 fun s34 e_s34 => ?_
  have h_s34 : Fr [(35, 39)] [(75, 86), (88, 89)] σ0 s34 := by rw [e_s34]; exact h_σ.call fr_fX12_findHeapMiddles_0 rfl rfl
  exact fb_fX12_twice_0l42  _ h_s34
theorem fb_fX12_twice_0b30 {σ0 : ST}  {σ : ST} (h_σ : Fr [(35, 39)] [(75, 86), (88, 89)] σ0 σ) : FrP [(35, 39)] [(75, 86), (88, 89)] σ0 (fX12_twice_0b30 σ) := by
  unfold fX12_twice_0b30
  exact h_σ
theorem fb_fX12_twice_0b23 {σ0 : ST}  {l1 : Int32} {l2 : Int32} {σ : ST} (h_σ : Fr [(35, 39)] [(75, 86), (88, 89)] σ0 σ) : FrP [(35, 39)] [(75, 86), (88, 89)] σ0 (fX12_twice_0b23 l1 l2 σ) := by
  unfold fX12_twice_0b23
  refine bpF2 fun v24 s24 e_s24 => ?_
  have h_s24 : Fr [(35, 39)] [(75, 86), (88, 89)] σ0 s24 := by rw [← e_s24]; exact h_σ.call fr_fX12_findBest_0 rfl rfl
  exact iteF2 (fb_fX12_twice_0b30  h_s24) (fb_fX12_twice_0b33  h_s24)
theorem fb_fX12_twice_0b12 {σ0 : ST}  {l1 : Int32} {l2 : Int32} {σ : ST} (h_σ : Fr [(35, 39)] [(75, 86), (88, 89)] σ0 σ) : FrP [(35, 39)] [(75, 86), (88, 89)] σ0 (fX12_twice_0b12 l1 l2 σ) := by
  unfold fX12_twice_0b12
  refine bdF2 fun v15 _ => ?_
  exact iteF2 (fb_fX12_twice_0b21  h_σ) (fb_fX12_twice_0b23  h_σ)
theorem fb_fX12_twice_0b0 {σ0 : ST}  {l1 : Int32} {l2 : Int32} {σ : ST} (h_σ : Fr [(35, 39)] [(75, 86), (88, 89)] σ0 σ) : FrP [(35, 39)] [(75, 86), (88, 89)] σ0 (fX12_twice_0b0 l1 l2 σ) := by
  unfold fX12_twice_0b0
  refine bdF2 fun s1 e_s1 => ?_
  have h_s1 : Fr [(35, 39)] [(75, 86), (88, 89)] σ0 s1 := by rw [e_s1]; exact h_σ.call fr_fX12_findPieces_0 rfl rfl
  refine bdF2 fun v6 _ => ?_
  exact iteF2 (fb_fX12_twice_0b21  h_s1) (fb_fX12_twice_0b12  h_s1)
theorem fr_fX12_twice_0 {p1 : Int32} {p2 : Int32} {σ : ST} : Fr [(35, 39)] [(75, 86), (88, 89)] σ (fX12_twice_0 p1 p2 σ).2 := fb_fX12_twice_0b0 (Fr.refl σ)
theorem fb_fX12_keep_0b88 {σ0 : ST}  {σ : ST} (h_σ : Fr [(35, 40)] [(75, 86), (88, 91)] σ0 σ) : FrP [(35, 40)] [(75, 86), (88, 91)] σ0 (fX12_keep_0b88 σ) := by
  unfold fX12_keep_0b88
  refine bdF2 fun v90 _ => ?_
  refine bdF2 fun v94 _ => ?_
  refine bdF2 fun s95 e_s95 => ?_
  have h_s95 : Fr [(35, 40)] [(75, 86), (88, 91)] σ0 s95 := by rw [e_s95]; exact h_σ.putI rfl
  refine bdF2 fun v99 _ => ?_
  refine bdF2 fun v103 _ => ?_
  exact h_s95
theorem fb_fX12_keep_0b57 {σ0 : ST} {K51 : Int32 → Int32 → ST → (Int32 × ST)} (hK51 : ∀ (q0 : Int32) (q1 : Int32) (τ : ST), Fr [(35, 40)] [(75, 86), (88, 91)] σ0 τ → FrP [(35, 40)] [(75, 86), (88, 91)] σ0 (K51 q0 q1 τ)) {l1 : Int32} {l4 : Int32} {σ : ST} (h_σ : Fr [(35, 40)] [(75, 86), (88, 91)] σ0 σ) : FrP [(35, 40)] [(75, 86), (88, 91)] σ0 (fX12_keep_0b57 K51 l1 l4 σ) := by
  unfold fX12_keep_0b57
  refine bdF2 fun v63 _ => ?_
  refine bdF2 fun v66 _ => ?_
  refine bdF2 fun v69 _ => ?_
  refine bdF2 fun v76 _ => ?_
  refine bdF2 fun v79 _ => ?_
  refine bdF2 fun v80 _ => ?_
  refine bdF2 fun s81 e_s81 => ?_
  have h_s81 : Fr [(35, 40)] [(75, 86), (88, 91)] σ0 s81 := by rw [e_s81]; exact h_σ.putA rfl
  refine bdF2 fun v82 _ => ?_
  exact hK51 _ _ _ h_s81
theorem fb_fX12_keep_0b51 {σ0 : ST} {K51 : Int32 → Int32 → ST → (Int32 × ST)} (hK51 : ∀ (q0 : Int32) (q1 : Int32) (τ : ST), Fr [(35, 40)] [(75, 86), (88, 91)] σ0 τ → FrP [(35, 40)] [(75, 86), (88, 91)] σ0 (K51 q0 q1 τ)) {l1 : Int32} {l4 : Int32} {σ : ST} (h_σ : Fr [(35, 40)] [(75, 86), (88, 91)] σ0 σ) : FrP [(35, 40)] [(75, 86), (88, 91)] σ0 (fX12_keep_0b51 K51 l1 l4 σ) := by
  unfold fX12_keep_0b51
  exact iteF2 (fb_fX12_keep_0b88  h_σ) (fb_fX12_keep_0b57 hK51 h_σ)
theorem fb_fX12_keep_0l51 {σ0 : ST}  : ∀ (fu : Nat) {q0 : Int32} {q1 : Int32} {τ : ST} (h : Fr [(35, 40)] [(75, 86), (88, 91)] σ0 τ), FrP [(35, 40)] [(75, 86), (88, 91)] σ0 (fX12_keep_0l51 fu q0 q1 τ)
  | 0, _, _, _, h => h
  | fu + 1, _, _, _, h => fb_fX12_keep_0b51 (fun _ _ _ q => fb_fX12_keep_0l51  fu q) h
theorem fb_fX12_keep_0b38 {σ0 : ST}  {l1 : Int32} {l2 : Int32} {σ : ST} (h_σ : Fr [(35, 40)] [(75, 86), (88, 91)] σ0 σ) : FrP [(35, 40)] [(75, 86), (88, 91)] σ0 (fX12_keep_0b38 l1 l2 σ) := by
  unfold fX12_keep_0b38
  refine bdF2 fun v43 _ => ?_
  refine bdF2 fun s47 e_s47 => ?_
  have h_s47 : Fr [(35, 40)] [(75, 86), (88, 91)] σ0 s47 := by rw [e_s47]; exact h_σ.putA rfl
  exact fb_fX12_keep_0l51  _ h_s47
theorem fb_fX12_keep_0b35 {σ0 : ST}  {σ : ST} (h_σ : Fr [(35, 40)] [(75, 86), (88, 91)] σ0 σ) : FrP [(35, 40)] [(75, 86), (88, 91)] σ0 (fX12_keep_0b35 σ) := by
  unfold fX12_keep_0b35
  exact h_σ
theorem fb_fX12_keep_0b26 {σ0 : ST}  {l1 : Int32} {l2 : Int32} {σ : ST} (h_σ : Fr [(35, 40)] [(75, 86), (88, 91)] σ0 σ) : FrP [(35, 40)] [(75, 86), (88, 91)] σ0 (fX12_keep_0b26 l1 l2 σ) := by
  unfold fX12_keep_0b26
  refine bdF2 fun v27 _ => ?_
  exact iteF2 (fb_fX12_keep_0b35  h_σ) (fb_fX12_keep_0b38  h_σ)
theorem fb_fX12_keep_0b24 {σ0 : ST}  {l3 : Int32} {σ : ST} (h_σ : Fr [(35, 40)] [(75, 86), (88, 91)] σ0 σ) : FrP [(35, 40)] [(75, 86), (88, 91)] σ0 (fX12_keep_0b24 l3 σ) := by
  unfold fX12_keep_0b24
  exact h_σ
theorem fb_fX12_keep_0b19 {σ0 : ST}  {l1 : Int32} {l2 : Int32} {t0 : Int32} {σ : ST} (h_σ : Fr [(35, 40)] [(75, 86), (88, 91)] σ0 σ) : FrP [(35, 40)] [(75, 86), (88, 91)] σ0 (fX12_keep_0b19 l1 l2 t0 σ) := by
  unfold fX12_keep_0b19
  exact iteF2 (fb_fX12_keep_0b26  h_σ) (fb_fX12_keep_0b24  h_σ)
theorem fb_fX12_keep_0b18 {σ0 : ST}  {l1 : Int32} {l2 : Int32} {σ : ST} (h_σ : Fr [(35, 40)] [(75, 86), (88, 91)] σ0 σ) : FrP [(35, 40)] [(75, 86), (88, 91)] σ0 (fX12_keep_0b18 l1 l2 σ) := by
  unfold fX12_keep_0b18
  exact fb_fX12_keep_0b19  h_σ
theorem fb_fX12_keep_0b10 {σ0 : ST}  {l1 : Int32} {l2 : Int32} {σ : ST} (h_σ : Fr [(35, 40)] [(75, 86), (88, 91)] σ0 σ) : FrP [(35, 40)] [(75, 86), (88, 91)] σ0 (fX12_keep_0b10 l1 l2 σ) := by
  unfold fX12_keep_0b10
  refine bpF2 fun v12 s12 e_s12 => ?_
  have h_s12 : Fr [(35, 40)] [(75, 86), (88, 91)] σ0 s12 := by rw [← e_s12]; exact h_σ.call fr_fX12_wrong_0 rfl rfl
  exact fb_fX12_keep_0b19  h_s12
theorem fb_fX12_keep_0b0 {σ0 : ST}  {l1 : Int32} {l2 : Int32} {σ : ST} (h_σ : Fr [(35, 40)] [(75, 86), (88, 91)] σ0 σ) : FrP [(35, 40)] [(75, 86), (88, 91)] σ0 (fX12_keep_0b0 l1 l2 σ) := by
  unfold fX12_keep_0b0
  refine bdF2 fun v4 _ => ?_
  exact iteF2 (fb_fX12_keep_0b18  h_σ) (fb_fX12_keep_0b10  h_σ)
theorem fr_fX12_keep_0 {p1 : Int32} {p2 : Int32} {σ : ST} : Fr [(35, 40)] [(75, 86), (88, 91)] σ (fX12_keep_0 p1 p2 σ).2 := fb_fX12_keep_0b0 (Fr.refl σ)
theorem fb_fX12_forget_0b102 {σ0 : ST}  {l2 : Int32} {σ : ST} (h_σ : Fr [(40, 40)] [(90, 91)] σ0 σ) : FrP [(40, 40)] [(90, 91)] σ0 (fX12_forget_0b102 l2 σ) := by
  unfold fX12_forget_0b102
  exact h_σ
theorem fb_fX12_forget_0b96 {σ0 : ST} {K35 : Int32 → Int32 → ST → (Int32 × ST)} (hK35 : ∀ (q0 : Int32) (q1 : Int32) (τ : ST), Fr [(40, 40)] [(90, 91)] σ0 τ → FrP [(40, 40)] [(90, 91)] σ0 (K35 q0 q1 τ)) {l2 : Int32} {l3 : Int32} {σ : ST} (h_σ : Fr [(40, 40)] [(90, 91)] σ0 σ) : FrP [(40, 40)] [(90, 91)] σ0 (fX12_forget_0b96 K35 l2 l3 σ) := by
  unfold fX12_forget_0b96
  refine bdF2 fun v96 _ => ?_
  exact hK35 _ _ _ h_σ
theorem fb_fX12_forget_0b66 {σ0 : ST} {K35 : Int32 → Int32 → ST → (Int32 × ST)} (hK35 : ∀ (q0 : Int32) (q1 : Int32) (τ : ST), Fr [(40, 40)] [(90, 91)] σ0 τ → FrP [(40, 40)] [(90, 91)] σ0 (K35 q0 q1 τ)) {K60 : Int32 → Int32 → Int32 → ST → (Int32 × ST)} (hK60 : ∀ (q0 : Int32) (q1 : Int32) (q2 : Int32) (τ : ST), Fr [(40, 40)] [(90, 91)] σ0 τ → FrP [(40, 40)] [(90, 91)] σ0 (K60 q0 q1 q2 τ)) {l2 : Int32} {l3 : Int32} {l4 : Int32} {σ : ST} (h_σ : Fr [(40, 40)] [(90, 91)] σ0 σ) : FrP [(40, 40)] [(90, 91)] σ0 (fX12_forget_0b66 K35 K60 l2 l3 l4 σ) := by
  unfold fX12_forget_0b66
  refine bdF2 fun v72 _ => ?_
  refine bdF2 fun v75 _ => ?_
  refine bdF2 fun v82 _ => ?_
  refine bdF2 fun v84 _ => ?_
  refine bdF2 fun v87 _ => ?_
  refine bdF2 fun v88 _ => ?_
  refine bdF2 fun s89 e_s89 => ?_
  have h_s89 : Fr [(40, 40)] [(90, 91)] σ0 s89 := by rw [e_s89]; exact h_σ.putA rfl
  refine bdF2 fun v90 _ => ?_
  exact hK60 _ _ _ _ h_s89
theorem fb_fX12_forget_0b60 {σ0 : ST} {K35 : Int32 → Int32 → ST → (Int32 × ST)} (hK35 : ∀ (q0 : Int32) (q1 : Int32) (τ : ST), Fr [(40, 40)] [(90, 91)] σ0 τ → FrP [(40, 40)] [(90, 91)] σ0 (K35 q0 q1 τ)) {K60 : Int32 → Int32 → Int32 → ST → (Int32 × ST)} (hK60 : ∀ (q0 : Int32) (q1 : Int32) (q2 : Int32) (τ : ST), Fr [(40, 40)] [(90, 91)] σ0 τ → FrP [(40, 40)] [(90, 91)] σ0 (K60 q0 q1 q2 τ)) {l2 : Int32} {l3 : Int32} {l4 : Int32} {σ : ST} (h_σ : Fr [(40, 40)] [(90, 91)] σ0 σ) : FrP [(40, 40)] [(90, 91)] σ0 (fX12_forget_0b60 K35 K60 l2 l3 l4 σ) := by
  unfold fX12_forget_0b60
  exact iteF2 (fb_fX12_forget_0b96 hK35 h_σ) (fb_fX12_forget_0b66 hK35 hK60 h_σ)
theorem fb_fX12_forget_0l60 {σ0 : ST} {K35 : Int32 → Int32 → ST → (Int32 × ST)} (hK35 : ∀ (q0 : Int32) (q1 : Int32) (τ : ST), Fr [(40, 40)] [(90, 91)] σ0 τ → FrP [(40, 40)] [(90, 91)] σ0 (K35 q0 q1 τ)) : ∀ (fu : Nat) {q0 : Int32} {q1 : Int32} {q2 : Int32} {τ : ST} (h : Fr [(40, 40)] [(90, 91)] σ0 τ), FrP [(40, 40)] [(90, 91)] σ0 (fX12_forget_0l60 K35 fu q0 q1 q2 τ)
  | 0, _, _, _, _, h => h
  | fu + 1, _, _, _, _, h => fb_fX12_forget_0b60 hK35 (fun _ _ _ _ q => fb_fX12_forget_0l60 hK35 fu q) h
theorem fb_fX12_forget_0b43 {σ0 : ST} {K35 : Int32 → Int32 → ST → (Int32 × ST)} (hK35 : ∀ (q0 : Int32) (q1 : Int32) (τ : ST), Fr [(40, 40)] [(90, 91)] σ0 τ → FrP [(40, 40)] [(90, 91)] σ0 (K35 q0 q1 τ)) {l2 : Int32} {l3 : Int32} {σ : ST} (h_σ : Fr [(40, 40)] [(90, 91)] σ0 σ) : FrP [(40, 40)] [(90, 91)] σ0 (fX12_forget_0b43 K35 l2 l3 σ) := by
  unfold fX12_forget_0b43
  refine bdF2 fun v54 _ => ?_
  refine bdF2 fun v55 _ => ?_
  refine bdF2 fun s56 e_s56 => ?_
  have h_s56 : Fr [(40, 40)] [(90, 91)] σ0 s56 := by rw [e_s56]; exact h_σ.putA rfl
  exact fb_fX12_forget_0l60 hK35 _ h_s56
theorem fb_fX12_forget_0b35 {σ0 : ST} {K35 : Int32 → Int32 → ST → (Int32 × ST)} (hK35 : ∀ (q0 : Int32) (q1 : Int32) (τ : ST), Fr [(40, 40)] [(90, 91)] σ0 τ → FrP [(40, 40)] [(90, 91)] σ0 (K35 q0 q1 τ)) {l2 : Int32} {l3 : Int32} {σ : ST} (h_σ : Fr [(40, 40)] [(90, 91)] σ0 σ) : FrP [(40, 40)] [(90, 91)] σ0 (fX12_forget_0b35 K35 l2 l3 σ) := by
  unfold fX12_forget_0b35
  refine bdF2 fun v37 _ => ?_
  exact iteF2 (fb_fX12_forget_0b102  h_σ) (fb_fX12_forget_0b43 hK35 h_σ)
theorem fb_fX12_forget_0l35 {σ0 : ST}  : ∀ (fu : Nat) {q0 : Int32} {q1 : Int32} {τ : ST} (h : Fr [(40, 40)] [(90, 91)] σ0 τ), FrP [(40, 40)] [(90, 91)] σ0 (fX12_forget_0l35 fu q0 q1 τ)
  | 0, _, _, _, h => h
  | fu + 1, _, _, _, h => fb_fX12_forget_0b35 (fun _ _ _ q => fb_fX12_forget_0l35  fu q) h
theorem fb_fX12_forget_0b16 {σ0 : ST}  {l1 : Int32} {σ : ST} (h_σ : Fr [(40, 40)] [(90, 91)] σ0 σ) : FrP [(40, 40)] [(90, 91)] σ0 (fX12_forget_0b16 l1 σ) := by
  unfold fX12_forget_0b16
  refine bdF2 fun v21 _ => ?_
  refine bdF2 fun v25 _ => ?_
  refine bdF2 fun v29 _ => ?_
  refine bdF2 fun s30 e_s30 => ?_
  have h_s30 : Fr [(40, 40)] [(90, 91)] σ0 s30 := by rw [e_s30]; exact h_σ.putI rfl
  exact fb_fX12_forget_0l35  _ h_s30
theorem fb_fX12_forget_0b14 {σ0 : ST}  {σ : ST} (h_σ : Fr [(40, 40)] [(90, 91)] σ0 σ) : FrP [(40, 40)] [(90, 91)] σ0 (fX12_forget_0b14 σ) := by
  unfold fX12_forget_0b14
  exact h_σ
theorem fb_fX12_forget_0b0 {σ0 : ST}  {l1 : Int32} {σ : ST} (h_σ : Fr [(40, 40)] [(90, 91)] σ0 σ) : FrP [(40, 40)] [(90, 91)] σ0 (fX12_forget_0b0 l1 σ) := by
  unfold fX12_forget_0b0
  refine bdF2 fun v3 _ => ?_
  refine bdF2 fun v7 _ => ?_
  refine bdF2 fun v8 _ => ?_
  exact iteF2 (fb_fX12_forget_0b14  h_σ) (fb_fX12_forget_0b16  h_σ)
theorem fr_fX12_forget_0 {p1 : Int32} {σ : ST} : Fr [(40, 40)] [(90, 91)] σ (fX12_forget_0 p1 σ).2 := fb_fX12_forget_0b0 (Fr.refl σ)
theorem fb_fX12_back_0b163 {σ0 : ST}  {t0 : Int32} {σ : ST} (h_σ : Fr [(35, 39)] [(75, 86), (88, 89)] σ0 σ) : FrP [(35, 39)] [(75, 86), (88, 89)] σ0 (fX12_back_0b163 t0 σ) := by
  unfold fX12_back_0b163
  exact h_σ
theorem fb_fX12_back_0b151 {σ0 : ST}  {l4 : Int32} {σ : ST} (h_σ : Fr [(35, 39)] [(75, 86), (88, 89)] σ0 σ) : FrP [(35, 39)] [(75, 86), (88, 89)] σ0 (fX12_back_0b151 l4 σ) := by
  unfold fX12_back_0b151
  exact fb_fX12_back_0b163  h_σ
theorem fb_fX12_back_0b156 {σ0 : ST}  {l4 : Int32} {σ : ST} (h_σ : Fr [(35, 39)] [(75, 86), (88, 89)] σ0 σ) : FrP [(35, 39)] [(75, 86), (88, 89)] σ0 (fX12_back_0b156 l4 σ) := by
  unfold fX12_back_0b156
  refine bdF2 fun v162 _ => ?_
  exact fb_fX12_back_0b163  h_σ
theorem fb_fX12_back_0b146 {σ0 : ST}  {l2 : Int32} {l4 : Int32} {σ : ST} (h_σ : Fr [(35, 39)] [(75, 86), (88, 89)] σ0 σ) : FrP [(35, 39)] [(75, 86), (88, 89)] σ0 (fX12_back_0b146 l2 l4 σ) := by
  unfold fX12_back_0b146
  exact iteF2 (fb_fX12_back_0b151  h_σ) (fb_fX12_back_0b156  h_σ)
theorem fb_fX12_back_0b139 {σ0 : ST}  {l2 : Int32} {l4 : Int32} {σ : ST} (h_σ : Fr [(35, 39)] [(75, 86), (88, 89)] σ0 σ) : FrP [(35, 39)] [(75, 86), (88, 89)] σ0 (fX12_back_0b139 l2 l4 σ) := by
  unfold fX12_back_0b139
  exact iteF2 (fb_fX12_back_0b151  h_σ) (fb_fX12_back_0b146  h_σ)
theorem fb_fX12_back_0b131 {σ0 : ST} {K42 : Int32 → Int32 → Int32 → Int32 → Int32 → ST → (Int32 × ST)} (hK42 : ∀ (q0 : Int32) (q1 : Int32) (q2 : Int32) (q3 : Int32) (q4 : Int32) (τ : ST), Fr [(35, 39)] [(75, 86), (88, 89)] σ0 τ → FrP [(35, 39)] [(75, 86), (88, 89)] σ0 (K42 q0 q1 q2 q3 q4 τ)) {l1 : Int32} {l2 : Int32} {l4 : Int32} {l6 : Int32} {t0 : Int32} {σ : ST} (h_σ : Fr [(35, 39)] [(75, 86), (88, 89)] σ0 σ) : FrP [(35, 39)] [(75, 86), (88, 89)] σ0 (fX12_back_0b131 K42 l1 l2 l4 l6 t0 σ) := by
  unfold fX12_back_0b131
  refine bdF2 fun v133 _ => ?_
  exact hK42 _ _ _ _ _ _ h_σ
theorem fb_fX12_back_0b129 {σ0 : ST} {K42 : Int32 → Int32 → Int32 → Int32 → Int32 → ST → (Int32 × ST)} (hK42 : ∀ (q0 : Int32) (q1 : Int32) (q2 : Int32) (q3 : Int32) (q4 : Int32) (τ : ST), Fr [(35, 39)] [(75, 86), (88, 89)] σ0 τ → FrP [(35, 39)] [(75, 86), (88, 89)] σ0 (K42 q0 q1 q2 q3 q4 τ)) {l1 : Int32} {l2 : Int32} {l4 : Int32} {l5 : Int32} {l6 : Int32} {σ : ST} (h_σ : Fr [(35, 39)] [(75, 86), (88, 89)] σ0 σ) : FrP [(35, 39)] [(75, 86), (88, 89)] σ0 (fX12_back_0b129 K42 l1 l2 l4 l5 l6 σ) := by
  unfold fX12_back_0b129
  exact fb_fX12_back_0b131 hK42 h_σ
theorem fb_fX12_back_0b124 {σ0 : ST} {K42 : Int32 → Int32 → Int32 → Int32 → Int32 → ST → (Int32 × ST)} (hK42 : ∀ (q0 : Int32) (q1 : Int32) (q2 : Int32) (q3 : Int32) (q4 : Int32) (τ : ST), Fr [(35, 39)] [(75, 86), (88, 89)] σ0 τ → FrP [(35, 39)] [(75, 86), (88, 89)] σ0 (K42 q0 q1 q2 q3 q4 τ)) {l1 : Int32} {l2 : Int32} {l4 : Int32} {l6 : Int32} {l7 : Int32} {σ : ST} (h_σ : Fr [(35, 39)] [(75, 86), (88, 89)] σ0 σ) : FrP [(35, 39)] [(75, 86), (88, 89)] σ0 (fX12_back_0b124 K42 l1 l2 l4 l6 l7 σ) := by
  unfold fX12_back_0b124
  exact fb_fX12_back_0b131 hK42 h_σ
theorem fb_fX12_back_0b115 {σ0 : ST} {K42 : Int32 → Int32 → Int32 → Int32 → Int32 → ST → (Int32 × ST)} (hK42 : ∀ (q0 : Int32) (q1 : Int32) (q2 : Int32) (q3 : Int32) (q4 : Int32) (τ : ST), Fr [(35, 39)] [(75, 86), (88, 89)] σ0 τ → FrP [(35, 39)] [(75, 86), (88, 89)] σ0 (K42 q0 q1 q2 q3 q4 τ)) {l1 : Int32} {l2 : Int32} {l5 : Int32} {l6 : Int32} {l7 : Int32} {t0 : Int32} {σ : ST} (h_σ : Fr [(35, 39)] [(75, 86), (88, 89)] σ0 σ) : FrP [(35, 39)] [(75, 86), (88, 89)] σ0 (fX12_back_0b115 K42 l1 l2 l5 l6 l7 t0 σ) := by
  unfold fX12_back_0b115
  exact iteF2 (fb_fX12_back_0b129 hK42 h_σ) (fb_fX12_back_0b124 hK42 h_σ)
theorem fb_fX12_back_0b113 {σ0 : ST} {K42 : Int32 → Int32 → Int32 → Int32 → Int32 → ST → (Int32 × ST)} (hK42 : ∀ (q0 : Int32) (q1 : Int32) (q2 : Int32) (q3 : Int32) (q4 : Int32) (τ : ST), Fr [(35, 39)] [(75, 86), (88, 89)] σ0 τ → FrP [(35, 39)] [(75, 86), (88, 89)] σ0 (K42 q0 q1 q2 q3 q4 τ)) {l1 : Int32} {l2 : Int32} {l4 : Int32} {l5 : Int32} {l6 : Int32} {l7 : Int32} {σ : ST} (h_σ : Fr [(35, 39)] [(75, 86), (88, 89)] σ0 σ) : FrP [(35, 39)] [(75, 86), (88, 89)] σ0 (fX12_back_0b113 K42 l1 l2 l4 l5 l6 l7 σ) := by
  unfold fX12_back_0b113
  exact fb_fX12_back_0b115 hK42 h_σ
theorem fb_fX12_back_0b108 {σ0 : ST} {K42 : Int32 → Int32 → Int32 → Int32 → Int32 → ST → (Int32 × ST)} (hK42 : ∀ (q0 : Int32) (q1 : Int32) (q2 : Int32) (q3 : Int32) (q4 : Int32) (τ : ST), Fr [(35, 39)] [(75, 86), (88, 89)] σ0 τ → FrP [(35, 39)] [(75, 86), (88, 89)] σ0 (K42 q0 q1 q2 q3 q4 τ)) {l1 : Int32} {l2 : Int32} {l5 : Int32} {l6 : Int32} {l7 : Int32} {σ : ST} (h_σ : Fr [(35, 39)] [(75, 86), (88, 89)] σ0 σ) : FrP [(35, 39)] [(75, 86), (88, 89)] σ0 (fX12_back_0b108 K42 l1 l2 l5 l6 l7 σ) := by
  unfold fX12_back_0b108
  exact fb_fX12_back_0b115 hK42 h_σ
theorem fb_fX12_back_0b101 {σ0 : ST} {K42 : Int32 → Int32 → Int32 → Int32 → Int32 → ST → (Int32 × ST)} (hK42 : ∀ (q0 : Int32) (q1 : Int32) (q2 : Int32) (q3 : Int32) (q4 : Int32) (τ : ST), Fr [(35, 39)] [(75, 86), (88, 89)] σ0 τ → FrP [(35, 39)] [(75, 86), (88, 89)] σ0 (K42 q0 q1 q2 q3 q4 τ)) {l1 : Int32} {l2 : Int32} {l4 : Int32} {l5 : Int32} {l6 : Int32} {l7 : Int32} {σ : ST} (h_σ : Fr [(35, 39)] [(75, 86), (88, 89)] σ0 σ) : FrP [(35, 39)] [(75, 86), (88, 89)] σ0 (fX12_back_0b101 K42 l1 l2 l4 l5 l6 l7 σ) := by
  unfold fX12_back_0b101
  exact iteF2 (fb_fX12_back_0b113 hK42 h_σ) (fb_fX12_back_0b108 hK42 h_σ)
theorem fb_fX12_back_0b63 {σ0 : ST} {K42 : Int32 → Int32 → Int32 → Int32 → Int32 → ST → (Int32 × ST)} (hK42 : ∀ (q0 : Int32) (q1 : Int32) (q2 : Int32) (q3 : Int32) (q4 : Int32) (τ : ST), Fr [(35, 39)] [(75, 86), (88, 89)] σ0 τ → FrP [(35, 39)] [(75, 86), (88, 89)] σ0 (K42 q0 q1 q2 q3 q4 τ)) {K57 : Int32 → Int32 → Int32 → Int32 → Int32 → Int32 → Int32 → ST → (Int32 × ST)} (hK57 : ∀ (q0 : Int32) (q1 : Int32) (q2 : Int32) (q3 : Int32) (q4 : Int32) (q5 : Int32) (q6 : Int32) (τ : ST), Fr [(35, 39)] [(75, 86), (88, 89)] σ0 τ → FrP [(35, 39)] [(75, 86), (88, 89)] σ0 (K57 q0 q1 q2 q3 q4 q5 q6 τ)) {l1 : Int32} {l2 : Int32} {l4 : Int32} {l5 : Int32} {l6 : Int32} {l7 : Int32} {l8 : Int32} {σ : ST} (h_σ : Fr [(35, 39)] [(75, 86), (88, 89)] σ0 σ) : FrP [(35, 39)] [(75, 86), (88, 89)] σ0 (fX12_back_0b63 K42 K57 l1 l2 l4 l5 l6 l7 l8 σ) := by
  unfold fX12_back_0b63
  refine bdF2 fun v71 _ => ?_
  refine bdF2 fun v74 _ => ?_
  refine bdF2 fun v75 _ => ?_
  refine bdF2 fun v83 _ => ?_
  refine bdF2 fun v86 _ => ?_
  refine bdF2 fun v87 _ => ?_
  refine bdF2 fun v88 _ => ?_
  refine bdF2 fun v89 _ => ?_
  refine bdF2 fun v92 _ => ?_
  refine bdF2 fun v95 _ => ?_
  exact hK57 _ _ _ _ _ _ _ _ h_σ
theorem fb_fX12_back_0b57 {σ0 : ST} {K42 : Int32 → Int32 → Int32 → Int32 → Int32 → ST → (Int32 × ST)} (hK42 : ∀ (q0 : Int32) (q1 : Int32) (q2 : Int32) (q3 : Int32) (q4 : Int32) (τ : ST), Fr [(35, 39)] [(75, 86), (88, 89)] σ0 τ → FrP [(35, 39)] [(75, 86), (88, 89)] σ0 (K42 q0 q1 q2 q3 q4 τ)) {K57 : Int32 → Int32 → Int32 → Int32 → Int32 → Int32 → Int32 → ST → (Int32 × ST)} (hK57 : ∀ (q0 : Int32) (q1 : Int32) (q2 : Int32) (q3 : Int32) (q4 : Int32) (q5 : Int32) (q6 : Int32) (τ : ST), Fr [(35, 39)] [(75, 86), (88, 89)] σ0 τ → FrP [(35, 39)] [(75, 86), (88, 89)] σ0 (K57 q0 q1 q2 q3 q4 q5 q6 τ)) {l1 : Int32} {l2 : Int32} {l4 : Int32} {l5 : Int32} {l6 : Int32} {l7 : Int32} {l8 : Int32} {σ : ST} (h_σ : Fr [(35, 39)] [(75, 86), (88, 89)] σ0 σ) : FrP [(35, 39)] [(75, 86), (88, 89)] σ0 (fX12_back_0b57 K42 K57 l1 l2 l4 l5 l6 l7 l8 σ) := by
  unfold fX12_back_0b57
  exact iteF2 (fb_fX12_back_0b101 hK42 h_σ) (fb_fX12_back_0b63 hK42 hK57 h_σ)
theorem fb_fX12_back_0l57 {σ0 : ST} {K42 : Int32 → Int32 → Int32 → Int32 → Int32 → ST → (Int32 × ST)} (hK42 : ∀ (q0 : Int32) (q1 : Int32) (q2 : Int32) (q3 : Int32) (q4 : Int32) (τ : ST), Fr [(35, 39)] [(75, 86), (88, 89)] σ0 τ → FrP [(35, 39)] [(75, 86), (88, 89)] σ0 (K42 q0 q1 q2 q3 q4 τ)) : ∀ (fu : Nat) {q0 : Int32} {q1 : Int32} {q2 : Int32} {q3 : Int32} {q4 : Int32} {q5 : Int32} {q6 : Int32} {τ : ST} (h : Fr [(35, 39)] [(75, 86), (88, 89)] σ0 τ), FrP [(35, 39)] [(75, 86), (88, 89)] σ0 (fX12_back_0l57 K42 fu q0 q1 q2 q3 q4 q5 q6 τ)
  | 0, _, _, _, _, _, _, _, _, h => h
  | fu + 1, _, _, _, _, _, _, _, _, h => fb_fX12_back_0b57 hK42 (fun _ _ _ _ _ _ _ _ q => fb_fX12_back_0l57 hK42 fu q) h
theorem fb_fX12_back_0b51 {σ0 : ST} {K42 : Int32 → Int32 → Int32 → Int32 → Int32 → ST → (Int32 × ST)} (hK42 : ∀ (q0 : Int32) (q1 : Int32) (q2 : Int32) (q3 : Int32) (q4 : Int32) (τ : ST), Fr [(35, 39)] [(75, 86), (88, 89)] σ0 τ → FrP [(35, 39)] [(75, 86), (88, 89)] σ0 (K42 q0 q1 q2 q3 q4 τ)) {l1 : Int32} {l2 : Int32} {l4 : Int32} {l5 : Int32} {l6 : Int32} {σ : ST} (h_σ : Fr [(35, 39)] [(75, 86), (88, 89)] σ0 σ) : FrP [(35, 39)] [(75, 86), (88, 89)] σ0 (fX12_back_0b51 K42 l1 l2 l4 l5 l6 σ) := by
  unfold fX12_back_0b51
  exact fb_fX12_back_0l57 hK42 _ h_σ
theorem fb_fX12_back_0b42 {σ0 : ST} {K42 : Int32 → Int32 → Int32 → Int32 → Int32 → ST → (Int32 × ST)} (hK42 : ∀ (q0 : Int32) (q1 : Int32) (q2 : Int32) (q3 : Int32) (q4 : Int32) (τ : ST), Fr [(35, 39)] [(75, 86), (88, 89)] σ0 τ → FrP [(35, 39)] [(75, 86), (88, 89)] σ0 (K42 q0 q1 q2 q3 q4 τ)) {l1 : Int32} {l2 : Int32} {l4 : Int32} {l5 : Int32} {l6 : Int32} {σ : ST} (h_σ : Fr [(35, 39)] [(75, 86), (88, 89)] σ0 σ) : FrP [(35, 39)] [(75, 86), (88, 89)] σ0 (fX12_back_0b42 K42 l1 l2 l4 l5 l6 σ) := by
  unfold fX12_back_0b42
  refine bdF2 fun v45 _ => ?_
  exact iteF2 (fb_fX12_back_0b139  h_σ) (fb_fX12_back_0b51 hK42 h_σ)
theorem fb_fX12_back_0l42 {σ0 : ST}  : ∀ (fu : Nat) {q0 : Int32} {q1 : Int32} {q2 : Int32} {q3 : Int32} {q4 : Int32} {τ : ST} (h : Fr [(35, 39)] [(75, 86), (88, 89)] σ0 τ), FrP [(35, 39)] [(75, 86), (88, 89)] σ0 (fX12_back_0l42 fu q0 q1 q2 q3 q4 τ)
  | 0, _, _, _, _, _, _, h => h
  | fu + 1, _, _, _, _, _, _, h => fb_fX12_back_0b42 (fun _ _ _ _ _ _ q => fb_fX12_back_0l42  fu q) h
theorem fb_fX12_back_0b25 {σ0 : ST}  {l1 : Int32} {l2 : Int32} {σ : ST} (h_σ : Fr [(35, 39)] [(75, 86), (88, 89)] σ0 σ) : FrP [(35, 39)] [(75, 86), (88, 89)] σ0 (fX12_back_0b25 l1 l2 σ) := by
  unfold fX12_back_0b25
  refine bdF2 fun v34 _ => ?_
  refine bdF2 fun v36 _ => ?_
  exact fb_fX12_back_0l42  _ h_σ
theorem fb_fX12_back_0b23 {σ0 : ST}  {l3 : Int32} {σ : ST} (h_σ : Fr [(35, 39)] [(75, 86), (88, 89)] σ0 σ) : FrP [(35, 39)] [(75, 86), (88, 89)] σ0 (fX12_back_0b23 l3 σ) := by
  unfold fX12_back_0b23
  exact h_σ
theorem fb_fX12_back_0b18 {σ0 : ST}  {l1 : Int32} {l2 : Int32} {t0 : Int32} {σ : ST} (h_σ : Fr [(35, 39)] [(75, 86), (88, 89)] σ0 σ) : FrP [(35, 39)] [(75, 86), (88, 89)] σ0 (fX12_back_0b18 l1 l2 t0 σ) := by
  unfold fX12_back_0b18
  exact iteF2 (fb_fX12_back_0b25  h_σ) (fb_fX12_back_0b23  h_σ)
theorem fb_fX12_back_0b17 {σ0 : ST}  {l1 : Int32} {l2 : Int32} {σ : ST} (h_σ : Fr [(35, 39)] [(75, 86), (88, 89)] σ0 σ) : FrP [(35, 39)] [(75, 86), (88, 89)] σ0 (fX12_back_0b17 l1 l2 σ) := by
  unfold fX12_back_0b17
  exact fb_fX12_back_0b18  h_σ
theorem fb_fX12_back_0b9 {σ0 : ST}  {l1 : Int32} {l2 : Int32} {σ : ST} (h_σ : Fr [(35, 39)] [(75, 86), (88, 89)] σ0 σ) : FrP [(35, 39)] [(75, 86), (88, 89)] σ0 (fX12_back_0b9 l1 l2 σ) := by
  unfold fX12_back_0b9
  refine bpF2 fun v11 s11 e_s11 => ?_
  have h_s11 : Fr [(35, 39)] [(75, 86), (88, 89)] σ0 s11 := by rw [← e_s11]; exact h_σ.call fr_fX12_wrong_0 rfl rfl
  exact fb_fX12_back_0b18  h_s11
theorem fb_fX12_back_0b0 {σ0 : ST}  {l1 : Int32} {l2 : Int32} {σ : ST} (h_σ : Fr [(35, 39)] [(75, 86), (88, 89)] σ0 σ) : FrP [(35, 39)] [(75, 86), (88, 89)] σ0 (fX12_back_0b0 l1 l2 σ) := by
  unfold fX12_back_0b0
  refine bdF2 fun v3 _ => ?_
  exact iteF2 (fb_fX12_back_0b17  h_σ) (fb_fX12_back_0b9  h_σ)
theorem fr_fX12_back_0 {p1 : Int32} {p2 : Int32} {σ : ST} : Fr [(35, 39)] [(75, 86), (88, 89)] σ (fX12_back_0 p1 p2 σ).2 := fb_fX12_back_0b0 (Fr.refl σ)
theorem fb_fX12_odds_0b167 {σ0 : ST}  {t0 : Int32} {σ : ST} (h_σ : Fr [(35, 39)] [(75, 86), (88, 89)] σ0 σ) : FrP [(35, 39)] [(75, 86), (88, 89)] σ0 (fX12_odds_0b167 t0 σ) := by
  unfold fX12_odds_0b167
  exact h_σ
theorem fb_fX12_odds_0b165 {σ0 : ST}  {l6 : Int32} {σ : ST} (h_σ : Fr [(35, 39)] [(75, 86), (88, 89)] σ0 σ) : FrP [(35, 39)] [(75, 86), (88, 89)] σ0 (fX12_odds_0b165 l6 σ) := by
  unfold fX12_odds_0b165
  exact fb_fX12_odds_0b167  h_σ
theorem fb_fX12_odds_0b160 {σ0 : ST}  {l7 : Int32} {σ : ST} (h_σ : Fr [(35, 39)] [(75, 86), (88, 89)] σ0 σ) : FrP [(35, 39)] [(75, 86), (88, 89)] σ0 (fX12_odds_0b160 l7 σ) := by
  unfold fX12_odds_0b160
  exact fb_fX12_odds_0b167  h_σ
theorem fb_fX12_odds_0b156 {σ0 : ST}  {l3 : Int32} {l6 : Int32} {l7 : Int32} {σ : ST} (h_σ : Fr [(35, 39)] [(75, 86), (88, 89)] σ0 σ) : FrP [(35, 39)] [(75, 86), (88, 89)] σ0 (fX12_odds_0b156 l3 l6 l7 σ) := by
  unfold fX12_odds_0b156
  exact iteF2 (fb_fX12_odds_0b160  h_σ) (fb_fX12_odds_0b165  h_σ)
theorem fb_fX12_odds_0b150 {σ0 : ST} {K96 : Int32 → Int32 → Int32 → Int32 → Int32 → Int32 → ST → (Int32 × ST)} (hK96 : ∀ (q0 : Int32) (q1 : Int32) (q2 : Int32) (q3 : Int32) (q4 : Int32) (q5 : Int32) (τ : ST), Fr [(35, 39)] [(75, 86), (88, 89)] σ0 τ → FrP [(35, 39)] [(75, 86), (88, 89)] σ0 (K96 q0 q1 q2 q3 q4 q5 τ)) {l2 : Int32} {l3 : Int32} {l5 : Int32} {l6 : Int32} {l7 : Int32} {l8 : Int32} {σ : ST} (h_σ : Fr [(35, 39)] [(75, 86), (88, 89)] σ0 σ) : FrP [(35, 39)] [(75, 86), (88, 89)] σ0 (fX12_odds_0b150 K96 l2 l3 l5 l6 l7 l8 σ) := by
  unfold fX12_odds_0b150
  refine bdF2 fun v150 _ => ?_
  exact hK96 _ _ _ _ _ _ _ h_σ
theorem fb_fX12_odds_0b147 {σ0 : ST} {K96 : Int32 → Int32 → Int32 → Int32 → Int32 → Int32 → ST → (Int32 × ST)} (hK96 : ∀ (q0 : Int32) (q1 : Int32) (q2 : Int32) (q3 : Int32) (q4 : Int32) (q5 : Int32) (τ : ST), Fr [(35, 39)] [(75, 86), (88, 89)] σ0 τ → FrP [(35, 39)] [(75, 86), (88, 89)] σ0 (K96 q0 q1 q2 q3 q4 q5 τ)) {l2 : Int32} {l3 : Int32} {l5 : Int32} {l6 : Int32} {l8 : Int32} {t0 : Int32} {t1 : Int32} {σ : ST} (h_σ : Fr [(35, 39)] [(75, 86), (88, 89)] σ0 σ) : FrP [(35, 39)] [(75, 86), (88, 89)] σ0 (fX12_odds_0b147 K96 l2 l3 l5 l6 l8 t0 t1 σ) := by
  unfold fX12_odds_0b147
  refine bdF2 fun v147 _ => ?_
  exact fb_fX12_odds_0b150 hK96 h_σ
theorem fb_fX12_odds_0b146 {σ0 : ST} {K96 : Int32 → Int32 → Int32 → Int32 → Int32 → Int32 → ST → (Int32 × ST)} (hK96 : ∀ (q0 : Int32) (q1 : Int32) (q2 : Int32) (q3 : Int32) (q4 : Int32) (q5 : Int32) (τ : ST), Fr [(35, 39)] [(75, 86), (88, 89)] σ0 τ → FrP [(35, 39)] [(75, 86), (88, 89)] σ0 (K96 q0 q1 q2 q3 q4 q5 τ)) {l2 : Int32} {l3 : Int32} {l5 : Int32} {l6 : Int32} {l8 : Int32} {t0 : Int32} {σ : ST} (h_σ : Fr [(35, 39)] [(75, 86), (88, 89)] σ0 σ) : FrP [(35, 39)] [(75, 86), (88, 89)] σ0 (fX12_odds_0b146 K96 l2 l3 l5 l6 l8 t0 σ) := by
  unfold fX12_odds_0b146
  exact fb_fX12_odds_0b147 hK96 h_σ
theorem fb_fX12_odds_0b142 {σ0 : ST} {K96 : Int32 → Int32 → Int32 → Int32 → Int32 → Int32 → ST → (Int32 × ST)} (hK96 : ∀ (q0 : Int32) (q1 : Int32) (q2 : Int32) (q3 : Int32) (q4 : Int32) (q5 : Int32) (τ : ST), Fr [(35, 39)] [(75, 86), (88, 89)] σ0 τ → FrP [(35, 39)] [(75, 86), (88, 89)] σ0 (K96 q0 q1 q2 q3 q4 q5 τ)) {l2 : Int32} {l3 : Int32} {l5 : Int32} {l6 : Int32} {l8 : Int32} {t0 : Int32} {σ : ST} (h_σ : Fr [(35, 39)] [(75, 86), (88, 89)] σ0 σ) : FrP [(35, 39)] [(75, 86), (88, 89)] σ0 (fX12_odds_0b142 K96 l2 l3 l5 l6 l8 t0 σ) := by
  unfold fX12_odds_0b142
  exact fb_fX12_odds_0b147 hK96 h_σ
theorem fb_fX12_odds_0b120 {σ0 : ST} {K96 : Int32 → Int32 → Int32 → Int32 → Int32 → Int32 → ST → (Int32 × ST)} (hK96 : ∀ (q0 : Int32) (q1 : Int32) (q2 : Int32) (q3 : Int32) (q4 : Int32) (q5 : Int32) (τ : ST), Fr [(35, 39)] [(75, 86), (88, 89)] σ0 τ → FrP [(35, 39)] [(75, 86), (88, 89)] σ0 (K96 q0 q1 q2 q3 q4 q5 τ)) {l2 : Int32} {l3 : Int32} {l5 : Int32} {l6 : Int32} {l7 : Int32} {l8 : Int32} {σ : ST} (h_σ : Fr [(35, 39)] [(75, 86), (88, 89)] σ0 σ) : FrP [(35, 39)] [(75, 86), (88, 89)] σ0 (fX12_odds_0b120 K96 l2 l3 l5 l6 l7 l8 σ) := by
  unfold fX12_odds_0b120
  refine bdF2 fun v120 _ => ?_
  refine bdF2 fun v129 _ => ?_
  refine bdF2 fun v136 _ => ?_
  exact iteF2 (fb_fX12_odds_0b146 hK96 h_σ) (fb_fX12_odds_0b142 hK96 h_σ)
theorem fb_fX12_odds_0b107 {σ0 : ST} {K96 : Int32 → Int32 → Int32 → Int32 → Int32 → Int32 → ST → (Int32 × ST)} (hK96 : ∀ (q0 : Int32) (q1 : Int32) (q2 : Int32) (q3 : Int32) (q4 : Int32) (q5 : Int32) (τ : ST), Fr [(35, 39)] [(75, 86), (88, 89)] σ0 τ → FrP [(35, 39)] [(75, 86), (88, 89)] σ0 (K96 q0 q1 q2 q3 q4 q5 τ)) {l2 : Int32} {l3 : Int32} {l5 : Int32} {l6 : Int32} {l7 : Int32} {l8 : Int32} {σ : ST} (h_σ : Fr [(35, 39)] [(75, 86), (88, 89)] σ0 σ) : FrP [(35, 39)] [(75, 86), (88, 89)] σ0 (fX12_odds_0b107 K96 l2 l3 l5 l6 l7 l8 σ) := by
  unfold fX12_odds_0b107
  refine bdF2 fun v109 _ => ?_
  refine bdF2 fun v114 _ => ?_
  exact iteF2 (fb_fX12_odds_0b120 hK96 h_σ) (fb_fX12_odds_0b150 hK96 h_σ)
theorem fb_fX12_odds_0b96 {σ0 : ST} {K96 : Int32 → Int32 → Int32 → Int32 → Int32 → Int32 → ST → (Int32 × ST)} (hK96 : ∀ (q0 : Int32) (q1 : Int32) (q2 : Int32) (q3 : Int32) (q4 : Int32) (q5 : Int32) (τ : ST), Fr [(35, 39)] [(75, 86), (88, 89)] σ0 τ → FrP [(35, 39)] [(75, 86), (88, 89)] σ0 (K96 q0 q1 q2 q3 q4 q5 τ)) {l2 : Int32} {l3 : Int32} {l5 : Int32} {l6 : Int32} {l7 : Int32} {l8 : Int32} {σ : ST} (h_σ : Fr [(35, 39)] [(75, 86), (88, 89)] σ0 σ) : FrP [(35, 39)] [(75, 86), (88, 89)] σ0 (fX12_odds_0b96 K96 l2 l3 l5 l6 l7 l8 σ) := by
  unfold fX12_odds_0b96
  refine bdF2 fun v100 _ => ?_
  refine bdF2 fun v103 _ => ?_
  exact iteF2 (fb_fX12_odds_0b156  h_σ) (fb_fX12_odds_0b107 hK96 h_σ)
theorem fb_fX12_odds_0l96 {σ0 : ST}  : ∀ (fu : Nat) {q0 : Int32} {q1 : Int32} {q2 : Int32} {q3 : Int32} {q4 : Int32} {q5 : Int32} {τ : ST} (h : Fr [(35, 39)] [(75, 86), (88, 89)] σ0 τ), FrP [(35, 39)] [(75, 86), (88, 89)] σ0 (fX12_odds_0l96 fu q0 q1 q2 q3 q4 q5 τ)
  | 0, _, _, _, _, _, _, _, h => h
  | fu + 1, _, _, _, _, _, _, _, h => fb_fX12_odds_0b96 (fun _ _ _ _ _ _ _ q => fb_fX12_odds_0l96  fu q) h
theorem fb_fX12_odds_0b87 {σ0 : ST}  {l2 : Int32} {l3 : Int32} {l5 : Int32} {σ : ST} (h_σ : Fr [(35, 39)] [(75, 86), (88, 89)] σ0 σ) : FrP [(35, 39)] [(75, 86), (88, 89)] σ0 (fX12_odds_0b87 l2 l3 l5 σ) := by
  unfold fX12_odds_0b87
  exact fb_fX12_odds_0l96  _ h_σ
theorem fb_fX12_odds_0b78 {σ0 : ST} {K48 : Int32 → Int32 → Int32 → Int32 → Int32 → ST → (Int32 × ST)} (hK48 : ∀ (q0 : Int32) (q1 : Int32) (q2 : Int32) (q3 : Int32) (q4 : Int32) (τ : ST), Fr [(35, 39)] [(75, 86), (88, 89)] σ0 τ → FrP [(35, 39)] [(75, 86), (88, 89)] σ0 (K48 q0 q1 q2 q3 q4 τ)) {l1 : Int32} {l2 : Int32} {l3 : Int32} {l6 : Int32} {t0 : Int32} {t1 : Int32} {σ : ST} (h_σ : Fr [(35, 39)] [(75, 86), (88, 89)] σ0 σ) : FrP [(35, 39)] [(75, 86), (88, 89)] σ0 (fX12_odds_0b78 K48 l1 l2 l3 l6 t0 t1 σ) := by
  unfold fX12_odds_0b78
  refine bdF2 fun v78 _ => ?_
  refine bdF2 fun v81 _ => ?_
  exact hK48 _ _ _ _ _ _ h_σ
theorem fb_fX12_odds_0b77 {σ0 : ST} {K48 : Int32 → Int32 → Int32 → Int32 → Int32 → ST → (Int32 × ST)} (hK48 : ∀ (q0 : Int32) (q1 : Int32) (q2 : Int32) (q3 : Int32) (q4 : Int32) (τ : ST), Fr [(35, 39)] [(75, 86), (88, 89)] σ0 τ → FrP [(35, 39)] [(75, 86), (88, 89)] σ0 (K48 q0 q1 q2 q3 q4 τ)) {l1 : Int32} {l2 : Int32} {l3 : Int32} {l6 : Int32} {t0 : Int32} {σ : ST} (h_σ : Fr [(35, 39)] [(75, 86), (88, 89)] σ0 σ) : FrP [(35, 39)] [(75, 86), (88, 89)] σ0 (fX12_odds_0b77 K48 l1 l2 l3 l6 t0 σ) := by
  unfold fX12_odds_0b77
  exact fb_fX12_odds_0b78 hK48 h_σ
theorem fb_fX12_odds_0b70 {σ0 : ST} {K48 : Int32 → Int32 → Int32 → Int32 → Int32 → ST → (Int32 × ST)} (hK48 : ∀ (q0 : Int32) (q1 : Int32) (q2 : Int32) (q3 : Int32) (q4 : Int32) (τ : ST), Fr [(35, 39)] [(75, 86), (88, 89)] σ0 τ → FrP [(35, 39)] [(75, 86), (88, 89)] σ0 (K48 q0 q1 q2 q3 q4 τ)) {l1 : Int32} {l2 : Int32} {l3 : Int32} {l6 : Int32} {t0 : Int32} {σ : ST} (h_σ : Fr [(35, 39)] [(75, 86), (88, 89)] σ0 σ) : FrP [(35, 39)] [(75, 86), (88, 89)] σ0 (fX12_odds_0b70 K48 l1 l2 l3 l6 t0 σ) := by
  unfold fX12_odds_0b70
  refine bdF2 fun v73 _ => ?_
  exact fb_fX12_odds_0b78 hK48 h_σ
theorem fb_fX12_odds_0b57 {σ0 : ST} {K48 : Int32 → Int32 → Int32 → Int32 → Int32 → ST → (Int32 × ST)} (hK48 : ∀ (q0 : Int32) (q1 : Int32) (q2 : Int32) (q3 : Int32) (q4 : Int32) (τ : ST), Fr [(35, 39)] [(75, 86), (88, 89)] σ0 τ → FrP [(35, 39)] [(75, 86), (88, 89)] σ0 (K48 q0 q1 q2 q3 q4 τ)) {l1 : Int32} {l2 : Int32} {l3 : Int32} {l5 : Int32} {l6 : Int32} {σ : ST} (h_σ : Fr [(35, 39)] [(75, 86), (88, 89)] σ0 σ) : FrP [(35, 39)] [(75, 86), (88, 89)] σ0 (fX12_odds_0b57 K48 l1 l2 l3 l5 l6 σ) := by
  unfold fX12_odds_0b57
  refine bdF2 fun v65 _ => ?_
  exact iteF2 (fb_fX12_odds_0b70 hK48 h_σ) (fb_fX12_odds_0b77 hK48 h_σ)
theorem fb_fX12_odds_0b48 {σ0 : ST} {K48 : Int32 → Int32 → Int32 → Int32 → Int32 → ST → (Int32 × ST)} (hK48 : ∀ (q0 : Int32) (q1 : Int32) (q2 : Int32) (q3 : Int32) (q4 : Int32) (τ : ST), Fr [(35, 39)] [(75, 86), (88, 89)] σ0 τ → FrP [(35, 39)] [(75, 86), (88, 89)] σ0 (K48 q0 q1 q2 q3 q4 τ)) {l1 : Int32} {l2 : Int32} {l3 : Int32} {l5 : Int32} {l6 : Int32} {σ : ST} (h_σ : Fr [(35, 39)] [(75, 86), (88, 89)] σ0 σ) : FrP [(35, 39)] [(75, 86), (88, 89)] σ0 (fX12_odds_0b48 K48 l1 l2 l3 l5 l6 σ) := by
  unfold fX12_odds_0b48
  refine bdF2 fun v51 _ => ?_
  exact iteF2 (fb_fX12_odds_0b87  h_σ) (fb_fX12_odds_0b57 hK48 h_σ)
theorem fb_fX12_odds_0l48 {σ0 : ST}  : ∀ (fu : Nat) {q0 : Int32} {q1 : Int32} {q2 : Int32} {q3 : Int32} {q4 : Int32} {τ : ST} (h : Fr [(35, 39)] [(75, 86), (88, 89)] σ0 τ), FrP [(35, 39)] [(75, 86), (88, 89)] σ0 (fX12_odds_0l48 fu q0 q1 q2 q3 q4 τ)
  | 0, _, _, _, _, _, _, h => h
  | fu + 1, _, _, _, _, _, _, h => fb_fX12_odds_0b48 (fun _ _ _ _ _ _ q => fb_fX12_odds_0l48  fu q) h
theorem fb_fX12_odds_0b42 {σ0 : ST}  {l1 : Int32} {l2 : Int32} {l3 : Int32} {σ : ST} (h_σ : Fr [(35, 39)] [(75, 86), (88, 89)] σ0 σ) : FrP [(35, 39)] [(75, 86), (88, 89)] σ0 (fX12_odds_0b42 l1 l2 l3 σ) := by
  unfold fX12_odds_0b42
  exact fb_fX12_odds_0l48  _ h_σ
theorem fb_fX12_odds_0b39 {σ0 : ST}  {l4 : Int32} {σ : ST} (h_σ : Fr [(35, 39)] [(75, 86), (88, 89)] σ0 σ) : FrP [(35, 39)] [(75, 86), (88, 89)] σ0 (fX12_odds_0b39 l4 σ) := by
  unfold fX12_odds_0b39
  exact h_σ
theorem fb_fX12_odds_0b32 {σ0 : ST}  {l1 : Int32} {l2 : Int32} {l3 : Int32} {t0 : Int32} {σ : ST} (h_σ : Fr [(35, 39)] [(75, 86), (88, 89)] σ0 σ) : FrP [(35, 39)] [(75, 86), (88, 89)] σ0 (fX12_odds_0b32 l1 l2 l3 t0 σ) := by
  unfold fX12_odds_0b32
  exact iteF2 (fb_fX12_odds_0b42  h_σ) (fb_fX12_odds_0b39  h_σ)
theorem fb_fX12_odds_0b31 {σ0 : ST}  {l1 : Int32} {l2 : Int32} {l3 : Int32} {σ : ST} (h_σ : Fr [(35, 39)] [(75, 86), (88, 89)] σ0 σ) : FrP [(35, 39)] [(75, 86), (88, 89)] σ0 (fX12_odds_0b31 l1 l2 l3 σ) := by
  unfold fX12_odds_0b31
  exact fb_fX12_odds_0b32  h_σ
theorem fb_fX12_odds_0b23 {σ0 : ST}  {l1 : Int32} {l2 : Int32} {l3 : Int32} {σ : ST} (h_σ : Fr [(35, 39)] [(75, 86), (88, 89)] σ0 σ) : FrP [(35, 39)] [(75, 86), (88, 89)] σ0 (fX12_odds_0b23 l1 l2 l3 σ) := by
  unfold fX12_odds_0b23
  refine bpF2 fun v25 s25 e_s25 => ?_
  have h_s25 : Fr [(35, 39)] [(75, 86), (88, 89)] σ0 s25 := by rw [← e_s25]; exact h_σ.call fr_fX12_wrong_0 rfl rfl
  exact fb_fX12_odds_0b32  h_s25
theorem fb_fX12_odds_0b14 {σ0 : ST}  {l1 : Int32} {l2 : Int32} {l3 : Int32} {σ : ST} (h_σ : Fr [(35, 39)] [(75, 86), (88, 89)] σ0 σ) : FrP [(35, 39)] [(75, 86), (88, 89)] σ0 (fX12_odds_0b14 l1 l2 l3 σ) := by
  unfold fX12_odds_0b14
  refine bdF2 fun v17 _ => ?_
  exact iteF2 (fb_fX12_odds_0b31  h_σ) (fb_fX12_odds_0b23  h_σ)
theorem fb_fX12_odds_0b0 {σ0 : ST}  {l1 : Int32} {l2 : Int32} {l3 : Int32} {σ : ST} (h_σ : Fr [(35, 39)] [(75, 86), (88, 89)] σ0 σ) : FrP [(35, 39)] [(75, 86), (88, 89)] σ0 (fX12_odds_0b0 l1 l2 l3 σ) := by
  unfold fX12_odds_0b0
  refine bdF2 fun v3 _ => ?_
  refine bdF2 fun v7 _ => ?_
  refine bdF2 fun v8 _ => ?_
  exact iteF2 (fb_fX12_odds_0b31  h_σ) (fb_fX12_odds_0b14  h_σ)
theorem fr_fX12_odds_0 {p1 : Int32} {p2 : Int32} {p3 : Int32} {σ : ST} : Fr [(35, 39)] [(75, 86), (88, 89)] σ (fX12_odds_0 p1 p2 p3 σ).2 := fb_fX12_odds_0b0 (Fr.refl σ)
theorem fb_fX12_show_0b37 {σ0 : ST}  {σ : ST} (h_σ : Fr [(33, 39)] [(74, 86), (88, 88)] σ0 σ) : FrP [(33, 39)] [(74, 86), (88, 88)] σ0 (fX12_show_0b37 σ) := by
  unfold fX12_show_0b37
  refine bdF2 fun v39 _ => ?_
  refine bdF2 fun s42 e_s42 => ?_
  have h_s42 : Fr [(33, 39)] [(74, 86), (88, 88)] σ0 s42 := by rw [e_s42]; exact h_σ.putI rfl
  refine bdF2 fun s47 e_s47 => ?_
  have h_s47 : Fr [(33, 39)] [(74, 86), (88, 88)] σ0 s47 := by rw [e_s47]; exact h_s42.putI rfl
  refine bdF2 fun v51 _ => ?_
  exact h_s47
theorem fb_fX12_show_0b20 {σ0 : ST} {K12 : Int32 → ST → (Int32 × ST)} (hK12 : ∀ (q0 : Int32) (τ : ST), Fr [(33, 39)] [(74, 86), (88, 88)] σ0 τ → FrP [(33, 39)] [(74, 86), (88, 88)] σ0 (K12 q0 τ)) {l1 : Int32} {σ : ST} (h_σ : Fr [(33, 39)] [(74, 86), (88, 88)] σ0 σ) : FrP [(33, 39)] [(74, 86), (88, 88)] σ0 (fX12_show_0b20 K12 l1 σ) := by
  unfold fX12_show_0b20
  refine bdF2 fun v27 _ => ?_
  refine bdF2 fun s30 e_s30 => ?_
  have h_s30 : Fr [(33, 39)] [(74, 86), (88, 88)] σ0 s30 := by rw [e_s30]; exact h_σ.putA rfl
  refine bdF2 fun v31 _ => ?_
  exact hK12 _ _ h_s30
theorem fb_fX12_show_0b12 {σ0 : ST} {K12 : Int32 → ST → (Int32 × ST)} (hK12 : ∀ (q0 : Int32) (τ : ST), Fr [(33, 39)] [(74, 86), (88, 88)] σ0 τ → FrP [(33, 39)] [(74, 86), (88, 88)] σ0 (K12 q0 τ)) {l1 : Int32} {σ : ST} (h_σ : Fr [(33, 39)] [(74, 86), (88, 88)] σ0 σ) : FrP [(33, 39)] [(74, 86), (88, 88)] σ0 (fX12_show_0b12 K12 l1 σ) := by
  unfold fX12_show_0b12
  refine bdF2 fun v14 _ => ?_
  exact iteF2 (fb_fX12_show_0b37  h_σ) (fb_fX12_show_0b20 hK12 h_σ)
theorem fb_fX12_show_0l12 {σ0 : ST}  : ∀ (fu : Nat) {q0 : Int32} {τ : ST} (h : Fr [(33, 39)] [(74, 86), (88, 88)] σ0 τ), FrP [(33, 39)] [(74, 86), (88, 88)] σ0 (fX12_show_0l12 fu q0 τ)
  | 0, _, _, h => h
  | fu + 1, _, _, h => fb_fX12_show_0b12 (fun _ _ q => fb_fX12_show_0l12  fu q) h
theorem fb_fX12_show_0b10 {σ0 : ST}  {σ : ST} (h_σ : Fr [(33, 39)] [(74, 86), (88, 88)] σ0 σ) : FrP [(33, 39)] [(74, 86), (88, 88)] σ0 (fX12_show_0b10 σ) := by
  unfold fX12_show_0b10
  exact fb_fX12_show_0l12  _ h_σ
theorem fb_fX12_show_0b7 {σ0 : ST}  {σ : ST} (h_σ : Fr [(33, 39)] [(74, 86), (88, 88)] σ0 σ) : FrP [(33, 39)] [(74, 86), (88, 88)] σ0 (fX12_show_0b7 σ) := by
  unfold fX12_show_0b7
  exact h_σ
theorem fb_fX12_show_0b0 {σ0 : ST}  {σ : ST} (h_σ : Fr [(33, 39)] [(74, 86), (88, 88)] σ0 σ) : FrP [(33, 39)] [(74, 86), (88, 88)] σ0 (fX12_show_0b0 σ) := by
  unfold fX12_show_0b0
  refine bpF2 fun v1 s1 e_s1 => ?_
  have h_s1 : Fr [(33, 39)] [(74, 86), (88, 88)] σ0 s1 := by rw [← e_s1]; exact h_σ.call fr_fX12_findBest_0 rfl rfl
  exact iteF2 (fb_fX12_show_0b7  h_s1) (fb_fX12_show_0b10  h_s1)
theorem fr_fX12_show_0 {σ : ST} : Fr [(33, 39)] [(74, 86), (88, 88)] σ (fX12_show_0 σ).2 := fb_fX12_show_0b0 (Fr.refl σ)
theorem fb_fX12_otherwise_0b14 {σ0 : ST}  {σ : ST} (h_σ : Fr [(35, 39)] [(75, 86), (88, 88)] σ0 σ) : FrP [(35, 39)] [(75, 86), (88, 88)] σ0 (fX12_otherwise_0b14 σ) := by
  unfold fX12_otherwise_0b14
  exact h_σ
theorem fb_fX12_otherwise_0b65 {σ0 : ST}  {l1 : Int32} {σ : ST} (h_σ : Fr [(35, 39)] [(75, 86), (88, 88)] σ0 σ) : FrP [(35, 39)] [(75, 86), (88, 88)] σ0 (fX12_otherwise_0b65 l1 σ) := by
  unfold fX12_otherwise_0b65
  exact h_σ
theorem fb_fX12_otherwise_0b57 {σ0 : ST} {K21 : Int32 → Int32 → ST → (Int32 × ST)} (hK21 : ∀ (q0 : Int32) (q1 : Int32) (τ : ST), Fr [(35, 39)] [(75, 86), (88, 88)] σ0 τ → FrP [(35, 39)] [(75, 86), (88, 88)] σ0 (K21 q0 q1 τ)) {l2 : Int32} {t0 : Int32} {t1 : Int32} {σ : ST} (h_σ : Fr [(35, 39)] [(75, 86), (88, 88)] σ0 σ) : FrP [(35, 39)] [(75, 86), (88, 88)] σ0 (fX12_otherwise_0b57 K21 l2 t0 t1 σ) := by
  unfold fX12_otherwise_0b57
  refine bdF2 fun v57 _ => ?_
  refine bdF2 fun v59 _ => ?_
  exact hK21 _ _ _ h_σ
theorem fb_fX12_otherwise_0b56 {σ0 : ST} {K21 : Int32 → Int32 → ST → (Int32 × ST)} (hK21 : ∀ (q0 : Int32) (q1 : Int32) (τ : ST), Fr [(35, 39)] [(75, 86), (88, 88)] σ0 τ → FrP [(35, 39)] [(75, 86), (88, 88)] σ0 (K21 q0 q1 τ)) {l2 : Int32} {t0 : Int32} {σ : ST} (h_σ : Fr [(35, 39)] [(75, 86), (88, 88)] σ0 σ) : FrP [(35, 39)] [(75, 86), (88, 88)] σ0 (fX12_otherwise_0b56 K21 l2 t0 σ) := by
  unfold fX12_otherwise_0b56
  exact fb_fX12_otherwise_0b57 hK21 h_σ
theorem fb_fX12_otherwise_0b52 {σ0 : ST} {K21 : Int32 → Int32 → ST → (Int32 × ST)} (hK21 : ∀ (q0 : Int32) (q1 : Int32) (τ : ST), Fr [(35, 39)] [(75, 86), (88, 88)] σ0 τ → FrP [(35, 39)] [(75, 86), (88, 88)] σ0 (K21 q0 q1 τ)) {l2 : Int32} {t0 : Int32} {σ : ST} (h_σ : Fr [(35, 39)] [(75, 86), (88, 88)] σ0 σ) : FrP [(35, 39)] [(75, 86), (88, 88)] σ0 (fX12_otherwise_0b52 K21 l2 t0 σ) := by
  unfold fX12_otherwise_0b52
  exact fb_fX12_otherwise_0b57 hK21 h_σ
theorem fb_fX12_otherwise_0b37 {σ0 : ST} {K21 : Int32 → Int32 → ST → (Int32 × ST)} (hK21 : ∀ (q0 : Int32) (q1 : Int32) (τ : ST), Fr [(35, 39)] [(75, 86), (88, 88)] σ0 τ → FrP [(35, 39)] [(75, 86), (88, 88)] σ0 (K21 q0 q1 τ)) {l1 : Int32} {l2 : Int32} {σ : ST} (h_σ : Fr [(35, 39)] [(75, 86), (88, 88)] σ0 σ) : FrP [(35, 39)] [(75, 86), (88, 88)] σ0 (fX12_otherwise_0b37 K21 l1 l2 σ) := by
  unfold fX12_otherwise_0b37
  refine bdF2 fun v43 _ => ?_
  refine bdF2 fun v46 _ => ?_
  exact iteF2 (fb_fX12_otherwise_0b52 hK21 h_σ) (fb_fX12_otherwise_0b56 hK21 h_σ)
theorem fb_fX12_otherwise_0b29 {σ0 : ST} {K21 : Int32 → Int32 → ST → (Int32 × ST)} (hK21 : ∀ (q0 : Int32) (q1 : Int32) (τ : ST), Fr [(35, 39)] [(75, 86), (88, 88)] σ0 τ → FrP [(35, 39)] [(75, 86), (88, 88)] σ0 (K21 q0 q1 τ)) {l1 : Int32} {l2 : Int32} {σ : ST} (h_σ : Fr [(35, 39)] [(75, 86), (88, 88)] σ0 σ) : FrP [(35, 39)] [(75, 86), (88, 88)] σ0 (fX12_otherwise_0b29 K21 l1 l2 σ) := by
  unfold fX12_otherwise_0b29
  refine bdF2 fun v31 _ => ?_
  exact iteF2 (fb_fX12_otherwise_0b65  h_σ) (fb_fX12_otherwise_0b37 hK21 h_σ)
theorem fb_fX12_otherwise_0b21 {σ0 : ST} {K21 : Int32 → Int32 → ST → (Int32 × ST)} (hK21 : ∀ (q0 : Int32) (q1 : Int32) (τ : ST), Fr [(35, 39)] [(75, 86), (88, 88)] σ0 τ → FrP [(35, 39)] [(75, 86), (88, 88)] σ0 (K21 q0 q1 τ)) {l1 : Int32} {l2 : Int32} {σ : ST} (h_σ : Fr [(35, 39)] [(75, 86), (88, 88)] σ0 σ) : FrP [(35, 39)] [(75, 86), (88, 88)] σ0 (fX12_otherwise_0b21 K21 l1 l2 σ) := by
  unfold fX12_otherwise_0b21
  refine bdF2 fun v23 _ => ?_
  exact iteF2 (fb_fX12_otherwise_0b65  h_σ) (fb_fX12_otherwise_0b29 hK21 h_σ)
theorem fb_fX12_otherwise_0l21 {σ0 : ST}  : ∀ (fu : Nat) {q0 : Int32} {q1 : Int32} {τ : ST} (h : Fr [(35, 39)] [(75, 86), (88, 88)] σ0 τ), FrP [(35, 39)] [(75, 86), (88, 88)] σ0 (fX12_otherwise_0l21 fu q0 q1 τ)
  | 0, _, _, _, h => h
  | fu + 1, _, _, _, h => fb_fX12_otherwise_0b21 (fun _ _ _ q => fb_fX12_otherwise_0l21  fu q) h
theorem fb_fX12_otherwise_0b17 {σ0 : ST}  {σ : ST} (h_σ : Fr [(35, 39)] [(75, 86), (88, 88)] σ0 σ) : FrP [(35, 39)] [(75, 86), (88, 88)] σ0 (fX12_otherwise_0b17 σ) := by
  unfold fX12_otherwise_0b17
  exact fb_fX12_otherwise_0l21  _ h_σ
theorem fb_fX12_otherwise_0b7 {σ0 : ST}  {σ : ST} (h_σ : Fr [(35, 39)] [(75, 86), (88, 88)] σ0 σ) : FrP [(35, 39)] [(75, 86), (88, 88)] σ0 (fX12_otherwise_0b7 σ) := by
  unfold fX12_otherwise_0b7
  refine bpF2 fun v8 s8 e_s8 => ?_
  have h_s8 : Fr [(35, 39)] [(75, 86), (88, 88)] σ0 s8 := by rw [← e_s8]; exact h_σ.call fr_fX12_findBest_0 rfl rfl
  exact iteF2 (fb_fX12_otherwise_0b14  h_s8) (fb_fX12_otherwise_0b17  h_s8)
theorem fb_fX12_otherwise_0b0 {σ0 : ST}  {σ : ST} (h_σ : Fr [(35, 39)] [(75, 86), (88, 88)] σ0 σ) : FrP [(35, 39)] [(75, 86), (88, 88)] σ0 (fX12_otherwise_0b0 σ) := by
  unfold fX12_otherwise_0b0
  refine bdF2 fun v1 _ => ?_
  exact iteF2 (fb_fX12_otherwise_0b14  h_σ) (fb_fX12_otherwise_0b7  h_σ)
theorem fr_fX12_otherwise_0 {σ : ST} : Fr [(35, 39)] [(75, 86), (88, 88)] σ (fX12_otherwise_0 σ).2 := fb_fX12_otherwise_0b0 (Fr.refl σ)
theorem fb_fX12_word_0b23 {σ0 : ST}  {l1 : Int32} {l2 : Int32} {σ : ST} (h_σ : Fr [(32, 32)] [(72, 73)] σ0 σ) : FrP [(32, 32)] [(72, 73)] σ0 (fX12_word_0b23 l1 l2 σ) := by
  unfold fX12_word_0b23
  refine bdF2 fun v28 _ => ?_
  refine bdF2 fun s32 e_s32 => ?_
  have h_s32 : Fr [(32, 32)] [(72, 73)] σ0 s32 := by rw [e_s32]; exact h_σ.putA rfl
  refine bdF2 fun v38 _ => ?_
  refine bdF2 fun s42 e_s42 => ?_
  have h_s42 : Fr [(32, 32)] [(72, 73)] σ0 s42 := by rw [e_s42]; exact h_s32.putA rfl
  refine bdF2 fun v45 _ => ?_
  refine bdF2 fun v49 _ => ?_
  refine bdF2 fun s50 e_s50 => ?_
  have h_s50 : Fr [(32, 32)] [(72, 73)] σ0 s50 := by rw [e_s50]; exact h_s42.putI rfl
  refine bdF2 fun v54 _ => ?_
  refine bdF2 fun v58 _ => ?_
  exact h_s50
theorem fb_fX12_word_0b20 {σ0 : ST}  {σ : ST} (h_σ : Fr [(32, 32)] [(72, 73)] σ0 σ) : FrP [(32, 32)] [(72, 73)] σ0 (fX12_word_0b20 σ) := by
  unfold fX12_word_0b20
  exact h_σ
theorem fb_fX12_word_0b11 {σ0 : ST}  {l1 : Int32} {l2 : Int32} {σ : ST} (h_σ : Fr [(32, 32)] [(72, 73)] σ0 σ) : FrP [(32, 32)] [(72, 73)] σ0 (fX12_word_0b11 l1 l2 σ) := by
  unfold fX12_word_0b11
  refine bdF2 fun v12 _ => ?_
  exact iteF2 (fb_fX12_word_0b20  h_σ) (fb_fX12_word_0b23  h_σ)
theorem fb_fX12_word_0b9 {σ0 : ST}  {σ : ST} (h_σ : Fr [(32, 32)] [(72, 73)] σ0 σ) : FrP [(32, 32)] [(72, 73)] σ0 (fX12_word_0b9 σ) := by
  unfold fX12_word_0b9
  exact h_σ
theorem fb_fX12_word_0b0 {σ0 : ST}  {l1 : Int32} {l2 : Int32} {σ : ST} (h_σ : Fr [(32, 32)] [(72, 73)] σ0 σ) : FrP [(32, 32)] [(72, 73)] σ0 (fX12_word_0b0 l1 l2 σ) := by
  unfold fX12_word_0b0
  refine bdF2 fun v3 _ => ?_
  exact iteF2 (fb_fX12_word_0b9  h_σ) (fb_fX12_word_0b11  h_σ)
theorem fr_fX12_word_0 {p1 : Int32} {p2 : Int32} {σ : ST} : Fr [(32, 32)] [(72, 73)] σ (fX12_word_0 p1 p2 σ).2 := fb_fX12_word_0b0 (Fr.refl σ)
theorem fb_fX12_hung_0b23 {σ0 : ST}  {σ : ST} (h_σ : Fr [(35, 38)] [(75, 84)] σ0 σ) : FrP [(35, 38)] [(75, 84)] σ0 (fX12_hung_0b23 σ) := by
  unfold fX12_hung_0b23
  exact h_σ
theorem fb_fX12_hung_0b179 {σ0 : ST}  {t0 : Int32} {σ : ST} (h_σ : Fr [(35, 38)] [(75, 84)] σ0 σ) : FrP [(35, 38)] [(75, 84)] σ0 (fX12_hung_0b179 t0 σ) := by
  unfold fX12_hung_0b179
  exact h_σ
theorem fb_fX12_hung_0b177 {σ0 : ST}  {l5 : Int32} {σ : ST} (h_σ : Fr [(35, 38)] [(75, 84)] σ0 σ) : FrP [(35, 38)] [(75, 84)] σ0 (fX12_hung_0b177 l5 σ) := by
  unfold fX12_hung_0b177
  exact fb_fX12_hung_0b179  h_σ
theorem fb_fX12_hung_0b173 {σ0 : ST}  {l3 : Int32} {σ : ST} (h_σ : Fr [(35, 38)] [(75, 84)] σ0 σ) : FrP [(35, 38)] [(75, 84)] σ0 (fX12_hung_0b173 l3 σ) := by
  unfold fX12_hung_0b173
  exact fb_fX12_hung_0b179  h_σ
theorem fb_fX12_hung_0b169 {σ0 : ST}  {l2 : Int32} {l3 : Int32} {l5 : Int32} {σ : ST} (h_σ : Fr [(35, 38)] [(75, 84)] σ0 σ) : FrP [(35, 38)] [(75, 84)] σ0 (fX12_hung_0b169 l2 l3 l5 σ) := by
  unfold fX12_hung_0b169
  exact iteF2 (fb_fX12_hung_0b173  h_σ) (fb_fX12_hung_0b177  h_σ)
theorem fb_fX12_hung_0b160 {σ0 : ST} {K41 : Int32 → Int32 → Int32 → Int32 → Int32 → Int32 → ST → (Int32 × ST)} (hK41 : ∀ (q0 : Int32) (q1 : Int32) (q2 : Int32) (q3 : Int32) (q4 : Int32) (q5 : Int32) (τ : ST), Fr [(35, 38)] [(75, 84)] σ0 τ → FrP [(35, 38)] [(75, 84)] σ0 (K41 q0 q1 q2 q3 q4 q5 τ)) {l1 : Int32} {l2 : Int32} {l3 : Int32} {l4 : Int32} {l6 : Int32} {t0 : Int32} {t1 : Int32} {σ : ST} (h_σ : Fr [(35, 38)] [(75, 84)] σ0 σ) : FrP [(35, 38)] [(75, 84)] σ0 (fX12_hung_0b160 K41 l1 l2 l3 l4 l6 t0 t1 σ) := by
  unfold fX12_hung_0b160
  refine bdF2 fun v160 _ => ?_
  refine bdF2 fun v163 _ => ?_
  exact hK41 _ _ _ _ _ _ _ h_σ
theorem fb_fX12_hung_0b159 {σ0 : ST} {K41 : Int32 → Int32 → Int32 → Int32 → Int32 → Int32 → ST → (Int32 × ST)} (hK41 : ∀ (q0 : Int32) (q1 : Int32) (q2 : Int32) (q3 : Int32) (q4 : Int32) (q5 : Int32) (τ : ST), Fr [(35, 38)] [(75, 84)] σ0 τ → FrP [(35, 38)] [(75, 84)] σ0 (K41 q0 q1 q2 q3 q4 q5 τ)) {l1 : Int32} {l2 : Int32} {l3 : Int32} {l4 : Int32} {l6 : Int32} {t0 : Int32} {σ : ST} (h_σ : Fr [(35, 38)] [(75, 84)] σ0 σ) : FrP [(35, 38)] [(75, 84)] σ0 (fX12_hung_0b159 K41 l1 l2 l3 l4 l6 t0 σ) := by
  unfold fX12_hung_0b159
  exact fb_fX12_hung_0b160 hK41 h_σ
theorem fb_fX12_hung_0b155 {σ0 : ST} {K41 : Int32 → Int32 → Int32 → Int32 → Int32 → Int32 → ST → (Int32 × ST)} (hK41 : ∀ (q0 : Int32) (q1 : Int32) (q2 : Int32) (q3 : Int32) (q4 : Int32) (q5 : Int32) (τ : ST), Fr [(35, 38)] [(75, 84)] σ0 τ → FrP [(35, 38)] [(75, 84)] σ0 (K41 q0 q1 q2 q3 q4 q5 τ)) {l1 : Int32} {l2 : Int32} {l3 : Int32} {l4 : Int32} {l6 : Int32} {t0 : Int32} {σ : ST} (h_σ : Fr [(35, 38)] [(75, 84)] σ0 σ) : FrP [(35, 38)] [(75, 84)] σ0 (fX12_hung_0b155 K41 l1 l2 l3 l4 l6 t0 σ) := by
  unfold fX12_hung_0b155
  exact fb_fX12_hung_0b160 hK41 h_σ
theorem fb_fX12_hung_0b146 {σ0 : ST} {K41 : Int32 → Int32 → Int32 → Int32 → Int32 → Int32 → ST → (Int32 × ST)} (hK41 : ∀ (q0 : Int32) (q1 : Int32) (q2 : Int32) (q3 : Int32) (q4 : Int32) (q5 : Int32) (τ : ST), Fr [(35, 38)] [(75, 84)] σ0 τ → FrP [(35, 38)] [(75, 84)] σ0 (K41 q0 q1 q2 q3 q4 q5 τ)) {l1 : Int32} {l2 : Int32} {l3 : Int32} {l5 : Int32} {l6 : Int32} {l7 : Int32} {t0 : Int32} {σ : ST} (h_σ : Fr [(35, 38)] [(75, 84)] σ0 σ) : FrP [(35, 38)] [(75, 84)] σ0 (fX12_hung_0b146 K41 l1 l2 l3 l5 l6 l7 t0 σ) := by
  unfold fX12_hung_0b146
  exact iteF2 (fb_fX12_hung_0b159 hK41 h_σ) (fb_fX12_hung_0b155 hK41 h_σ)
theorem fb_fX12_hung_0b144 {σ0 : ST} {K41 : Int32 → Int32 → Int32 → Int32 → Int32 → Int32 → ST → (Int32 × ST)} (hK41 : ∀ (q0 : Int32) (q1 : Int32) (q2 : Int32) (q3 : Int32) (q4 : Int32) (q5 : Int32) (τ : ST), Fr [(35, 38)] [(75, 84)] σ0 τ → FrP [(35, 38)] [(75, 84)] σ0 (K41 q0 q1 q2 q3 q4 q5 τ)) {l1 : Int32} {l2 : Int32} {l3 : Int32} {l4 : Int32} {l5 : Int32} {l6 : Int32} {l7 : Int32} {σ : ST} (h_σ : Fr [(35, 38)] [(75, 84)] σ0 σ) : FrP [(35, 38)] [(75, 84)] σ0 (fX12_hung_0b144 K41 l1 l2 l3 l4 l5 l6 l7 σ) := by
  unfold fX12_hung_0b144
  exact fb_fX12_hung_0b146 hK41 h_σ
theorem fb_fX12_hung_0b139 {σ0 : ST} {K41 : Int32 → Int32 → Int32 → Int32 → Int32 → Int32 → ST → (Int32 × ST)} (hK41 : ∀ (q0 : Int32) (q1 : Int32) (q2 : Int32) (q3 : Int32) (q4 : Int32) (q5 : Int32) (τ : ST), Fr [(35, 38)] [(75, 84)] σ0 τ → FrP [(35, 38)] [(75, 84)] σ0 (K41 q0 q1 q2 q3 q4 q5 τ)) {l1 : Int32} {l2 : Int32} {l3 : Int32} {l5 : Int32} {l6 : Int32} {l7 : Int32} {σ : ST} (h_σ : Fr [(35, 38)] [(75, 84)] σ0 σ) : FrP [(35, 38)] [(75, 84)] σ0 (fX12_hung_0b139 K41 l1 l2 l3 l5 l6 l7 σ) := by
  unfold fX12_hung_0b139
  exact fb_fX12_hung_0b146 hK41 h_σ
theorem fb_fX12_hung_0b131 {σ0 : ST} {K41 : Int32 → Int32 → Int32 → Int32 → Int32 → Int32 → ST → (Int32 × ST)} (hK41 : ∀ (q0 : Int32) (q1 : Int32) (q2 : Int32) (q3 : Int32) (q4 : Int32) (q5 : Int32) (τ : ST), Fr [(35, 38)] [(75, 84)] σ0 τ → FrP [(35, 38)] [(75, 84)] σ0 (K41 q0 q1 q2 q3 q4 q5 τ)) {l1 : Int32} {l2 : Int32} {l4 : Int32} {l5 : Int32} {l6 : Int32} {l7 : Int32} {t0 : Int32} {σ : ST} (h_σ : Fr [(35, 38)] [(75, 84)] σ0 σ) : FrP [(35, 38)] [(75, 84)] σ0 (fX12_hung_0b131 K41 l1 l2 l4 l5 l6 l7 t0 σ) := by
  unfold fX12_hung_0b131
  exact iteF2 (fb_fX12_hung_0b144 hK41 h_σ) (fb_fX12_hung_0b139 hK41 h_σ)
theorem fb_fX12_hung_0b130 {σ0 : ST} {K41 : Int32 → Int32 → Int32 → Int32 → Int32 → Int32 → ST → (Int32 × ST)} (hK41 : ∀ (q0 : Int32) (q1 : Int32) (q2 : Int32) (q3 : Int32) (q4 : Int32) (q5 : Int32) (τ : ST), Fr [(35, 38)] [(75, 84)] σ0 τ → FrP [(35, 38)] [(75, 84)] σ0 (K41 q0 q1 q2 q3 q4 q5 τ)) {l1 : Int32} {l2 : Int32} {l3 : Int32} {l4 : Int32} {l5 : Int32} {l6 : Int32} {l7 : Int32} {σ : ST} (h_σ : Fr [(35, 38)] [(75, 84)] σ0 σ) : FrP [(35, 38)] [(75, 84)] σ0 (fX12_hung_0b130 K41 l1 l2 l3 l4 l5 l6 l7 σ) := by
  unfold fX12_hung_0b130
  exact fb_fX12_hung_0b131 hK41 h_σ
theorem fb_fX12_hung_0b125 {σ0 : ST} {K41 : Int32 → Int32 → Int32 → Int32 → Int32 → Int32 → ST → (Int32 × ST)} (hK41 : ∀ (q0 : Int32) (q1 : Int32) (q2 : Int32) (q3 : Int32) (q4 : Int32) (q5 : Int32) (τ : ST), Fr [(35, 38)] [(75, 84)] σ0 τ → FrP [(35, 38)] [(75, 84)] σ0 (K41 q0 q1 q2 q3 q4 q5 τ)) {l1 : Int32} {l2 : Int32} {l4 : Int32} {l5 : Int32} {l6 : Int32} {l7 : Int32} {σ : ST} (h_σ : Fr [(35, 38)] [(75, 84)] σ0 σ) : FrP [(35, 38)] [(75, 84)] σ0 (fX12_hung_0b125 K41 l1 l2 l4 l5 l6 l7 σ) := by
  unfold fX12_hung_0b125
  exact fb_fX12_hung_0b131 hK41 h_σ
theorem fb_fX12_hung_0b118 {σ0 : ST} {K41 : Int32 → Int32 → Int32 → Int32 → Int32 → Int32 → ST → (Int32 × ST)} (hK41 : ∀ (q0 : Int32) (q1 : Int32) (q2 : Int32) (q3 : Int32) (q4 : Int32) (q5 : Int32) (τ : ST), Fr [(35, 38)] [(75, 84)] σ0 τ → FrP [(35, 38)] [(75, 84)] σ0 (K41 q0 q1 q2 q3 q4 q5 τ)) {l1 : Int32} {l2 : Int32} {l3 : Int32} {l4 : Int32} {l5 : Int32} {l6 : Int32} {l7 : Int32} {σ : ST} (h_σ : Fr [(35, 38)] [(75, 84)] σ0 σ) : FrP [(35, 38)] [(75, 84)] σ0 (fX12_hung_0b118 K41 l1 l2 l3 l4 l5 l6 l7 σ) := by
  unfold fX12_hung_0b118
  exact iteF2 (fb_fX12_hung_0b130 hK41 h_σ) (fb_fX12_hung_0b125 hK41 h_σ)
theorem fb_fX12_hung_0b109 {σ0 : ST} {K41 : Int32 → Int32 → Int32 → Int32 → Int32 → Int32 → ST → (Int32 × ST)} (hK41 : ∀ (q0 : Int32) (q1 : Int32) (q2 : Int32) (q3 : Int32) (q4 : Int32) (q5 : Int32) (τ : ST), Fr [(35, 38)] [(75, 84)] σ0 τ → FrP [(35, 38)] [(75, 84)] σ0 (K41 q0 q1 q2 q3 q4 q5 τ)) {K62 : Int32 → Int32 → Int32 → Int32 → Int32 → Int32 → Int32 → Int32 → ST → (Int32 × ST)} (hK62 : ∀ (q0 : Int32) (q1 : Int32) (q2 : Int32) (q3 : Int32) (q4 : Int32) (q5 : Int32) (q6 : Int32) (q7 : Int32) (τ : ST), Fr [(35, 38)] [(75, 84)] σ0 τ → FrP [(35, 38)] [(75, 84)] σ0 (K62 q0 q1 q2 q3 q4 q5 q6 q7 τ)) {l1 : Int32} {l2 : Int32} {l3 : Int32} {l4 : Int32} {l5 : Int32} {l6 : Int32} {l8 : Int32} {t0 : Int32} {t1 : Int32} {σ : ST} (h_σ : Fr [(35, 38)] [(75, 84)] σ0 σ) : FrP [(35, 38)] [(75, 84)] σ0 (fX12_hung_0b109 K41 K62 l1 l2 l3 l4 l5 l6 l8 t0 t1 σ) := by
  unfold fX12_hung_0b109
  refine bdF2 fun v109 _ => ?_
  refine bdF2 fun v112 _ => ?_
  exact hK62 _ _ _ _ _ _ _ _ _ h_σ
theorem fb_fX12_hung_0b108 {σ0 : ST} {K41 : Int32 → Int32 → Int32 → Int32 → Int32 → Int32 → ST → (Int32 × ST)} (hK41 : ∀ (q0 : Int32) (q1 : Int32) (q2 : Int32) (q3 : Int32) (q4 : Int32) (q5 : Int32) (τ : ST), Fr [(35, 38)] [(75, 84)] σ0 τ → FrP [(35, 38)] [(75, 84)] σ0 (K41 q0 q1 q2 q3 q4 q5 τ)) {K62 : Int32 → Int32 → Int32 → Int32 → Int32 → Int32 → Int32 → Int32 → ST → (Int32 × ST)} (hK62 : ∀ (q0 : Int32) (q1 : Int32) (q2 : Int32) (q3 : Int32) (q4 : Int32) (q5 : Int32) (q6 : Int32) (q7 : Int32) (τ : ST), Fr [(35, 38)] [(75, 84)] σ0 τ → FrP [(35, 38)] [(75, 84)] σ0 (K62 q0 q1 q2 q3 q4 q5 q6 q7 τ)) {l1 : Int32} {l2 : Int32} {l3 : Int32} {l4 : Int32} {l5 : Int32} {l6 : Int32} {l8 : Int32} {t0 : Int32} {σ : ST} (h_σ : Fr [(35, 38)] [(75, 84)] σ0 σ) : FrP [(35, 38)] [(75, 84)] σ0 (fX12_hung_0b108 K41 K62 l1 l2 l3 l4 l5 l6 l8 t0 σ) := by
  unfold fX12_hung_0b108
  exact fb_fX12_hung_0b109 hK41 hK62 h_σ
theorem fb_fX12_hung_0b104 {σ0 : ST} {K41 : Int32 → Int32 → Int32 → Int32 → Int32 → Int32 → ST → (Int32 × ST)} (hK41 : ∀ (q0 : Int32) (q1 : Int32) (q2 : Int32) (q3 : Int32) (q4 : Int32) (q5 : Int32) (τ : ST), Fr [(35, 38)] [(75, 84)] σ0 τ → FrP [(35, 38)] [(75, 84)] σ0 (K41 q0 q1 q2 q3 q4 q5 τ)) {K62 : Int32 → Int32 → Int32 → Int32 → Int32 → Int32 → Int32 → Int32 → ST → (Int32 × ST)} (hK62 : ∀ (q0 : Int32) (q1 : Int32) (q2 : Int32) (q3 : Int32) (q4 : Int32) (q5 : Int32) (q6 : Int32) (q7 : Int32) (τ : ST), Fr [(35, 38)] [(75, 84)] σ0 τ → FrP [(35, 38)] [(75, 84)] σ0 (K62 q0 q1 q2 q3 q4 q5 q6 q7 τ)) {l1 : Int32} {l2 : Int32} {l3 : Int32} {l4 : Int32} {l5 : Int32} {l6 : Int32} {l8 : Int32} {t0 : Int32} {σ : ST} (h_σ : Fr [(35, 38)] [(75, 84)] σ0 σ) : FrP [(35, 38)] [(75, 84)] σ0 (fX12_hung_0b104 K41 K62 l1 l2 l3 l4 l5 l6 l8 t0 σ) := by
  unfold fX12_hung_0b104
  exact fb_fX12_hung_0b109 hK41 hK62 h_σ
theorem fb_fX12_hung_0b82 {σ0 : ST} {K41 : Int32 → Int32 → Int32 → Int32 → Int32 → Int32 → ST → (Int32 × ST)} (hK41 : ∀ (q0 : Int32) (q1 : Int32) (q2 : Int32) (q3 : Int32) (q4 : Int32) (q5 : Int32) (τ : ST), Fr [(35, 38)] [(75, 84)] σ0 τ → FrP [(35, 38)] [(75, 84)] σ0 (K41 q0 q1 q2 q3 q4 q5 τ)) {K62 : Int32 → Int32 → Int32 → Int32 → Int32 → Int32 → Int32 → Int32 → ST → (Int32 × ST)} (hK62 : ∀ (q0 : Int32) (q1 : Int32) (q2 : Int32) (q3 : Int32) (q4 : Int32) (q5 : Int32) (q6 : Int32) (q7 : Int32) (τ : ST), Fr [(35, 38)] [(75, 84)] σ0 τ → FrP [(35, 38)] [(75, 84)] σ0 (K62 q0 q1 q2 q3 q4 q5 q6 q7 τ)) {l1 : Int32} {l2 : Int32} {l3 : Int32} {l4 : Int32} {l5 : Int32} {l6 : Int32} {l7 : Int32} {l8 : Int32} {σ : ST} (h_σ : Fr [(35, 38)] [(75, 84)] σ0 σ) : FrP [(35, 38)] [(75, 84)] σ0 (fX12_hung_0b82 K41 K62 l1 l2 l3 l4 l5 l6 l7 l8 σ) := by
  unfold fX12_hung_0b82
  refine bdF2 fun v91 _ => ?_
  refine bdF2 fun v97 _ => ?_
  refine bdF2 fun v98 _ => ?_
  exact iteF2 (fb_fX12_hung_0b108 hK41 hK62 h_σ) (fb_fX12_hung_0b104 hK41 hK62 h_σ)
theorem fb_fX12_hung_0b62 {σ0 : ST} {K41 : Int32 → Int32 → Int32 → Int32 → Int32 → Int32 → ST → (Int32 × ST)} (hK41 : ∀ (q0 : Int32) (q1 : Int32) (q2 : Int32) (q3 : Int32) (q4 : Int32) (q5 : Int32) (τ : ST), Fr [(35, 38)] [(75, 84)] σ0 τ → FrP [(35, 38)] [(75, 84)] σ0 (K41 q0 q1 q2 q3 q4 q5 τ)) {K62 : Int32 → Int32 → Int32 → Int32 → Int32 → Int32 → Int32 → Int32 → ST → (Int32 × ST)} (hK62 : ∀ (q0 : Int32) (q1 : Int32) (q2 : Int32) (q3 : Int32) (q4 : Int32) (q5 : Int32) (q6 : Int32) (q7 : Int32) (τ : ST), Fr [(35, 38)] [(75, 84)] σ0 τ → FrP [(35, 38)] [(75, 84)] σ0 (K62 q0 q1 q2 q3 q4 q5 q6 q7 τ)) {l1 : Int32} {l2 : Int32} {l3 : Int32} {l4 : Int32} {l5 : Int32} {l6 : Int32} {l7 : Int32} {l8 : Int32} {σ : ST} (h_σ : Fr [(35, 38)] [(75, 84)] σ0 σ) : FrP [(35, 38)] [(75, 84)] σ0 (fX12_hung_0b62 K41 K62 l1 l2 l3 l4 l5 l6 l7 l8 σ) := by
  unfold fX12_hung_0b62
  refine bdF2 fun v70 _ => ?_
  refine bdF2 fun v77 _ => ?_
  refine bdF2 fun v78 _ => ?_
  exact iteF2 (fb_fX12_hung_0b118 hK41 h_σ) (fb_fX12_hung_0b82 hK41 hK62 h_σ)
theorem fb_fX12_hung_0l62 {σ0 : ST} {K41 : Int32 → Int32 → Int32 → Int32 → Int32 → Int32 → ST → (Int32 × ST)} (hK41 : ∀ (q0 : Int32) (q1 : Int32) (q2 : Int32) (q3 : Int32) (q4 : Int32) (q5 : Int32) (τ : ST), Fr [(35, 38)] [(75, 84)] σ0 τ → FrP [(35, 38)] [(75, 84)] σ0 (K41 q0 q1 q2 q3 q4 q5 τ)) : ∀ (fu : Nat) {q0 : Int32} {q1 : Int32} {q2 : Int32} {q3 : Int32} {q4 : Int32} {q5 : Int32} {q6 : Int32} {q7 : Int32} {τ : ST} (h : Fr [(35, 38)] [(75, 84)] σ0 τ), FrP [(35, 38)] [(75, 84)] σ0 (fX12_hung_0l62 K41 fu q0 q1 q2 q3 q4 q5 q6 q7 τ)
  | 0, _, _, _, _, _, _, _, _, _, h => h
  | fu + 1, _, _, _, _, _, _, _, _, _, h => fb_fX12_hung_0b62 hK41 (fun _ _ _ _ _ _ _ _ _ q => fb_fX12_hung_0l62 hK41 fu q) h
theorem fb_fX12_hung_0b50 {σ0 : ST} {K41 : Int32 → Int32 → Int32 → Int32 → Int32 → Int32 → ST → (Int32 × ST)} (hK41 : ∀ (q0 : Int32) (q1 : Int32) (q2 : Int32) (q3 : Int32) (q4 : Int32) (q5 : Int32) (τ : ST), Fr [(35, 38)] [(75, 84)] σ0 τ → FrP [(35, 38)] [(75, 84)] σ0 (K41 q0 q1 q2 q3 q4 q5 τ)) {l1 : Int32} {l2 : Int32} {l3 : Int32} {l4 : Int32} {l5 : Int32} {l6 : Int32} {σ : ST} (h_σ : Fr [(35, 38)] [(75, 84)] σ0 σ) : FrP [(35, 38)] [(75, 84)] σ0 (fX12_hung_0b50 K41 l1 l2 l3 l4 l5 l6 σ) := by
  unfold fX12_hung_0b50
  refine bdF2 fun v59 _ => ?_
  exact fb_fX12_hung_0l62 hK41 _ h_σ
theorem fb_fX12_hung_0b41 {σ0 : ST} {K41 : Int32 → Int32 → Int32 → Int32 → Int32 → Int32 → ST → (Int32 × ST)} (hK41 : ∀ (q0 : Int32) (q1 : Int32) (q2 : Int32) (q3 : Int32) (q4 : Int32) (q5 : Int32) (τ : ST), Fr [(35, 38)] [(75, 84)] σ0 τ → FrP [(35, 38)] [(75, 84)] σ0 (K41 q0 q1 q2 q3 q4 q5 τ)) {l1 : Int32} {l2 : Int32} {l3 : Int32} {l4 : Int32} {l5 : Int32} {l6 : Int32} {σ : ST} (h_σ : Fr [(35, 38)] [(75, 84)] σ0 σ) : FrP [(35, 38)] [(75, 84)] σ0 (fX12_hung_0b41 K41 l1 l2 l3 l4 l5 l6 σ) := by
  unfold fX12_hung_0b41
  refine bdF2 fun v44 _ => ?_
  exact iteF2 (fb_fX12_hung_0b169  h_σ) (fb_fX12_hung_0b50 hK41 h_σ)
theorem fb_fX12_hung_0l41 {σ0 : ST}  : ∀ (fu : Nat) {q0 : Int32} {q1 : Int32} {q2 : Int32} {q3 : Int32} {q4 : Int32} {q5 : Int32} {τ : ST} (h : Fr [(35, 38)] [(75, 84)] σ0 τ), FrP [(35, 38)] [(75, 84)] σ0 (fX12_hung_0l41 fu q0 q1 q2 q3 q4 q5 τ)
  | 0, _, _, _, _, _, _, _, h => h
  | fu + 1, _, _, _, _, _, _, _, h => fb_fX12_hung_0b41 (fun _ _ _ _ _ _ _ q => fb_fX12_hung_0l41  fu q) h
theorem fb_fX12_hung_0b25 {σ0 : ST}  {l1 : Int32} {l2 : Int32} {σ : ST} (h_σ : Fr [(35, 38)] [(75, 84)] σ0 σ) : FrP [(35, 38)] [(75, 84)] σ0 (fX12_hung_0b25 l1 l2 σ) := by
  unfold fX12_hung_0b25
  refine bdF2 fun s26 e_s26 => ?_
  have h_s26 : Fr [(35, 38)] [(75, 84)] σ0 s26 := by rw [e_s26]; exact h_σ.call fr_fX12_findPieces_0 rfl rfl
  exact fb_fX12_hung_0l41  _ h_s26
theorem fb_fX12_hung_0b14 {σ0 : ST}  {l1 : Int32} {l2 : Int32} {σ : ST} (h_σ : Fr [(35, 38)] [(75, 84)] σ0 σ) : FrP [(35, 38)] [(75, 84)] σ0 (fX12_hung_0b14 l1 l2 σ) := by
  unfold fX12_hung_0b14
  refine bdF2 fun v17 _ => ?_
  exact iteF2 (fb_fX12_hung_0b23  h_σ) (fb_fX12_hung_0b25  h_σ)
theorem fb_fX12_hung_0b0 {σ0 : ST}  {l1 : Int32} {l2 : Int32} {σ : ST} (h_σ : Fr [(35, 38)] [(75, 84)] σ0 σ) : FrP [(35, 38)] [(75, 84)] σ0 (fX12_hung_0b0 l1 l2 σ) := by
  unfold fX12_hung_0b0
  refine bdF2 fun v3 _ => ?_
  refine bdF2 fun v7 _ => ?_
  refine bdF2 fun v8 _ => ?_
  exact iteF2 (fb_fX12_hung_0b23  h_σ) (fb_fX12_hung_0b14  h_σ)
theorem fr_fX12_hung_0 {p1 : Int32} {p2 : Int32} {σ : ST} : Fr [(35, 38)] [(75, 84)] σ (fX12_hung_0 p1 p2 σ).2 := fb_fX12_hung_0b0 (Fr.refl σ)
theorem fb_fX12_truth_0b18 {σ0 : ST}  {σ : ST} (h_σ : Fr [] [(71, 71)] σ0 σ) : FrP [] [(71, 71)] σ0 (fX12_truth_0b18 σ) := by
  unfold fX12_truth_0b18
  exact h_σ
theorem fb_fX12_truth_0b67 {σ0 : ST}  {l4 : Int32} {σ : ST} (h_σ : Fr [] [(71, 71)] σ0 σ) : FrP [] [(71, 71)] σ0 (fX12_truth_0b67 l4 σ) := by
  unfold fX12_truth_0b67
  exact h_σ
theorem fb_fX12_truth_0b50 {σ0 : ST} {K26 : Int32 → Int32 → Int32 → Int32 → ST → (Int32 × ST)} (hK26 : ∀ (q0 : Int32) (q1 : Int32) (q2 : Int32) (q3 : Int32) (τ : ST), Fr [] [(71, 71)] σ0 τ → FrP [] [(71, 71)] σ0 (K26 q0 q1 q2 q3 τ)) {l2 : Int32} {l3 : Int32} {l5 : Int32} {t0 : Int32} {t1 : Int32} {σ : ST} (h_σ : Fr [] [(71, 71)] σ0 σ) : FrP [] [(71, 71)] σ0 (fX12_truth_0b50 K26 l2 l3 l5 t0 t1 σ) := by
  unfold fX12_truth_0b50
  refine bdF2 fun v50 _ => ?_
  refine bdF2 fun s60 e_s60 => ?_
  have h_s60 : Fr [] [(71, 71)] σ0 s60 := by rw [e_s60]; exact h_σ.putA rfl
  refine bdF2 fun v61 _ => ?_
  exact hK26 _ _ _ _ _ h_s60
theorem fb_fX12_truth_0b49 {σ0 : ST} {K26 : Int32 → Int32 → Int32 → Int32 → ST → (Int32 × ST)} (hK26 : ∀ (q0 : Int32) (q1 : Int32) (q2 : Int32) (q3 : Int32) (τ : ST), Fr [] [(71, 71)] σ0 τ → FrP [] [(71, 71)] σ0 (K26 q0 q1 q2 q3 τ)) {l2 : Int32} {l3 : Int32} {l5 : Int32} {t0 : Int32} {σ : ST} (h_σ : Fr [] [(71, 71)] σ0 σ) : FrP [] [(71, 71)] σ0 (fX12_truth_0b49 K26 l2 l3 l5 t0 σ) := by
  unfold fX12_truth_0b49
  exact fb_fX12_truth_0b50 hK26 h_σ
theorem fb_fX12_truth_0b45 {σ0 : ST} {K26 : Int32 → Int32 → Int32 → Int32 → ST → (Int32 × ST)} (hK26 : ∀ (q0 : Int32) (q1 : Int32) (q2 : Int32) (q3 : Int32) (τ : ST), Fr [] [(71, 71)] σ0 τ → FrP [] [(71, 71)] σ0 (K26 q0 q1 q2 q3 τ)) {l2 : Int32} {l3 : Int32} {l5 : Int32} {t0 : Int32} {σ : ST} (h_σ : Fr [] [(71, 71)] σ0 σ) : FrP [] [(71, 71)] σ0 (fX12_truth_0b45 K26 l2 l3 l5 t0 σ) := by
  unfold fX12_truth_0b45
  exact fb_fX12_truth_0b50 hK26 h_σ
theorem fb_fX12_truth_0b32 {σ0 : ST} {K26 : Int32 → Int32 → Int32 → Int32 → ST → (Int32 × ST)} (hK26 : ∀ (q0 : Int32) (q1 : Int32) (q2 : Int32) (q3 : Int32) (τ : ST), Fr [] [(71, 71)] σ0 τ → FrP [] [(71, 71)] σ0 (K26 q0 q1 q2 q3 τ)) {l2 : Int32} {l3 : Int32} {l4 : Int32} {l5 : Int32} {σ : ST} (h_σ : Fr [] [(71, 71)] σ0 σ) : FrP [] [(71, 71)] σ0 (fX12_truth_0b32 K26 l2 l3 l4 l5 σ) := by
  unfold fX12_truth_0b32
  refine bdF2 fun v40 _ => ?_
  exact iteF2 (fb_fX12_truth_0b45 hK26 h_σ) (fb_fX12_truth_0b49 hK26 h_σ)
theorem fb_fX12_truth_0b26 {σ0 : ST} {K26 : Int32 → Int32 → Int32 → Int32 → ST → (Int32 × ST)} (hK26 : ∀ (q0 : Int32) (q1 : Int32) (q2 : Int32) (q3 : Int32) (τ : ST), Fr [] [(71, 71)] σ0 τ → FrP [] [(71, 71)] σ0 (K26 q0 q1 q2 q3 τ)) {l2 : Int32} {l3 : Int32} {l4 : Int32} {l5 : Int32} {σ : ST} (h_σ : Fr [] [(71, 71)] σ0 σ) : FrP [] [(71, 71)] σ0 (fX12_truth_0b26 K26 l2 l3 l4 l5 σ) := by
  unfold fX12_truth_0b26
  exact iteF2 (fb_fX12_truth_0b67  h_σ) (fb_fX12_truth_0b32 hK26 h_σ)
theorem fb_fX12_truth_0l26 {σ0 : ST}  : ∀ (fu : Nat) {q0 : Int32} {q1 : Int32} {q2 : Int32} {q3 : Int32} {τ : ST} (h : Fr [] [(71, 71)] σ0 τ), FrP [] [(71, 71)] σ0 (fX12_truth_0l26 fu q0 q1 q2 q3 τ)
  | 0, _, _, _, _, _, h => h
  | fu + 1, _, _, _, _, _, h => fb_fX12_truth_0b26 (fun _ _ _ _ _ q => fb_fX12_truth_0l26  fu q) h
theorem fb_fX12_truth_0b20 {σ0 : ST}  {l1 : Int32} {l2 : Int32} {l3 : Int32} {σ : ST} (h_σ : Fr [] [(71, 71)] σ0 σ) : FrP [] [(71, 71)] σ0 (fX12_truth_0b20 l1 l2 l3 σ) := by
  unfold fX12_truth_0b20
  exact fb_fX12_truth_0l26  _ h_σ
theorem fb_fX12_truth_0b9 {σ0 : ST}  {l1 : Int32} {l2 : Int32} {l3 : Int32} {σ : ST} (h_σ : Fr [] [(71, 71)] σ0 σ) : FrP [] [(71, 71)] σ0 (fX12_truth_0b9 l1 l2 l3 σ) := by
  unfold fX12_truth_0b9
  refine bdF2 fun v12 _ => ?_
  exact iteF2 (fb_fX12_truth_0b18  h_σ) (fb_fX12_truth_0b20  h_σ)
theorem fb_fX12_truth_0b0 {σ0 : ST}  {l1 : Int32} {l2 : Int32} {l3 : Int32} {σ : ST} (h_σ : Fr [] [(71, 71)] σ0 σ) : FrP [] [(71, 71)] σ0 (fX12_truth_0b0 l1 l2 l3 σ) := by
  unfold fX12_truth_0b0
  refine bdF2 fun v3 _ => ?_
  exact iteF2 (fb_fX12_truth_0b18  h_σ) (fb_fX12_truth_0b9  h_σ)
theorem fr_fX12_truth_0 {p1 : Int32} {p2 : Int32} {p3 : Int32} {σ : ST} : Fr [] [(71, 71)] σ (fX12_truth_0 p1 p2 p3 σ).2 := fb_fX12_truth_0b0 (Fr.refl σ)
theorem fb_fX12_mostRight_0b239 {σ0 : ST}  {σ : ST} (h_σ : Fr [] [(92, 93)] σ0 σ) : FrP [] [(92, 93)] σ0 (fX12_mostRight_0b239 σ) := by
  unfold fX12_mostRight_0b239
  refine bdF2 fun v246 _ => ?_
  exact h_σ
theorem fb_fX12_mostRight_0b233 {σ0 : ST} {K105 : Int32 → ST → (Int32 × ST)} (hK105 : ∀ (q0 : Int32) (τ : ST), Fr [] [(92, 93)] σ0 τ → FrP [] [(92, 93)] σ0 (K105 q0 τ)) {l1 : Int32} {σ : ST} (h_σ : Fr [] [(92, 93)] σ0 σ) : FrP [] [(92, 93)] σ0 (fX12_mostRight_0b233 K105 l1 σ) := by
  unfold fX12_mostRight_0b233
  refine bdF2 fun v233 _ => ?_
  exact hK105 _ _ h_σ
theorem fb_fX12_mostRight_0b214 {σ0 : ST} {K105 : Int32 → ST → (Int32 × ST)} (hK105 : ∀ (q0 : Int32) (τ : ST), Fr [] [(92, 93)] σ0 τ → FrP [] [(92, 93)] σ0 (K105 q0 τ)) {K113 : Int32 → Int32 → ST → (Int32 × ST)} (hK113 : ∀ (q0 : Int32) (q1 : Int32) (τ : ST), Fr [] [(92, 93)] σ0 τ → FrP [] [(92, 93)] σ0 (K113 q0 q1 τ)) {l1 : Int32} {l2 : Int32} {l3 : Int32} {σ : ST} (h_σ : Fr [] [(92, 93)] σ0 σ) : FrP [] [(92, 93)] σ0 (fX12_mostRight_0b214 K105 K113 l1 l2 l3 σ) := by
  unfold fX12_mostRight_0b214
  refine bdF2 fun v222 _ => ?_
  refine bdF2 fun v224 _ => ?_
  refine bdF2 fun s226 e_s226 => ?_
  have h_s226 : Fr [] [(92, 93)] σ0 s226 := by rw [e_s226]; exact h_σ.putA rfl
  refine bdF2 fun v227 _ => ?_
  exact hK113 _ _ _ h_s226
theorem fb_fX12_mostRight_0b207 {σ0 : ST} {K105 : Int32 → ST → (Int32 × ST)} (hK105 : ∀ (q0 : Int32) (τ : ST), Fr [] [(92, 93)] σ0 τ → FrP [] [(92, 93)] σ0 (K105 q0 τ)) {K113 : Int32 → Int32 → ST → (Int32 × ST)} (hK113 : ∀ (q0 : Int32) (q1 : Int32) (τ : ST), Fr [] [(92, 93)] σ0 τ → FrP [] [(92, 93)] σ0 (K113 q0 q1 τ)) {K138 : Int32 → Int32 → Int32 → Int32 → ST → (Int32 × ST)} (hK138 : ∀ (q0 : Int32) (q1 : Int32) (q2 : Int32) (q3 : Int32) (τ : ST), Fr [] [(92, 93)] σ0 τ → FrP [] [(92, 93)] σ0 (K138 q0 q1 q2 q3 τ)) {l1 : Int32} {l2 : Int32} {l4 : Int32} {t0 : Int32} {σ : ST} (h_σ : Fr [] [(92, 93)] σ0 σ) : FrP [] [(92, 93)] σ0 (fX12_mostRight_0b207 K105 K113 K138 l1 l2 l4 t0 σ) := by
  unfold fX12_mostRight_0b207
  refine bdF2 fun v208 _ => ?_
  exact hK138 _ _ _ _ _ h_σ
theorem fb_fX12_mostRight_0b206 {σ0 : ST} {K105 : Int32 → ST → (Int32 × ST)} (hK105 : ∀ (q0 : Int32) (τ : ST), Fr [] [(92, 93)] σ0 τ → FrP [] [(92, 93)] σ0 (K105 q0 τ)) {K113 : Int32 → Int32 → ST → (Int32 × ST)} (hK113 : ∀ (q0 : Int32) (q1 : Int32) (τ : ST), Fr [] [(92, 93)] σ0 τ → FrP [] [(92, 93)] σ0 (K113 q0 q1 τ)) {K138 : Int32 → Int32 → Int32 → Int32 → ST → (Int32 × ST)} (hK138 : ∀ (q0 : Int32) (q1 : Int32) (q2 : Int32) (q3 : Int32) (τ : ST), Fr [] [(92, 93)] σ0 τ → FrP [] [(92, 93)] σ0 (K138 q0 q1 q2 q3 τ)) {l1 : Int32} {l2 : Int32} {l3 : Int32} {l4 : Int32} {σ : ST} (h_σ : Fr [] [(92, 93)] σ0 σ) : FrP [] [(92, 93)] σ0 (fX12_mostRight_0b206 K105 K113 K138 l1 l2 l3 l4 σ) := by
  unfold fX12_mostRight_0b206
  exact fb_fX12_mostRight_0b207 hK105 hK113 hK138 h_σ
theorem fb_fX12_mostRight_0b201 {σ0 : ST} {K105 : Int32 → ST → (Int32 × ST)} (hK105 : ∀ (q0 : Int32) (τ : ST), Fr [] [(92, 93)] σ0 τ → FrP [] [(92, 93)] σ0 (K105 q0 τ)) {K113 : Int32 → Int32 → ST → (Int32 × ST)} (hK113 : ∀ (q0 : Int32) (q1 : Int32) (τ : ST), Fr [] [(92, 93)] σ0 τ → FrP [] [(92, 93)] σ0 (K113 q0 q1 τ)) {K138 : Int32 → Int32 → Int32 → Int32 → ST → (Int32 × ST)} (hK138 : ∀ (q0 : Int32) (q1 : Int32) (q2 : Int32) (q3 : Int32) (τ : ST), Fr [] [(92, 93)] σ0 τ → FrP [] [(92, 93)] σ0 (K138 q0 q1 q2 q3 τ)) {l1 : Int32} {l2 : Int32} {l4 : Int32} {l5 : Int32} {σ : ST} (h_σ : Fr [] [(92, 93)] σ0 σ) : FrP [] [(92, 93)] σ0 (fX12_mostRight_0b201 K105 K113 K138 l1 l2 l4 l5 σ) := by
  unfold fX12_mostRight_0b201
  exact fb_fX12_mostRight_0b207 hK105 hK113 hK138 h_σ
theorem fb_fX12_mostRight_0b193 {σ0 : ST} {K105 : Int32 → ST → (Int32 × ST)} (hK105 : ∀ (q0 : Int32) (τ : ST), Fr [] [(92, 93)] σ0 τ → FrP [] [(92, 93)] σ0 (K105 q0 τ)) {K113 : Int32 → Int32 → ST → (Int32 × ST)} (hK113 : ∀ (q0 : Int32) (q1 : Int32) (τ : ST), Fr [] [(92, 93)] σ0 τ → FrP [] [(92, 93)] σ0 (K113 q0 q1 τ)) {K138 : Int32 → Int32 → Int32 → Int32 → ST → (Int32 × ST)} (hK138 : ∀ (q0 : Int32) (q1 : Int32) (q2 : Int32) (q3 : Int32) (τ : ST), Fr [] [(92, 93)] σ0 τ → FrP [] [(92, 93)] σ0 (K138 q0 q1 q2 q3 τ)) {l1 : Int32} {l2 : Int32} {l3 : Int32} {l4 : Int32} {t0 : Int32} {σ : ST} (h_σ : Fr [] [(92, 93)] σ0 σ) : FrP [] [(92, 93)] σ0 (fX12_mostRight_0b193 K105 K113 K138 l1 l2 l3 l4 t0 σ) := by
  unfold fX12_mostRight_0b193
  exact iteF2 (fb_fX12_mostRight_0b206 hK105 hK113 hK138 h_σ) (fb_fX12_mostRight_0b201 hK105 hK113 hK138 h_σ)
theorem fb_fX12_mostRight_0b192 {σ0 : ST} {K105 : Int32 → ST → (Int32 × ST)} (hK105 : ∀ (q0 : Int32) (τ : ST), Fr [] [(92, 93)] σ0 τ → FrP [] [(92, 93)] σ0 (K105 q0 τ)) {K113 : Int32 → Int32 → ST → (Int32 × ST)} (hK113 : ∀ (q0 : Int32) (q1 : Int32) (τ : ST), Fr [] [(92, 93)] σ0 τ → FrP [] [(92, 93)] σ0 (K113 q0 q1 τ)) {K138 : Int32 → Int32 → Int32 → Int32 → ST → (Int32 × ST)} (hK138 : ∀ (q0 : Int32) (q1 : Int32) (q2 : Int32) (q3 : Int32) (τ : ST), Fr [] [(92, 93)] σ0 τ → FrP [] [(92, 93)] σ0 (K138 q0 q1 q2 q3 τ)) {l1 : Int32} {l2 : Int32} {l3 : Int32} {l4 : Int32} {σ : ST} (h_σ : Fr [] [(92, 93)] σ0 σ) : FrP [] [(92, 93)] σ0 (fX12_mostRight_0b192 K105 K113 K138 l1 l2 l3 l4 σ) := by
  unfold fX12_mostRight_0b192
  exact fb_fX12_mostRight_0b193 hK105 hK113 hK138 h_σ
theorem fb_fX12_mostRight_0b155 {σ0 : ST} {K105 : Int32 → ST → (Int32 × ST)} (hK105 : ∀ (q0 : Int32) (τ : ST), Fr [] [(92, 93)] σ0 τ → FrP [] [(92, 93)] σ0 (K105 q0 τ)) {K113 : Int32 → Int32 → ST → (Int32 × ST)} (hK113 : ∀ (q0 : Int32) (q1 : Int32) (τ : ST), Fr [] [(92, 93)] σ0 τ → FrP [] [(92, 93)] σ0 (K113 q0 q1 τ)) {K138 : Int32 → Int32 → Int32 → Int32 → ST → (Int32 × ST)} (hK138 : ∀ (q0 : Int32) (q1 : Int32) (q2 : Int32) (q3 : Int32) (τ : ST), Fr [] [(92, 93)] σ0 τ → FrP [] [(92, 93)] σ0 (K138 q0 q1 q2 q3 τ)) {l1 : Int32} {l2 : Int32} {l3 : Int32} {l4 : Int32} {σ : ST} (h_σ : Fr [] [(92, 93)] σ0 σ) : FrP [] [(92, 93)] σ0 (fX12_mostRight_0b155 K105 K113 K138 l1 l2 l3 l4 σ) := by
  unfold fX12_mostRight_0b155
  refine bdF2 fun v164 _ => ?_
  refine bdF2 fun v165 _ => ?_
  refine bdF2 fun v170 _ => ?_
  refine bdF2 fun v172 _ => ?_
  refine bdF2 fun v173 _ => ?_
  refine bdF2 fun v174 _ => ?_
  refine bdF2 fun v175 _ => ?_
  refine bdF2 fun v183 _ => ?_
  refine bdF2 fun v186 _ => ?_
  refine bdF2 fun v187 _ => ?_
  refine bdF2 fun v188 _ => ?_
  exact fb_fX12_mostRight_0b193 hK105 hK113 hK138 h_σ
theorem fb_fX12_mostRight_0b145 {σ0 : ST} {K105 : Int32 → ST → (Int32 × ST)} (hK105 : ∀ (q0 : Int32) (τ : ST), Fr [] [(92, 93)] σ0 τ → FrP [] [(92, 93)] σ0 (K105 q0 τ)) {K113 : Int32 → Int32 → ST → (Int32 × ST)} (hK113 : ∀ (q0 : Int32) (q1 : Int32) (τ : ST), Fr [] [(92, 93)] σ0 τ → FrP [] [(92, 93)] σ0 (K113 q0 q1 τ)) {K138 : Int32 → Int32 → Int32 → Int32 → ST → (Int32 × ST)} (hK138 : ∀ (q0 : Int32) (q1 : Int32) (q2 : Int32) (q3 : Int32) (τ : ST), Fr [] [(92, 93)] σ0 τ → FrP [] [(92, 93)] σ0 (K138 q0 q1 q2 q3 τ)) {l1 : Int32} {l2 : Int32} {l3 : Int32} {l4 : Int32} {σ : ST} (h_σ : Fr [] [(92, 93)] σ0 σ) : FrP [] [(92, 93)] σ0 (fX12_mostRight_0b145 K105 K113 K138 l1 l2 l3 l4 σ) := by
  unfold fX12_mostRight_0b145
  refine bdF2 fun v148 _ => ?_
  refine bdF2 fun v150 _ => ?_
  exact iteF2 (fb_fX12_mostRight_0b155 hK105 hK113 hK138 h_σ) (fb_fX12_mostRight_0b192 hK105 hK113 hK138 h_σ)
theorem fb_fX12_mostRight_0b138 {σ0 : ST} {K105 : Int32 → ST → (Int32 × ST)} (hK105 : ∀ (q0 : Int32) (τ : ST), Fr [] [(92, 93)] σ0 τ → FrP [] [(92, 93)] σ0 (K105 q0 τ)) {K113 : Int32 → Int32 → ST → (Int32 × ST)} (hK113 : ∀ (q0 : Int32) (q1 : Int32) (τ : ST), Fr [] [(92, 93)] σ0 τ → FrP [] [(92, 93)] σ0 (K113 q0 q1 τ)) {K138 : Int32 → Int32 → Int32 → Int32 → ST → (Int32 × ST)} (hK138 : ∀ (q0 : Int32) (q1 : Int32) (q2 : Int32) (q3 : Int32) (τ : ST), Fr [] [(92, 93)] σ0 τ → FrP [] [(92, 93)] σ0 (K138 q0 q1 q2 q3 τ)) {l1 : Int32} {l2 : Int32} {l3 : Int32} {l4 : Int32} {σ : ST} (h_σ : Fr [] [(92, 93)] σ0 σ) : FrP [] [(92, 93)] σ0 (fX12_mostRight_0b138 K105 K113 K138 l1 l2 l3 l4 σ) := by
  unfold fX12_mostRight_0b138
  exact iteF2 (fb_fX12_mostRight_0b214 hK105 hK113 h_σ) (fb_fX12_mostRight_0b145 hK105 hK113 hK138 h_σ)
theorem fb_fX12_mostRight_0l138 {σ0 : ST} {K105 : Int32 → ST → (Int32 × ST)} (hK105 : ∀ (q0 : Int32) (τ : ST), Fr [] [(92, 93)] σ0 τ → FrP [] [(92, 93)] σ0 (K105 q0 τ)) {K113 : Int32 → Int32 → ST → (Int32 × ST)} (hK113 : ∀ (q0 : Int32) (q1 : Int32) (τ : ST), Fr [] [(92, 93)] σ0 τ → FrP [] [(92, 93)] σ0 (K113 q0 q1 τ)) : ∀ (fu : Nat) {q0 : Int32} {q1 : Int32} {q2 : Int32} {q3 : Int32} {τ : ST} (h : Fr [] [(92, 93)] σ0 τ), FrP [] [(92, 93)] σ0 (fX12_mostRight_0l138 K105 K113 fu q0 q1 q2 q3 τ)
  | 0, _, _, _, _, _, h => h
  | fu + 1, _, _, _, _, _, h => fb_fX12_mostRight_0b138 hK105 hK113 (fun _ _ _ _ _ q => fb_fX12_mostRight_0l138 hK105 hK113 fu q) h
theorem fb_fX12_mostRight_0b120 {σ0 : ST} {K105 : Int32 → ST → (Int32 × ST)} (hK105 : ∀ (q0 : Int32) (τ : ST), Fr [] [(92, 93)] σ0 τ → FrP [] [(92, 93)] σ0 (K105 q0 τ)) {K113 : Int32 → Int32 → ST → (Int32 × ST)} (hK113 : ∀ (q0 : Int32) (q1 : Int32) (τ : ST), Fr [] [(92, 93)] σ0 τ → FrP [] [(92, 93)] σ0 (K113 q0 q1 τ)) {l1 : Int32} {l2 : Int32} {σ : ST} (h_σ : Fr [] [(92, 93)] σ0 σ) : FrP [] [(92, 93)] σ0 (fX12_mostRight_0b120 K105 K113 l1 l2 σ) := by
  unfold fX12_mostRight_0b120
  refine bdF2 fun v129 _ => ?_
  refine bdF2 fun v130 _ => ?_
  refine bdF2 fun v132 _ => ?_
  refine bdF2 fun v133 _ => ?_
  exact fb_fX12_mostRight_0l138 hK105 hK113 _ h_σ
theorem fb_fX12_mostRight_0b113 {σ0 : ST} {K105 : Int32 → ST → (Int32 × ST)} (hK105 : ∀ (q0 : Int32) (τ : ST), Fr [] [(92, 93)] σ0 τ → FrP [] [(92, 93)] σ0 (K105 q0 τ)) {K113 : Int32 → Int32 → ST → (Int32 × ST)} (hK113 : ∀ (q0 : Int32) (q1 : Int32) (τ : ST), Fr [] [(92, 93)] σ0 τ → FrP [] [(92, 93)] σ0 (K113 q0 q1 τ)) {l1 : Int32} {l2 : Int32} {σ : ST} (h_σ : Fr [] [(92, 93)] σ0 σ) : FrP [] [(92, 93)] σ0 (fX12_mostRight_0b113 K105 K113 l1 l2 σ) := by
  unfold fX12_mostRight_0b113
  exact iteF2 (fb_fX12_mostRight_0b233 hK105 h_σ) (fb_fX12_mostRight_0b120 hK105 hK113 h_σ)
theorem fb_fX12_mostRight_0l113 {σ0 : ST} {K105 : Int32 → ST → (Int32 × ST)} (hK105 : ∀ (q0 : Int32) (τ : ST), Fr [] [(92, 93)] σ0 τ → FrP [] [(92, 93)] σ0 (K105 q0 τ)) : ∀ (fu : Nat) {q0 : Int32} {q1 : Int32} {τ : ST} (h : Fr [] [(92, 93)] σ0 τ), FrP [] [(92, 93)] σ0 (fX12_mostRight_0l113 K105 fu q0 q1 τ)
  | 0, _, _, _, h => h
  | fu + 1, _, _, _, h => fb_fX12_mostRight_0b113 hK105 (fun _ _ _ q => fb_fX12_mostRight_0l113 hK105 fu q) h
theorem fb_fX12_mostRight_0b111 {σ0 : ST} {K105 : Int32 → ST → (Int32 × ST)} (hK105 : ∀ (q0 : Int32) (τ : ST), Fr [] [(92, 93)] σ0 τ → FrP [] [(92, 93)] σ0 (K105 q0 τ)) {l1 : Int32} {σ : ST} (h_σ : Fr [] [(92, 93)] σ0 σ) : FrP [] [(92, 93)] σ0 (fX12_mostRight_0b111 K105 l1 σ) := by
  unfold fX12_mostRight_0b111
  exact fb_fX12_mostRight_0l113 hK105 _ h_σ
theorem fb_fX12_mostRight_0b105 {σ0 : ST} {K105 : Int32 → ST → (Int32 × ST)} (hK105 : ∀ (q0 : Int32) (τ : ST), Fr [] [(92, 93)] σ0 τ → FrP [] [(92, 93)] σ0 (K105 q0 τ)) {l1 : Int32} {σ : ST} (h_σ : Fr [] [(92, 93)] σ0 σ) : FrP [] [(92, 93)] σ0 (fX12_mostRight_0b105 K105 l1 σ) := by
  unfold fX12_mostRight_0b105
  exact iteF2 (fb_fX12_mostRight_0b239  h_σ) (fb_fX12_mostRight_0b111 hK105 h_σ)
theorem fb_fX12_mostRight_0l105 {σ0 : ST}  : ∀ (fu : Nat) {q0 : Int32} {τ : ST} (h : Fr [] [(92, 93)] σ0 τ), FrP [] [(92, 93)] σ0 (fX12_mostRight_0l105 fu q0 τ)
  | 0, _, _, h => h
  | fu + 1, _, _, h => fb_fX12_mostRight_0b105 (fun _ _ q => fb_fX12_mostRight_0l105  fu q) h
theorem fb_fX12_mostRight_0b103 {σ0 : ST}  {σ : ST} (h_σ : Fr [] [(92, 93)] σ0 σ) : FrP [] [(92, 93)] σ0 (fX12_mostRight_0b103 σ) := by
  unfold fX12_mostRight_0b103
  exact fb_fX12_mostRight_0l105  _ h_σ
theorem fb_fX12_mostRight_0b90 {σ0 : ST} {K83 : Int32 → ST → (Int32 × ST)} (hK83 : ∀ (q0 : Int32) (τ : ST), Fr [] [(92, 93)] σ0 τ → FrP [] [(92, 93)] σ0 (K83 q0 τ)) {l1 : Int32} {σ : ST} (h_σ : Fr [] [(92, 93)] σ0 σ) : FrP [] [(92, 93)] σ0 (fX12_mostRight_0b90 K83 l1 σ) := by
  unfold fX12_mostRight_0b90
  refine bdF2 fun s96 e_s96 => ?_
  have h_s96 : Fr [] [(92, 93)] σ0 s96 := by rw [e_s96]; exact h_σ.putA rfl
  refine bdF2 fun v97 _ => ?_
  exact hK83 _ _ h_s96
theorem fb_fX12_mostRight_0b83 {σ0 : ST} {K83 : Int32 → ST → (Int32 × ST)} (hK83 : ∀ (q0 : Int32) (τ : ST), Fr [] [(92, 93)] σ0 τ → FrP [] [(92, 93)] σ0 (K83 q0 τ)) {l1 : Int32} {σ : ST} (h_σ : Fr [] [(92, 93)] σ0 σ) : FrP [] [(92, 93)] σ0 (fX12_mostRight_0b83 K83 l1 σ) := by
  unfold fX12_mostRight_0b83
  exact iteF2 (fb_fX12_mostRight_0b103  h_σ) (fb_fX12_mostRight_0b90 hK83 h_σ)
theorem fb_fX12_mostRight_0l83 {σ0 : ST}  : ∀ (fu : Nat) {q0 : Int32} {τ : ST} (h : Fr [] [(92, 93)] σ0 τ), FrP [] [(92, 93)] σ0 (fX12_mostRight_0l83 fu q0 τ)
  | 0, _, _, h => h
  | fu + 1, _, _, h => fb_fX12_mostRight_0b83 (fun _ _ q => fb_fX12_mostRight_0l83  fu q) h
theorem fb_fX12_mostRight_0b81 {σ0 : ST}  {σ : ST} (h_σ : Fr [] [(92, 93)] σ0 σ) : FrP [] [(92, 93)] σ0 (fX12_mostRight_0b81 σ) := by
  unfold fX12_mostRight_0b81
  exact fb_fX12_mostRight_0l83  _ h_σ
theorem fb_fX12_mostRight_0b75 {σ0 : ST} {K23 : Int32 → ST → (Int32 × ST)} (hK23 : ∀ (q0 : Int32) (τ : ST), Fr [] [(92, 93)] σ0 τ → FrP [] [(92, 93)] σ0 (K23 q0 τ)) {l1 : Int32} {σ : ST} (h_σ : Fr [] [(92, 93)] σ0 σ) : FrP [] [(92, 93)] σ0 (fX12_mostRight_0b75 K23 l1 σ) := by
  unfold fX12_mostRight_0b75
  refine bdF2 fun v75 _ => ?_
  exact hK23 _ _ h_σ
theorem fb_fX12_mostRight_0b51 {σ0 : ST} {K23 : Int32 → ST → (Int32 × ST)} (hK23 : ∀ (q0 : Int32) (τ : ST), Fr [] [(92, 93)] σ0 τ → FrP [] [(92, 93)] σ0 (K23 q0 τ)) {l1 : Int32} {σ : ST} (h_σ : Fr [] [(92, 93)] σ0 σ) : FrP [] [(92, 93)] σ0 (fX12_mostRight_0b51 K23 l1 σ) := by
  unfold fX12_mostRight_0b51
  refine bdF2 fun v62 _ => ?_
  refine bdF2 fun v63 _ => ?_
  refine bdF2 fun v66 _ => ?_
  refine bdF2 fun v69 _ => ?_
  refine bdF2 fun v71 _ => ?_
  refine bdF2 fun v73 _ => ?_
  refine bdF2 fun s74 e_s74 => ?_
  have h_s74 : Fr [] [(92, 93)] σ0 s74 := by rw [e_s74]; exact h_σ.putA rfl
  exact fb_fX12_mostRight_0b75 hK23 h_s74
theorem fb_fX12_mostRight_0b42 {σ0 : ST} {K23 : Int32 → ST → (Int32 × ST)} (hK23 : ∀ (q0 : Int32) (τ : ST), Fr [] [(92, 93)] σ0 τ → FrP [] [(92, 93)] σ0 (K23 q0 τ)) {l1 : Int32} {σ : ST} (h_σ : Fr [] [(92, 93)] σ0 σ) : FrP [] [(92, 93)] σ0 (fX12_mostRight_0b42 K23 l1 σ) := by
  unfold fX12_mostRight_0b42
  refine bdF2 fun v47 _ => ?_
  exact iteF2 (fb_fX12_mostRight_0b75 hK23 h_σ) (fb_fX12_mostRight_0b51 hK23 h_σ)
theorem fb_fX12_mostRight_0b31 {σ0 : ST} {K23 : Int32 → ST → (Int32 × ST)} (hK23 : ∀ (q0 : Int32) (τ : ST), Fr [] [(92, 93)] σ0 τ → FrP [] [(92, 93)] σ0 (K23 q0 τ)) {l1 : Int32} {σ : ST} (h_σ : Fr [] [(92, 93)] σ0 σ) : FrP [] [(92, 93)] σ0 (fX12_mostRight_0b31 K23 l1 σ) := by
  unfold fX12_mostRight_0b31
  refine bdF2 fun v36 _ => ?_
  exact iteF2 (fb_fX12_mostRight_0b75 hK23 h_σ) (fb_fX12_mostRight_0b42 hK23 h_σ)
theorem fb_fX12_mostRight_0b23 {σ0 : ST} {K23 : Int32 → ST → (Int32 × ST)} (hK23 : ∀ (q0 : Int32) (τ : ST), Fr [] [(92, 93)] σ0 τ → FrP [] [(92, 93)] σ0 (K23 q0 τ)) {l1 : Int32} {σ : ST} (h_σ : Fr [] [(92, 93)] σ0 σ) : FrP [] [(92, 93)] σ0 (fX12_mostRight_0b23 K23 l1 σ) := by
  unfold fX12_mostRight_0b23
  refine bdF2 fun v25 _ => ?_
  exact iteF2 (fb_fX12_mostRight_0b81  h_σ) (fb_fX12_mostRight_0b31 hK23 h_σ)
theorem fb_fX12_mostRight_0l23 {σ0 : ST}  : ∀ (fu : Nat) {q0 : Int32} {τ : ST} (h : Fr [] [(92, 93)] σ0 τ), FrP [] [(92, 93)] σ0 (fX12_mostRight_0l23 fu q0 τ)
  | 0, _, _, h => h
  | fu + 1, _, _, h => fb_fX12_mostRight_0b23 (fun _ _ q => fb_fX12_mostRight_0l23  fu q) h
theorem fb_fX12_mostRight_0b21 {σ0 : ST}  {σ : ST} (h_σ : Fr [] [(92, 93)] σ0 σ) : FrP [] [(92, 93)] σ0 (fX12_mostRight_0b21 σ) := by
  unfold fX12_mostRight_0b21
  exact fb_fX12_mostRight_0l23  _ h_σ
theorem fb_fX12_mostRight_0b8 {σ0 : ST} {K2 : Int32 → ST → (Int32 × ST)} (hK2 : ∀ (q0 : Int32) (τ : ST), Fr [] [(92, 93)] σ0 τ → FrP [] [(92, 93)] σ0 (K2 q0 τ)) {l1 : Int32} {σ : ST} (h_σ : Fr [] [(92, 93)] σ0 σ) : FrP [] [(92, 93)] σ0 (fX12_mostRight_0b8 K2 l1 σ) := by
  unfold fX12_mostRight_0b8
  refine bdF2 fun s14 e_s14 => ?_
  have h_s14 : Fr [] [(92, 93)] σ0 s14 := by rw [e_s14]; exact h_σ.putA rfl
  refine bdF2 fun v15 _ => ?_
  exact hK2 _ _ h_s14
theorem fb_fX12_mostRight_0b2 {σ0 : ST} {K2 : Int32 → ST → (Int32 × ST)} (hK2 : ∀ (q0 : Int32) (τ : ST), Fr [] [(92, 93)] σ0 τ → FrP [] [(92, 93)] σ0 (K2 q0 τ)) {l1 : Int32} {σ : ST} (h_σ : Fr [] [(92, 93)] σ0 σ) : FrP [] [(92, 93)] σ0 (fX12_mostRight_0b2 K2 l1 σ) := by
  unfold fX12_mostRight_0b2
  exact iteF2 (fb_fX12_mostRight_0b21  h_σ) (fb_fX12_mostRight_0b8 hK2 h_σ)
theorem fb_fX12_mostRight_0l2 {σ0 : ST}  : ∀ (fu : Nat) {q0 : Int32} {τ : ST} (h : Fr [] [(92, 93)] σ0 τ), FrP [] [(92, 93)] σ0 (fX12_mostRight_0l2 fu q0 τ)
  | 0, _, _, h => h
  | fu + 1, _, _, h => fb_fX12_mostRight_0b2 (fun _ _ q => fb_fX12_mostRight_0l2  fu q) h
theorem fb_fX12_mostRight_0b0 {σ0 : ST}  {σ : ST} (h_σ : Fr [] [(92, 93)] σ0 σ) : FrP [] [(92, 93)] σ0 (fX12_mostRight_0b0 σ) := by
  unfold fX12_mostRight_0b0
  exact fb_fX12_mostRight_0l2  _ h_σ
theorem fr_fX12_mostRight_0 {σ : ST} : Fr [] [(92, 93)] σ (fX12_mostRight_0 σ).2 := fb_fX12_mostRight_0b0 (Fr.refl σ)
theorem fb_fX12_errors_0b164 {σ0 : ST}  {t0 : Int32} {σ : ST} (h_σ : Fr [(35, 39)] [(75, 86), (88, 88), (92, 93)] σ0 σ) : FrP [(35, 39)] [(75, 86), (88, 88), (92, 93)] σ0 (fX12_errors_0b164 t0 σ) := by
  unfold fX12_errors_0b164
  exact h_σ
theorem fb_fX12_errors_0b162 {σ0 : ST}  {σ : ST} (h_σ : Fr [(35, 39)] [(75, 86), (88, 88), (92, 93)] σ0 σ) : FrP [(35, 39)] [(75, 86), (88, 88), (92, 93)] σ0 (fX12_errors_0b162 σ) := by
  unfold fX12_errors_0b162
  exact fb_fX12_errors_0b164  h_σ
theorem fb_fX12_errors_0b152 {σ0 : ST}  {l4 : Int32} {σ : ST} (h_σ : Fr [(35, 39)] [(75, 86), (88, 88), (92, 93)] σ0 σ) : FrP [(35, 39)] [(75, 86), (88, 88), (92, 93)] σ0 (fX12_errors_0b152 l4 σ) := by
  unfold fX12_errors_0b152
  refine bpF2 fun v155 s155 e_s155 => ?_
  have h_s155 : Fr [(35, 39)] [(75, 86), (88, 88), (92, 93)] σ0 s155 := by rw [← e_s155]; exact h_σ.call fr_fX12_mostRight_0 rfl rfl
  refine bdF2 fun v158 _ => ?_
  exact fb_fX12_errors_0b164  h_s155
theorem fb_fX12_errors_0b145 {σ0 : ST}  {l4 : Int32} {σ : ST} (h_σ : Fr [(35, 39)] [(75, 86), (88, 88), (92, 93)] σ0 σ) : FrP [(35, 39)] [(75, 86), (88, 88), (92, 93)] σ0 (fX12_errors_0b145 l4 σ) := by
  unfold fX12_errors_0b145
  refine bpF2 fun v146 s146 e_s146 => ?_
  have h_s146 : Fr [(35, 39)] [(75, 86), (88, 88), (92, 93)] σ0 s146 := by rw [← e_s146]; exact h_σ.call fr_fX12_findBest_0 rfl rfl
  exact iteF2 (fb_fX12_errors_0b162  h_s146) (fb_fX12_errors_0b152  h_s146)
theorem fb_fX12_errors_0b144 {σ0 : ST}  {t0 : Int32} {σ : ST} (h_σ : Fr [(35, 39)] [(75, 86), (88, 88), (92, 93)] σ0 σ) : FrP [(35, 39)] [(75, 86), (88, 88), (92, 93)] σ0 (fX12_errors_0b144 t0 σ) := by
  unfold fX12_errors_0b144
  exact h_σ
theorem fb_fX12_errors_0b143 {σ0 : ST}  {l3 : Int32} {σ : ST} (h_σ : Fr [(35, 39)] [(75, 86), (88, 88), (92, 93)] σ0 σ) : FrP [(35, 39)] [(75, 86), (88, 88), (92, 93)] σ0 (fX12_errors_0b143 l3 σ) := by
  unfold fX12_errors_0b143
  exact fb_fX12_errors_0b144  h_σ
theorem fb_fX12_errors_0b139 {σ0 : ST}  {l2 : Int32} {σ : ST} (h_σ : Fr [(35, 39)] [(75, 86), (88, 88), (92, 93)] σ0 σ) : FrP [(35, 39)] [(75, 86), (88, 88), (92, 93)] σ0 (fX12_errors_0b139 l2 σ) := by
  unfold fX12_errors_0b139
  exact fb_fX12_errors_0b144  h_σ
theorem fb_fX12_errors_0b135 {σ0 : ST}  {l1 : Int32} {l2 : Int32} {l3 : Int32} {σ : ST} (h_σ : Fr [(35, 39)] [(75, 86), (88, 88), (92, 93)] σ0 σ) : FrP [(35, 39)] [(75, 86), (88, 88), (92, 93)] σ0 (fX12_errors_0b135 l1 l2 l3 σ) := by
  unfold fX12_errors_0b135
  exact iteF2 (fb_fX12_errors_0b139  h_σ) (fb_fX12_errors_0b143  h_σ)
theorem fb_fX12_errors_0b130 {σ0 : ST}  {l1 : Int32} {l2 : Int32} {l3 : Int32} {l4 : Int32} {σ : ST} (h_σ : Fr [(35, 39)] [(75, 86), (88, 88), (92, 93)] σ0 σ) : FrP [(35, 39)] [(75, 86), (88, 88), (92, 93)] σ0 (fX12_errors_0b130 l1 l2 l3 l4 σ) := by
  unfold fX12_errors_0b130
  exact iteF2 (fb_fX12_errors_0b145  h_σ) (fb_fX12_errors_0b135  h_σ)
theorem fb_fX12_errors_0b121 {σ0 : ST} {K25 : Int32 → Int32 → Int32 → Int32 → Int32 → ST → (Int32 × ST)} (hK25 : ∀ (q0 : Int32) (q1 : Int32) (q2 : Int32) (q3 : Int32) (q4 : Int32) (τ : ST), Fr [(35, 39)] [(75, 86), (88, 88), (92, 93)] σ0 τ → FrP [(35, 39)] [(75, 86), (88, 88), (92, 93)] σ0 (K25 q0 q1 q2 q3 q4 τ)) {l1 : Int32} {l2 : Int32} {l3 : Int32} {l5 : Int32} {t0 : Int32} {t1 : Int32} {σ : ST} (h_σ : Fr [(35, 39)] [(75, 86), (88, 88), (92, 93)] σ0 σ) : FrP [(35, 39)] [(75, 86), (88, 88), (92, 93)] σ0 (fX12_errors_0b121 K25 l1 l2 l3 l5 t0 t1 σ) := by
  unfold fX12_errors_0b121
  refine bdF2 fun v121 _ => ?_
  refine bdF2 fun v124 _ => ?_
  exact hK25 _ _ _ _ _ _ h_σ
theorem fb_fX12_errors_0b120 {σ0 : ST} {K25 : Int32 → Int32 → Int32 → Int32 → Int32 → ST → (Int32 × ST)} (hK25 : ∀ (q0 : Int32) (q1 : Int32) (q2 : Int32) (q3 : Int32) (q4 : Int32) (τ : ST), Fr [(35, 39)] [(75, 86), (88, 88), (92, 93)] σ0 τ → FrP [(35, 39)] [(75, 86), (88, 88), (92, 93)] σ0 (K25 q0 q1 q2 q3 q4 τ)) {l1 : Int32} {l2 : Int32} {l3 : Int32} {l5 : Int32} {t0 : Int32} {σ : ST} (h_σ : Fr [(35, 39)] [(75, 86), (88, 88), (92, 93)] σ0 σ) : FrP [(35, 39)] [(75, 86), (88, 88), (92, 93)] σ0 (fX12_errors_0b120 K25 l1 l2 l3 l5 t0 σ) := by
  unfold fX12_errors_0b120
  exact fb_fX12_errors_0b121 hK25 h_σ
theorem fb_fX12_errors_0b116 {σ0 : ST} {K25 : Int32 → Int32 → Int32 → Int32 → Int32 → ST → (Int32 × ST)} (hK25 : ∀ (q0 : Int32) (q1 : Int32) (q2 : Int32) (q3 : Int32) (q4 : Int32) (τ : ST), Fr [(35, 39)] [(75, 86), (88, 88), (92, 93)] σ0 τ → FrP [(35, 39)] [(75, 86), (88, 88), (92, 93)] σ0 (K25 q0 q1 q2 q3 q4 τ)) {l1 : Int32} {l2 : Int32} {l3 : Int32} {l5 : Int32} {t0 : Int32} {σ : ST} (h_σ : Fr [(35, 39)] [(75, 86), (88, 88), (92, 93)] σ0 σ) : FrP [(35, 39)] [(75, 86), (88, 88), (92, 93)] σ0 (fX12_errors_0b116 K25 l1 l2 l3 l5 t0 σ) := by
  unfold fX12_errors_0b116
  exact fb_fX12_errors_0b121 hK25 h_σ
theorem fb_fX12_errors_0b106 {σ0 : ST} {K25 : Int32 → Int32 → Int32 → Int32 → Int32 → ST → (Int32 × ST)} (hK25 : ∀ (q0 : Int32) (q1 : Int32) (q2 : Int32) (q3 : Int32) (q4 : Int32) (τ : ST), Fr [(35, 39)] [(75, 86), (88, 88), (92, 93)] σ0 τ → FrP [(35, 39)] [(75, 86), (88, 88), (92, 93)] σ0 (K25 q0 q1 q2 q3 q4 τ)) {l1 : Int32} {l2 : Int32} {l3 : Int32} {l5 : Int32} {t0 : Int32} {σ : ST} (h_σ : Fr [(35, 39)] [(75, 86), (88, 88), (92, 93)] σ0 σ) : FrP [(35, 39)] [(75, 86), (88, 88), (92, 93)] σ0 (fX12_errors_0b106 K25 l1 l2 l3 l5 t0 σ) := by
  unfold fX12_errors_0b106
  refine bdF2 fun v112 _ => ?_
  exact iteF2 (fb_fX12_errors_0b120 hK25 h_σ) (fb_fX12_errors_0b116 hK25 h_σ)
theorem fb_fX12_errors_0b97 {σ0 : ST} {K25 : Int32 → Int32 → Int32 → Int32 → Int32 → ST → (Int32 × ST)} (hK25 : ∀ (q0 : Int32) (q1 : Int32) (q2 : Int32) (q3 : Int32) (q4 : Int32) (τ : ST), Fr [(35, 39)] [(75, 86), (88, 88), (92, 93)] σ0 τ → FrP [(35, 39)] [(75, 86), (88, 88), (92, 93)] σ0 (K25 q0 q1 q2 q3 q4 τ)) {l1 : Int32} {l2 : Int32} {l4 : Int32} {l5 : Int32} {l6 : Int32} {t0 : Int32} {t1 : Int32} {σ : ST} (h_σ : Fr [(35, 39)] [(75, 86), (88, 88), (92, 93)] σ0 σ) : FrP [(35, 39)] [(75, 86), (88, 88), (92, 93)] σ0 (fX12_errors_0b97 K25 l1 l2 l4 l5 l6 t0 t1 σ) := by
  unfold fX12_errors_0b97
  refine bdF2 fun v97 _ => ?_
  exact iteF2 (fb_fX12_errors_0b120 hK25 h_σ) (fb_fX12_errors_0b106 hK25 h_σ)
theorem fb_fX12_errors_0b96 {σ0 : ST} {K25 : Int32 → Int32 → Int32 → Int32 → Int32 → ST → (Int32 × ST)} (hK25 : ∀ (q0 : Int32) (q1 : Int32) (q2 : Int32) (q3 : Int32) (q4 : Int32) (τ : ST), Fr [(35, 39)] [(75, 86), (88, 88), (92, 93)] σ0 τ → FrP [(35, 39)] [(75, 86), (88, 88), (92, 93)] σ0 (K25 q0 q1 q2 q3 q4 τ)) {l1 : Int32} {l2 : Int32} {l4 : Int32} {l5 : Int32} {l6 : Int32} {t0 : Int32} {σ : ST} (h_σ : Fr [(35, 39)] [(75, 86), (88, 88), (92, 93)] σ0 σ) : FrP [(35, 39)] [(75, 86), (88, 88), (92, 93)] σ0 (fX12_errors_0b96 K25 l1 l2 l4 l5 l6 t0 σ) := by
  unfold fX12_errors_0b96
  exact fb_fX12_errors_0b97 hK25 h_σ
theorem fb_fX12_errors_0b92 {σ0 : ST} {K25 : Int32 → Int32 → Int32 → Int32 → Int32 → ST → (Int32 × ST)} (hK25 : ∀ (q0 : Int32) (q1 : Int32) (q2 : Int32) (q3 : Int32) (q4 : Int32) (τ : ST), Fr [(35, 39)] [(75, 86), (88, 88), (92, 93)] σ0 τ → FrP [(35, 39)] [(75, 86), (88, 88), (92, 93)] σ0 (K25 q0 q1 q2 q3 q4 τ)) {l1 : Int32} {l2 : Int32} {l4 : Int32} {l5 : Int32} {l6 : Int32} {t0 : Int32} {σ : ST} (h_σ : Fr [(35, 39)] [(75, 86), (88, 88), (92, 93)] σ0 σ) : FrP [(35, 39)] [(75, 86), (88, 88), (92, 93)] σ0 (fX12_errors_0b92 K25 l1 l2 l4 l5 l6 t0 σ) := by
  unfold fX12_errors_0b92
  exact fb_fX12_errors_0b97 hK25 h_σ
theorem fb_fX12_errors_0b82 {σ0 : ST} {K25 : Int32 → Int32 → Int32 → Int32 → Int32 → ST → (Int32 × ST)} (hK25 : ∀ (q0 : Int32) (q1 : Int32) (q2 : Int32) (q3 : Int32) (q4 : Int32) (τ : ST), Fr [(35, 39)] [(75, 86), (88, 88), (92, 93)] σ0 τ → FrP [(35, 39)] [(75, 86), (88, 88), (92, 93)] σ0 (K25 q0 q1 q2 q3 q4 τ)) {l1 : Int32} {l2 : Int32} {l4 : Int32} {l5 : Int32} {l6 : Int32} {t0 : Int32} {σ : ST} (h_σ : Fr [(35, 39)] [(75, 86), (88, 88), (92, 93)] σ0 σ) : FrP [(35, 39)] [(75, 86), (88, 88), (92, 93)] σ0 (fX12_errors_0b82 K25 l1 l2 l4 l5 l6 t0 σ) := by
  unfold fX12_errors_0b82
  refine bdF2 fun v88 _ => ?_
  exact iteF2 (fb_fX12_errors_0b92 hK25 h_σ) (fb_fX12_errors_0b96 hK25 h_σ)
theorem fb_fX12_errors_0b74 {σ0 : ST} {K25 : Int32 → Int32 → Int32 → Int32 → Int32 → ST → (Int32 × ST)} (hK25 : ∀ (q0 : Int32) (q1 : Int32) (q2 : Int32) (q3 : Int32) (q4 : Int32) (τ : ST), Fr [(35, 39)] [(75, 86), (88, 88), (92, 93)] σ0 τ → FrP [(35, 39)] [(75, 86), (88, 88), (92, 93)] σ0 (K25 q0 q1 q2 q3 q4 τ)) {l1 : Int32} {l3 : Int32} {l4 : Int32} {l5 : Int32} {l6 : Int32} {t0 : Int32} {t1 : Int32} {σ : ST} (h_σ : Fr [(35, 39)] [(75, 86), (88, 88), (92, 93)] σ0 σ) : FrP [(35, 39)] [(75, 86), (88, 88), (92, 93)] σ0 (fX12_errors_0b74 K25 l1 l3 l4 l5 l6 t0 t1 σ) := by
  unfold fX12_errors_0b74
  refine bdF2 fun v74 _ => ?_
  exact iteF2 (fb_fX12_errors_0b96 hK25 h_σ) (fb_fX12_errors_0b82 hK25 h_σ)
theorem fb_fX12_errors_0b73 {σ0 : ST} {K25 : Int32 → Int32 → Int32 → Int32 → Int32 → ST → (Int32 × ST)} (hK25 : ∀ (q0 : Int32) (q1 : Int32) (q2 : Int32) (q3 : Int32) (q4 : Int32) (τ : ST), Fr [(35, 39)] [(75, 86), (88, 88), (92, 93)] σ0 τ → FrP [(35, 39)] [(75, 86), (88, 88), (92, 93)] σ0 (K25 q0 q1 q2 q3 q4 τ)) {l1 : Int32} {l3 : Int32} {l4 : Int32} {l5 : Int32} {l6 : Int32} {t0 : Int32} {σ : ST} (h_σ : Fr [(35, 39)] [(75, 86), (88, 88), (92, 93)] σ0 σ) : FrP [(35, 39)] [(75, 86), (88, 88), (92, 93)] σ0 (fX12_errors_0b73 K25 l1 l3 l4 l5 l6 t0 σ) := by
  unfold fX12_errors_0b73
  exact fb_fX12_errors_0b74 hK25 h_σ
theorem fb_fX12_errors_0b69 {σ0 : ST} {K25 : Int32 → Int32 → Int32 → Int32 → Int32 → ST → (Int32 × ST)} (hK25 : ∀ (q0 : Int32) (q1 : Int32) (q2 : Int32) (q3 : Int32) (q4 : Int32) (τ : ST), Fr [(35, 39)] [(75, 86), (88, 88), (92, 93)] σ0 τ → FrP [(35, 39)] [(75, 86), (88, 88), (92, 93)] σ0 (K25 q0 q1 q2 q3 q4 τ)) {l1 : Int32} {l3 : Int32} {l4 : Int32} {l5 : Int32} {l6 : Int32} {t0 : Int32} {σ : ST} (h_σ : Fr [(35, 39)] [(75, 86), (88, 88), (92, 93)] σ0 σ) : FrP [(35, 39)] [(75, 86), (88, 88), (92, 93)] σ0 (fX12_errors_0b69 K25 l1 l3 l4 l5 l6 t0 σ) := by
  unfold fX12_errors_0b69
  exact fb_fX12_errors_0b74 hK25 h_σ
theorem fb_fX12_errors_0b59 {σ0 : ST} {K25 : Int32 → Int32 → Int32 → Int32 → Int32 → ST → (Int32 × ST)} (hK25 : ∀ (q0 : Int32) (q1 : Int32) (q2 : Int32) (q3 : Int32) (q4 : Int32) (τ : ST), Fr [(35, 39)] [(75, 86), (88, 88), (92, 93)] σ0 τ → FrP [(35, 39)] [(75, 86), (88, 88), (92, 93)] σ0 (K25 q0 q1 q2 q3 q4 τ)) {l1 : Int32} {l3 : Int32} {l4 : Int32} {l5 : Int32} {l6 : Int32} {t0 : Int32} {σ : ST} (h_σ : Fr [(35, 39)] [(75, 86), (88, 88), (92, 93)] σ0 σ) : FrP [(35, 39)] [(75, 86), (88, 88), (92, 93)] σ0 (fX12_errors_0b59 K25 l1 l3 l4 l5 l6 t0 σ) := by
  unfold fX12_errors_0b59
  refine bdF2 fun v65 _ => ?_
  exact iteF2 (fb_fX12_errors_0b73 hK25 h_σ) (fb_fX12_errors_0b69 hK25 h_σ)
theorem fb_fX12_errors_0b51 {σ0 : ST} {K25 : Int32 → Int32 → Int32 → Int32 → Int32 → ST → (Int32 × ST)} (hK25 : ∀ (q0 : Int32) (q1 : Int32) (q2 : Int32) (q3 : Int32) (q4 : Int32) (τ : ST), Fr [(35, 39)] [(75, 86), (88, 88), (92, 93)] σ0 τ → FrP [(35, 39)] [(75, 86), (88, 88), (92, 93)] σ0 (K25 q0 q1 q2 q3 q4 τ)) {l1 : Int32} {l2 : Int32} {l3 : Int32} {l4 : Int32} {l5 : Int32} {t0 : Int32} {σ : ST} (h_σ : Fr [(35, 39)] [(75, 86), (88, 88), (92, 93)] σ0 σ) : FrP [(35, 39)] [(75, 86), (88, 88), (92, 93)] σ0 (fX12_errors_0b51 K25 l1 l2 l3 l4 l5 t0 σ) := by
  unfold fX12_errors_0b51
  exact iteF2 (fb_fX12_errors_0b59 hK25 h_σ) (fb_fX12_errors_0b73 hK25 h_σ)
theorem fb_fX12_errors_0b50 {σ0 : ST} {K25 : Int32 → Int32 → Int32 → Int32 → Int32 → ST → (Int32 × ST)} (hK25 : ∀ (q0 : Int32) (q1 : Int32) (q2 : Int32) (q3 : Int32) (q4 : Int32) (τ : ST), Fr [(35, 39)] [(75, 86), (88, 88), (92, 93)] σ0 τ → FrP [(35, 39)] [(75, 86), (88, 88), (92, 93)] σ0 (K25 q0 q1 q2 q3 q4 τ)) {l1 : Int32} {l2 : Int32} {l3 : Int32} {l4 : Int32} {l5 : Int32} {σ : ST} (h_σ : Fr [(35, 39)] [(75, 86), (88, 88), (92, 93)] σ0 σ) : FrP [(35, 39)] [(75, 86), (88, 88), (92, 93)] σ0 (fX12_errors_0b50 K25 l1 l2 l3 l4 l5 σ) := by
  unfold fX12_errors_0b50
  exact fb_fX12_errors_0b51 hK25 h_σ
theorem fb_fX12_errors_0b46 {σ0 : ST} {K25 : Int32 → Int32 → Int32 → Int32 → Int32 → ST → (Int32 × ST)} (hK25 : ∀ (q0 : Int32) (q1 : Int32) (q2 : Int32) (q3 : Int32) (q4 : Int32) (τ : ST), Fr [(35, 39)] [(75, 86), (88, 88), (92, 93)] σ0 τ → FrP [(35, 39)] [(75, 86), (88, 88), (92, 93)] σ0 (K25 q0 q1 q2 q3 q4 τ)) {l1 : Int32} {l2 : Int32} {l3 : Int32} {l4 : Int32} {l5 : Int32} {σ : ST} (h_σ : Fr [(35, 39)] [(75, 86), (88, 88), (92, 93)] σ0 σ) : FrP [(35, 39)] [(75, 86), (88, 88), (92, 93)] σ0 (fX12_errors_0b46 K25 l1 l2 l3 l4 l5 σ) := by
  unfold fX12_errors_0b46
  exact fb_fX12_errors_0b51 hK25 h_σ
theorem fb_fX12_errors_0b34 {σ0 : ST} {K25 : Int32 → Int32 → Int32 → Int32 → Int32 → ST → (Int32 × ST)} (hK25 : ∀ (q0 : Int32) (q1 : Int32) (q2 : Int32) (q3 : Int32) (q4 : Int32) (τ : ST), Fr [(35, 39)] [(75, 86), (88, 88), (92, 93)] σ0 τ → FrP [(35, 39)] [(75, 86), (88, 88), (92, 93)] σ0 (K25 q0 q1 q2 q3 q4 τ)) {l1 : Int32} {l2 : Int32} {l3 : Int32} {l4 : Int32} {l5 : Int32} {σ : ST} (h_σ : Fr [(35, 39)] [(75, 86), (88, 88), (92, 93)] σ0 σ) : FrP [(35, 39)] [(75, 86), (88, 88), (92, 93)] σ0 (fX12_errors_0b34 K25 l1 l2 l3 l4 l5 σ) := by
  unfold fX12_errors_0b34
  refine bdF2 fun v40 _ => ?_
  exact iteF2 (fb_fX12_errors_0b50 hK25 h_σ) (fb_fX12_errors_0b46 hK25 h_σ)
theorem fb_fX12_errors_0b25 {σ0 : ST} {K25 : Int32 → Int32 → Int32 → Int32 → Int32 → ST → (Int32 × ST)} (hK25 : ∀ (q0 : Int32) (q1 : Int32) (q2 : Int32) (q3 : Int32) (q4 : Int32) (τ : ST), Fr [(35, 39)] [(75, 86), (88, 88), (92, 93)] σ0 τ → FrP [(35, 39)] [(75, 86), (88, 88), (92, 93)] σ0 (K25 q0 q1 q2 q3 q4 τ)) {l1 : Int32} {l2 : Int32} {l3 : Int32} {l4 : Int32} {l5 : Int32} {σ : ST} (h_σ : Fr [(35, 39)] [(75, 86), (88, 88), (92, 93)] σ0 σ) : FrP [(35, 39)] [(75, 86), (88, 88), (92, 93)] σ0 (fX12_errors_0b25 K25 l1 l2 l3 l4 l5 σ) := by
  unfold fX12_errors_0b25
  refine bdF2 fun v28 _ => ?_
  exact iteF2 (fb_fX12_errors_0b130  h_σ) (fb_fX12_errors_0b34 hK25 h_σ)
theorem fb_fX12_errors_0l25 {σ0 : ST}  : ∀ (fu : Nat) {q0 : Int32} {q1 : Int32} {q2 : Int32} {q3 : Int32} {q4 : Int32} {τ : ST} (h : Fr [(35, 39)] [(75, 86), (88, 88), (92, 93)] σ0 τ), FrP [(35, 39)] [(75, 86), (88, 88), (92, 93)] σ0 (fX12_errors_0l25 fu q0 q1 q2 q3 q4 τ)
  | 0, _, _, _, _, _, _, h => h
  | fu + 1, _, _, _, _, _, _, h => fb_fX12_errors_0b25 (fun _ _ _ _ _ _ q => fb_fX12_errors_0l25  fu q) h
theorem fb_fX12_errors_0b11 {σ0 : ST}  {l1 : Int32} {σ : ST} (h_σ : Fr [(35, 39)] [(75, 86), (88, 88), (92, 93)] σ0 σ) : FrP [(35, 39)] [(75, 86), (88, 88), (92, 93)] σ0 (fX12_errors_0b11 l1 σ) := by
  unfold fX12_errors_0b11
  refine bdF2 fun s12 e_s12 => ?_
  have h_s12 : Fr [(35, 39)] [(75, 86), (88, 88), (92, 93)] σ0 s12 := by rw [e_s12]; exact h_σ.call fr_fX12_findPieces_0 rfl rfl
  exact fb_fX12_errors_0l25  _ h_s12
theorem fb_fX12_errors_0b9 {σ0 : ST}  {σ : ST} (h_σ : Fr [(35, 39)] [(75, 86), (88, 88), (92, 93)] σ0 σ) : FrP [(35, 39)] [(75, 86), (88, 88), (92, 93)] σ0 (fX12_errors_0b9 σ) := by
  unfold fX12_errors_0b9
  exact h_σ
theorem fb_fX12_errors_0b0 {σ0 : ST}  {l1 : Int32} {σ : ST} (h_σ : Fr [(35, 39)] [(75, 86), (88, 88), (92, 93)] σ0 σ) : FrP [(35, 39)] [(75, 86), (88, 88), (92, 93)] σ0 (fX12_errors_0b0 l1 σ) := by
  unfold fX12_errors_0b0
  refine bdF2 fun v3 _ => ?_
  exact iteF2 (fb_fX12_errors_0b9  h_σ) (fb_fX12_errors_0b11  h_σ)
theorem fr_fX12_errors_0 {p1 : Int32} {σ : ST} : Fr [(35, 39)] [(75, 86), (88, 88), (92, 93)] σ (fX12_errors_0 p1 σ).2 := fb_fX12_errors_0b0 (Fr.refl σ)
theorem fb_fX12_weight_0b22 {σ0 : ST}  {σ : ST} (h_σ : Fr [(35, 38)] [(75, 84)] σ0 σ) : FrP [(35, 38)] [(75, 84)] σ0 (fX12_weight_0b22 σ) := by
  unfold fX12_weight_0b22
  exact h_σ
theorem fb_fX12_weight_0b96 {σ0 : ST}  {l3 : Int32} {σ : ST} (h_σ : Fr [(35, 38)] [(75, 84)] σ0 σ) : FrP [(35, 38)] [(75, 84)] σ0 (fX12_weight_0b96 l3 σ) := by
  unfold fX12_weight_0b96
  refine bdF2 fun v98 _ => ?_
  refine bdF2 fun v102 _ => ?_
  refine bdF2 fun s103 e_s103 => ?_
  have h_s103 : Fr [(35, 38)] [(75, 84)] σ0 s103 := by rw [e_s103]; exact ⟨h_σ.1, h_σ.2⟩
  exact h_s103
theorem fb_fX12_weight_0b108 {σ0 : ST}  {l4 : Int32} {σ : ST} (h_σ : Fr [(35, 38)] [(75, 84)] σ0 σ) : FrP [(35, 38)] [(75, 84)] σ0 (fX12_weight_0b108 l4 σ) := by
  unfold fX12_weight_0b108
  refine bdF2 fun v110 _ => ?_
  refine bdF2 fun v116 _ => ?_
  refine bdF2 fun s117 e_s117 => ?_
  have h_s117 : Fr [(35, 38)] [(75, 84)] σ0 s117 := by rw [e_s117]; exact ⟨h_σ.1, h_σ.2⟩
  exact h_s117
theorem fb_fX12_weight_0b123 {σ0 : ST}  {l5 : Int32} {σ : ST} (h_σ : Fr [(35, 38)] [(75, 84)] σ0 σ) : FrP [(35, 38)] [(75, 84)] σ0 (fX12_weight_0b123 l5 σ) := by
  unfold fX12_weight_0b123
  refine bdF2 fun v125 _ => ?_
  refine bdF2 fun v131 _ => ?_
  refine bdF2 fun s132 e_s132 => ?_
  have h_s132 : Fr [(35, 38)] [(75, 84)] σ0 s132 := by rw [e_s132]; exact ⟨h_σ.1, h_σ.2⟩
  exact h_s132
theorem fb_fX12_weight_0b138 {σ0 : ST}  {l5 : Int32} {σ : ST} (h_σ : Fr [(35, 38)] [(75, 84)] σ0 σ) : FrP [(35, 38)] [(75, 84)] σ0 (fX12_weight_0b138 l5 σ) := by
  unfold fX12_weight_0b138
  refine bdF2 fun v140 _ => ?_
  refine bdF2 fun v146 _ => ?_
  refine bdF2 fun s147 e_s147 => ?_
  have h_s147 : Fr [(35, 38)] [(75, 84)] σ0 s147 := by rw [e_s147]; exact ⟨h_σ.1, h_σ.2⟩
  refine bdF2 fun v153 _ => ?_
  refine bdF2 fun v155 _ => ?_
  exact h_s147
theorem fb_fX12_weight_0b183 {σ0 : ST}  {t0 : Int32} {σ : ST} (h_σ : Fr [(35, 38)] [(75, 84)] σ0 σ) : FrP [(35, 38)] [(75, 84)] σ0 (fX12_weight_0b183 t0 σ) := by
  unfold fX12_weight_0b183
  exact h_σ
theorem fb_fX12_weight_0b179 {σ0 : ST}  {l5 : Int32} {σ : ST} (h_σ : Fr [(35, 38)] [(75, 84)] σ0 σ) : FrP [(35, 38)] [(75, 84)] σ0 (fX12_weight_0b179 l5 σ) := by
  unfold fX12_weight_0b179
  refine bdF2 fun v182 _ => ?_
  exact fb_fX12_weight_0b183  h_σ
theorem fb_fX12_weight_0b175 {σ0 : ST}  {σ : ST} (h_σ : Fr [(35, 38)] [(75, 84)] σ0 σ) : FrP [(35, 38)] [(75, 84)] σ0 (fX12_weight_0b175 σ) := by
  unfold fX12_weight_0b175
  exact fb_fX12_weight_0b183  h_σ
theorem fb_fX12_weight_0b157 {σ0 : ST}  {l5 : Int32} {σ : ST} (h_σ : Fr [(35, 38)] [(75, 84)] σ0 σ) : FrP [(35, 38)] [(75, 84)] σ0 (fX12_weight_0b157 l5 σ) := by
  unfold fX12_weight_0b157
  refine bdF2 fun v159 _ => ?_
  refine bdF2 fun v165 _ => ?_
  refine bdF2 fun s166 e_s166 => ?_
  have h_s166 : Fr [(35, 38)] [(75, 84)] σ0 s166 := by rw [e_s166]; exact ⟨h_σ.1, h_σ.2⟩
  exact iteF2 (fb_fX12_weight_0b179  h_s166) (fb_fX12_weight_0b175  h_s166)
theorem fb_fX12_weight_0b184 {σ0 : ST}  {l4 : Int32} {σ : ST} (h_σ : Fr [(35, 38)] [(75, 84)] σ0 σ) : FrP [(35, 38)] [(75, 84)] σ0 (fX12_weight_0b184 l4 σ) := by
  unfold fX12_weight_0b184
  refine bdF2 fun v186 _ => ?_
  refine bdF2 fun v192 _ => ?_
  refine bdF2 fun s193 e_s193 => ?_
  have h_s193 : Fr [(35, 38)] [(75, 84)] σ0 s193 := by rw [e_s193]; exact ⟨h_σ.1, h_σ.2⟩
  refine bdF2 fun v199 _ => ?_
  exact h_s193
theorem fb_fX12_weight_0b201 {σ0 : ST}  {l4 : Int32} {σ : ST} (h_σ : Fr [(35, 38)] [(75, 84)] σ0 σ) : FrP [(35, 38)] [(75, 84)] σ0 (fX12_weight_0b201 l4 σ) := by
  unfold fX12_weight_0b201
  refine bdF2 fun v203 _ => ?_
  refine bdF2 fun v209 _ => ?_
  refine bdF2 fun s210 e_s210 => ?_
  have h_s210 : Fr [(35, 38)] [(75, 84)] σ0 s210 := by rw [e_s210]; exact ⟨h_σ.1, h_σ.2⟩
  refine bdF2 fun v218 _ => ?_
  refine bdF2 fun v221 _ => ?_
  refine bdF2 fun v222 _ => ?_
  exact h_s210
theorem fb_fX12_weight_0b224 {σ0 : ST}  {l3 : Int32} {σ : ST} (h_σ : Fr [(35, 38)] [(75, 84)] σ0 σ) : FrP [(35, 38)] [(75, 84)] σ0 (fX12_weight_0b224 l3 σ) := by
  unfold fX12_weight_0b224
  refine bdF2 fun v226 _ => ?_
  refine bdF2 fun v232 _ => ?_
  refine bdF2 fun s233 e_s233 => ?_
  have h_s233 : Fr [(35, 38)] [(75, 84)] σ0 s233 := by rw [e_s233]; exact ⟨h_σ.1, h_σ.2⟩
  refine bdF2 fun v238 _ => ?_
  refine bdF2 fun v241 _ => ?_
  exact h_s233
theorem fb_fX12_weight_0b24 {σ0 : ST}  {l1 : Int32} {l2 : Int32} {σ : ST} (h_σ : Fr [(35, 38)] [(75, 84)] σ0 σ) : FrP [(35, 38)] [(75, 84)] σ0 (fX12_weight_0b24 l1 l2 σ) := by
  unfold fX12_weight_0b24
  refine bdF2 fun v29 _ => ?_
  refine bdF2 fun v38 _ => ?_
  refine bdF2 fun v39 _ => ?_
  refine bdF2 fun v40 _ => ?_
  refine bdF2 fun v50 _ => ?_
  refine bdF2 fun v51 _ => ?_
  refine iteF2 (fb_fX12_weight_0b96  h_σ) ?_
  refine iteF2 (fb_fX12_weight_0b108  h_σ) ?_
  refine iteF2 (fb_fX12_weight_0b123  h_σ) ?_
  refine iteF2 (fb_fX12_weight_0b138  h_σ) ?_
  refine iteF2 (fb_fX12_weight_0b157  h_σ) ?_
  refine iteF2 (fb_fX12_weight_0b184  h_σ) ?_
  refine iteF2 (fb_fX12_weight_0b201  h_σ) ?_
  exact fb_fX12_weight_0b224  h_σ
theorem fb_fX12_weight_0b14 {σ0 : ST}  {l1 : Int32} {l2 : Int32} {σ : ST} (h_σ : Fr [(35, 38)] [(75, 84)] σ0 σ) : FrP [(35, 38)] [(75, 84)] σ0 (fX12_weight_0b14 l1 l2 σ) := by
  unfold fX12_weight_0b14
  refine bdF2 fun v16 _ => ?_
  exact iteF2 (fb_fX12_weight_0b22  h_σ) (fb_fX12_weight_0b24  h_σ)
theorem fb_fX12_weight_0b0 {σ0 : ST}  {l1 : Int32} {l2 : Int32} {σ : ST} (h_σ : Fr [(35, 38)] [(75, 84)] σ0 σ) : FrP [(35, 38)] [(75, 84)] σ0 (fX12_weight_0b0 l1 l2 σ) := by
  unfold fX12_weight_0b0
  refine bdF2 fun s1 e_s1 => ?_
  have h_s1 : Fr [(35, 38)] [(75, 84)] σ0 s1 := by rw [e_s1]; exact h_σ.call fr_fX12_findPieces_0 rfl rfl
  refine bdF2 fun v8 _ => ?_
  exact iteF2 (fb_fX12_weight_0b22  h_s1) (fb_fX12_weight_0b14  h_s1)
theorem fr_fX12_weight_0 {p1 : Int32} {p2 : Int32} {σ : ST} : Fr [(35, 38)] [(75, 84)] σ (fX12_weight_0 p1 p2 σ).2 := fb_fX12_weight_0b0 (Fr.refl σ)
