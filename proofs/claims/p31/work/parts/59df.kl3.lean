/-! made by wip/gen3/gkeep.py l3 -/
def L3P {γ : Type} (u : Int64) (x : γ × ST) : Prop := LT3 u x.2
theorem l3bd {α : Type} {u : Int64} {x : α} {F : α → ST} (h : ∀ y, y = x → LT3 u (F y)) : LT3 u (bd x F) := h x rfl
theorem l3bd2 {α γ : Type} {u : Int64} {x : α} {F : α → γ × ST} (h : ∀ y, y = x → L3P u (F y)) : L3P u (bd x F) := h x rfl
theorem l3bp {α : Type} {u : Int64} {x : α × ST} {F : α → ST → ST} (h : ∀ a b, x.2 = b → LT3 u (F a b)) : LT3 u (bp x F) := h x.1 x.2 rfl
theorem l3bp2 {α γ : Type} {u : Int64} {x : α × ST} {F : α → ST → γ × ST} (h : ∀ a b, x.2 = b → L3P u (F a b)) : L3P u (bp x F) := h x.1 x.2 rfl
theorem l3ite {u : Int64} {c : Prop} {i : Decidable c} {x y : ST} (h1 : LT3 u x) (h2 : LT3 u y) : LT3 u (@ite ST c i x y) := by
  cases i with
  | isTrue q => exact h1
  | isFalse q => exact h2
theorem l3ite2 {γ : Type} {u : Int64} {c : Prop} {i : Decidable c} {x y : γ × ST} (h1 : L3P u x) (h2 : L3P u y) : L3P u (@ite (γ × ST) c i x y) := by
  cases i with
  | isTrue q => exact h1
  | isFalse q => exact h2
theorem l3b_fX3_empty_0b0 {u : Int64}  {σ : ST} (h_σ : LT3 u σ) : LT3 u (fX3_empty_0b0 σ) := by
  unfold fX3_empty_0b0
  refine l3bd fun s2 e_s2 => ?_
  have h_s2 : LT3 u s2 := by rw [e_s2]; exact h_σ
  refine l3bd fun s7 e_s7 => ?_
  have h_s7 : LT3 u s7 := by rw [e_s7]; exact h_s2
  exact h_s7
theorem l3_fX3_empty_0 {u : Int64} {σ : ST} (h : LT3 u σ) : LT3 u (fX3_empty_0 σ) := l3b_fX3_empty_0b0 h
theorem l3b_fX3_take_0b19 {u : Int64}  {σ : ST} (h_σ : LT3 u σ) : LT3 u (fX3_take_0b19 σ) := by
  unfold fX3_take_0b19
  exact h_σ
theorem l3b_fX3_take_0b150 {u : Int64}  {σ : ST} (h_σ : LT3 u σ) : LT3 u (fX3_take_0b150 σ) := by
  unfold fX3_take_0b150
  refine l3bd fun v152 _ => ?_
  refine l3bd fun v156 _ => ?_
  refine l3bd fun s157 e_s157 => ?_
  have h_s157 : LT3 u s157 := by rw [e_s157]; exact h_σ
  exact h_s157
theorem l3b_fX3_take_0b137 {u : Int64} {K22 : Int32 → Int32 → ST → ST} (hK22 : ∀ (q0 : Int32) (q1 : Int32) (τ : ST), LT3 u τ → LT3 u (K22 q0 q1 τ)) {l2 : Int32} {l3 : Int32} {l4 : Nat} {l5 : Int32} {l6 : Int32} {σ : ST} (h_σ : LT3 u σ) : LT3 u (fX3_take_0b137 K22 l2 l3 l4 l5 l6 σ) := by
  unfold fX3_take_0b137
  refine l3bd fun s143 e_s143 => ?_
  have h_s143 : LT3 u s143 := by rw [e_s143]; exact h_σ
  refine l3bd fun v144 _ => ?_
  exact hK22 _ _ _ h_s143
theorem l3b_fX3_take_0b119 {u : Int64} {K22 : Int32 → Int32 → ST → ST} (hK22 : ∀ (q0 : Int32) (q1 : Int32) (τ : ST), LT3 u τ → LT3 u (K22 q0 q1 τ)) {K102 : Int32 → Int32 → Nat → Int32 → Int32 → ST → ST} (hK102 : ∀ (q0 : Int32) (q1 : Int32) (q2 : Nat) (q3 : Int32) (q4 : Int32) (τ : ST), LT3 u τ → LT3 u (K102 q0 q1 q2 q3 q4 τ)) {l2 : Int32} {l3 : Int32} {l4 : Nat} {l5 : Int32} {l6 : Int32} {σ : ST} (h_σ : LT3 u σ) : LT3 u (fX3_take_0b119 K22 K102 l2 l3 l4 l5 l6 σ) := by
  unfold fX3_take_0b119
  refine l3bd fun v128 _ => ?_
  refine l3bd fun v129 _ => ?_
  refine l3bd fun s130 e_s130 => ?_
  have h_s130 : LT3 u s130 := by rw [e_s130]; exact h_σ
  refine l3bd fun v131 _ => ?_
  exact hK102 _ _ _ _ _ _ h_s130
theorem l3b_fX3_take_0b107 {u : Int64} {K22 : Int32 → Int32 → ST → ST} (hK22 : ∀ (q0 : Int32) (q1 : Int32) (τ : ST), LT3 u τ → LT3 u (K22 q0 q1 τ)) {K102 : Int32 → Int32 → Nat → Int32 → Int32 → ST → ST} (hK102 : ∀ (q0 : Int32) (q1 : Int32) (q2 : Nat) (q3 : Int32) (q4 : Int32) (τ : ST), LT3 u τ → LT3 u (K102 q0 q1 q2 q3 q4 τ)) {l2 : Int32} {l3 : Int32} {l4 : Nat} {l5 : Int32} {l6 : Int32} {σ : ST} (h_σ : LT3 u σ) : LT3 u (fX3_take_0b107 K22 K102 l2 l3 l4 l5 l6 σ) := by
  unfold fX3_take_0b107
  refine l3bd fun v112 _ => ?_
  refine l3bd fun v113 _ => ?_
  exact l3ite (l3b_fX3_take_0b137 hK22 h_σ) (l3b_fX3_take_0b119 hK22 hK102 h_σ)
theorem l3b_fX3_take_0b102 {u : Int64} {K22 : Int32 → Int32 → ST → ST} (hK22 : ∀ (q0 : Int32) (q1 : Int32) (τ : ST), LT3 u τ → LT3 u (K22 q0 q1 τ)) {K102 : Int32 → Int32 → Nat → Int32 → Int32 → ST → ST} (hK102 : ∀ (q0 : Int32) (q1 : Int32) (q2 : Nat) (q3 : Int32) (q4 : Int32) (τ : ST), LT3 u τ → LT3 u (K102 q0 q1 q2 q3 q4 τ)) {l2 : Int32} {l3 : Int32} {l4 : Nat} {l5 : Int32} {l6 : Int32} {σ : ST} (h_σ : LT3 u σ) : LT3 u (fX3_take_0b102 K22 K102 l2 l3 l4 l5 l6 σ) := by
  unfold fX3_take_0b102
  exact l3ite (l3b_fX3_take_0b137 hK22 h_σ) (l3b_fX3_take_0b107 hK22 hK102 h_σ)
theorem l3b_fX3_take_0l102 {u : Int64} {K22 : Int32 → Int32 → ST → ST} (hK22 : ∀ (q0 : Int32) (q1 : Int32) (τ : ST), LT3 u τ → LT3 u (K22 q0 q1 τ)) : ∀ (fu : Nat) {q0 : Int32} {q1 : Int32} {q2 : Nat} {q3 : Int32} {q4 : Int32} {τ : ST} (h : LT3 u τ), LT3 u (fX3_take_0l102 K22 fu q0 q1 q2 q3 q4 τ)
  | 0, _, _, _, _, _, _, h => h
  | fu + 1, _, _, _, _, _, _, h => l3b_fX3_take_0b102 hK22 (fun _ _ _ _ _ _ q => l3b_fX3_take_0l102 hK22 fu q) h
theorem l3b_fX3_take_0b96 {u : Int64} {K22 : Int32 → Int32 → ST → ST} (hK22 : ∀ (q0 : Int32) (q1 : Int32) (τ : ST), LT3 u τ → LT3 u (K22 q0 q1 τ)) {l2 : Int32} {l3 : Int32} {l4 : Nat} {l5 : Int32} {σ : ST} (h_σ : LT3 u σ) : LT3 u (fX3_take_0b96 K22 l2 l3 l4 l5 σ) := by
  unfold fX3_take_0b96
  refine l3bd fun v97 _ => ?_
  exact l3b_fX3_take_0l102 hK22 _ h_σ
theorem l3b_fX3_take_0b54 {u : Int64} {K22 : Int32 → Int32 → ST → ST} (hK22 : ∀ (q0 : Int32) (q1 : Int32) (τ : ST), LT3 u τ → LT3 u (K22 q0 q1 τ)) {l2 : Int32} {l3 : Int32} {l4 : Nat} {l5 : Int32} {σ : ST} (h_σ : LT3 u σ) : LT3 u (fX3_take_0b54 K22 l2 l3 l4 l5 σ) := by
  unfold fX3_take_0b54
  refine l3bd fun v56 _ => ?_
  refine l3bd fun v63 _ => ?_
  refine l3bd fun v67 _ => ?_
  refine l3bd fun v69 _ => ?_
  refine l3bd fun v70 _ => ?_
  refine l3bd fun v73 _ => ?_
  refine l3bd fun v79 _ => ?_
  refine l3bd fun v83 _ => ?_
  refine l3bd fun v84 _ => ?_
  refine l3bd fun v85 _ => ?_
  refine l3bd fun v86 _ => ?_
  refine l3bd fun v89 _ => ?_
  refine l3bd fun v92 _ => ?_
  refine l3bd fun s93 e_s93 => ?_
  have h_s93 : LT3 u s93 := by rw [e_s93]; exact h_σ
  exact l3b_fX3_take_0b96 hK22 h_s93
theorem l3b_fX3_take_0b27 {u : Int64} {K22 : Int32 → Int32 → ST → ST} (hK22 : ∀ (q0 : Int32) (q1 : Int32) (τ : ST), LT3 u τ → LT3 u (K22 q0 q1 τ)) {l2 : Int32} {l3 : Int32} {σ : ST} (h_σ : LT3 u σ) : LT3 u (fX3_take_0b27 K22 l2 l3 σ) := by
  unfold fX3_take_0b27
  refine l3bd fun v32 _ => ?_
  refine l3bd fun v41 _ => ?_
  refine l3bd fun v43 _ => ?_
  refine l3bd fun v44 _ => ?_
  refine l3bd fun v48 _ => ?_
  exact l3ite (l3b_fX3_take_0b96 hK22 h_σ) (l3b_fX3_take_0b54 hK22 h_σ)
theorem l3b_fX3_take_0b22 {u : Int64} {K22 : Int32 → Int32 → ST → ST} (hK22 : ∀ (q0 : Int32) (q1 : Int32) (τ : ST), LT3 u τ → LT3 u (K22 q0 q1 τ)) {l2 : Int32} {l3 : Int32} {σ : ST} (h_σ : LT3 u σ) : LT3 u (fX3_take_0b22 K22 l2 l3 σ) := by
  unfold fX3_take_0b22
  exact l3ite (l3b_fX3_take_0b150  h_σ) (l3b_fX3_take_0b27 hK22 h_σ)
theorem l3b_fX3_take_0l22 {u : Int64}  : ∀ (fu : Nat) {q0 : Int32} {q1 : Int32} {τ : ST} (h : LT3 u τ), LT3 u (fX3_take_0l22 fu q0 q1 τ)
  | 0, _, _, _, h => h
  | fu + 1, _, _, _, h => l3b_fX3_take_0b22 (fun _ _ _ q => l3b_fX3_take_0l22  fu q) h
theorem l3b_fX3_take_0b20 {u : Int64}  {l2 : Int32} {σ : ST} (h_σ : LT3 u σ) : LT3 u (fX3_take_0b20 l2 σ) := by
  unfold fX3_take_0b20
  exact l3b_fX3_take_0l22  _ h_σ
theorem l3b_fX3_take_0b13 {u : Int64}  {l2 : Int32} {σ : ST} (h_σ : LT3 u σ) : LT3 u (fX3_take_0b13 l2 σ) := by
  unfold fX3_take_0b13
  exact l3ite (l3b_fX3_take_0b20  h_σ) (l3b_fX3_take_0b19  h_σ)
theorem l3b_fX3_take_0b9 {u : Int64}  {l2 : Int32} {σ : ST} (h_σ : LT3 u σ) : LT3 u (fX3_take_0b9 l2 σ) := by
  unfold fX3_take_0b9
  exact l3ite (l3b_fX3_take_0b19  h_σ) (l3b_fX3_take_0b13  h_σ)
theorem l3b_fX3_take_0b0 {u : Int64}  {l2 : Int32} {σ : ST} (h_σ : LT3 u σ) : LT3 u (fX3_take_0b0 l2 σ) := by
  unfold fX3_take_0b0
  refine l3bd fun v1 _ => ?_
  exact l3ite (l3b_fX3_take_0b19  h_σ) (l3b_fX3_take_0b9  h_σ)
theorem l3_fX3_take_0 {u : Int64} {p2 : Int32} {σ : ST} (h : LT3 u σ) : LT3 u (fX3_take_0 p2 σ) := l3b_fX3_take_0b0 h
theorem l3b_fX2_findCosts_0b117 {u : Int64}  {σ : ST} (h_σ : LT3 u σ) : LT3 u (fX2_findCosts_0b117 σ) := by
  unfold fX2_findCosts_0b117
  exact h_σ
theorem l3b_fX2_findCosts_0b111 {u : Int64} {K14 : Int32 → Int32 → Int32 → Int32 → ST → ST} (hK14 : ∀ (q0 : Int32) (q1 : Int32) (q2 : Int32) (q3 : Int32) (τ : ST), LT3 u τ → LT3 u (K14 q0 q1 q2 q3 τ)) {l3 : Int32} {l4 : Int32} {l5 : Int32} {l6 : Int32} {σ : ST} (h_σ : LT3 u σ) : LT3 u (fX2_findCosts_0b111 K14 l3 l4 l5 l6 σ) := by
  unfold fX2_findCosts_0b111
  refine l3bd fun v111 _ => ?_
  exact hK14 _ _ _ _ _ h_σ
theorem l3b_fX2_findCosts_0b105 {u : Int64} {K14 : Int32 → Int32 → Int32 → Int32 → ST → ST} (hK14 : ∀ (q0 : Int32) (q1 : Int32) (q2 : Int32) (q3 : Int32) (τ : ST), LT3 u τ → LT3 u (K14 q0 q1 q2 q3 τ)) {K38 : Int32 → Int32 → Int32 → Int32 → Int32 → ST → ST} (hK38 : ∀ (q0 : Int32) (q1 : Int32) (q2 : Int32) (q3 : Int32) (q4 : Int32) (τ : ST), LT3 u τ → LT3 u (K38 q0 q1 q2 q3 q4 τ)) {l3 : Int32} {l4 : Int32} {l5 : Int32} {l6 : Int32} {l7 : Int32} {σ : ST} (h_σ : LT3 u σ) : LT3 u (fX2_findCosts_0b105 K14 K38 l3 l4 l5 l6 l7 σ) := by
  unfold fX2_findCosts_0b105
  refine l3bd fun v105 _ => ?_
  exact hK38 _ _ _ _ _ _ h_σ
theorem l3b_fX2_findCosts_0b82 {u : Int64} {K14 : Int32 → Int32 → Int32 → Int32 → ST → ST} (hK14 : ∀ (q0 : Int32) (q1 : Int32) (q2 : Int32) (q3 : Int32) (τ : ST), LT3 u τ → LT3 u (K14 q0 q1 q2 q3 τ)) {K38 : Int32 → Int32 → Int32 → Int32 → Int32 → ST → ST} (hK38 : ∀ (q0 : Int32) (q1 : Int32) (q2 : Int32) (q3 : Int32) (q4 : Int32) (τ : ST), LT3 u τ → LT3 u (K38 q0 q1 q2 q3 q4 τ)) {l3 : Int32} {l4 : Int32} {l5 : Int32} {l6 : Int32} {l7 : Int32} {l8 : Int32} {σ : ST} (h_σ : LT3 u σ) : LT3 u (fX2_findCosts_0b82 K14 K38 l3 l4 l5 l6 l7 l8 σ) := by
  unfold fX2_findCosts_0b82
  refine l3bd fun s90 e_s90 => ?_
  have h_s90 : LT3 u s90 := by rw [e_s90]; exact h_σ
  refine l3bd fun v101 _ => ?_
  refine l3bd fun v103 _ => ?_
  refine l3bd fun s104 e_s104 => ?_
  have h_s104 : LT3 u s104 := by rw [e_s104]; exact h_s90
  exact l3b_fX2_findCosts_0b105 hK14 hK38 h_s104
theorem l3b_fX2_findCosts_0b45 {u : Int64} {K14 : Int32 → Int32 → Int32 → Int32 → ST → ST} (hK14 : ∀ (q0 : Int32) (q1 : Int32) (q2 : Int32) (q3 : Int32) (τ : ST), LT3 u τ → LT3 u (K14 q0 q1 q2 q3 τ)) {K38 : Int32 → Int32 → Int32 → Int32 → Int32 → ST → ST} (hK38 : ∀ (q0 : Int32) (q1 : Int32) (q2 : Int32) (q3 : Int32) (q4 : Int32) (τ : ST), LT3 u τ → LT3 u (K38 q0 q1 q2 q3 q4 τ)) {l3 : Int32} {l4 : Int32} {l5 : Int32} {l6 : Int32} {l7 : Int32} {σ : ST} (h_σ : LT3 u σ) : LT3 u (fX2_findCosts_0b45 K14 K38 l3 l4 l5 l6 l7 σ) := by
  unfold fX2_findCosts_0b45
  refine l3bd fun s49 e_s49 => ?_
  have h_s49 : LT3 u s49 := by rw [e_s49]; exact l3_fX3_take_0 h_σ
  refine l3bd fun v53 _ => ?_
  refine l3bd fun v57 _ => ?_
  refine l3bd fun v65 _ => ?_
  refine l3bd fun v66 _ => ?_
  refine l3bd fun v67 _ => ?_
  refine l3bd fun v78 _ => ?_
  exact l3ite (l3b_fX2_findCosts_0b105 hK14 hK38 h_s49) (l3b_fX2_findCosts_0b82 hK14 hK38 h_s49)
theorem l3b_fX2_findCosts_0b38 {u : Int64} {K14 : Int32 → Int32 → Int32 → Int32 → ST → ST} (hK14 : ∀ (q0 : Int32) (q1 : Int32) (q2 : Int32) (q3 : Int32) (τ : ST), LT3 u τ → LT3 u (K14 q0 q1 q2 q3 τ)) {K38 : Int32 → Int32 → Int32 → Int32 → Int32 → ST → ST} (hK38 : ∀ (q0 : Int32) (q1 : Int32) (q2 : Int32) (q3 : Int32) (q4 : Int32) (τ : ST), LT3 u τ → LT3 u (K38 q0 q1 q2 q3 q4 τ)) {l3 : Int32} {l4 : Int32} {l5 : Int32} {l6 : Int32} {l7 : Int32} {σ : ST} (h_σ : LT3 u σ) : LT3 u (fX2_findCosts_0b38 K14 K38 l3 l4 l5 l6 l7 σ) := by
  unfold fX2_findCosts_0b38
  exact l3ite (l3b_fX2_findCosts_0b111 hK14 h_σ) (l3b_fX2_findCosts_0b45 hK14 hK38 h_σ)
theorem l3b_fX2_findCosts_0l38 {u : Int64} {K14 : Int32 → Int32 → Int32 → Int32 → ST → ST} (hK14 : ∀ (q0 : Int32) (q1 : Int32) (q2 : Int32) (q3 : Int32) (τ : ST), LT3 u τ → LT3 u (K14 q0 q1 q2 q3 τ)) : ∀ (fu : Nat) {q0 : Int32} {q1 : Int32} {q2 : Int32} {q3 : Int32} {q4 : Int32} {τ : ST} (h : LT3 u τ), LT3 u (fX2_findCosts_0l38 K14 fu q0 q1 q2 q3 q4 τ)
  | 0, _, _, _, _, _, _, h => h
  | fu + 1, _, _, _, _, _, _, h => l3b_fX2_findCosts_0b38 hK14 (fun _ _ _ _ _ _ q => l3b_fX2_findCosts_0l38 hK14 fu q) h
theorem l3b_fX2_findCosts_0b21 {u : Int64} {K14 : Int32 → Int32 → Int32 → Int32 → ST → ST} (hK14 : ∀ (q0 : Int32) (q1 : Int32) (q2 : Int32) (q3 : Int32) (τ : ST), LT3 u τ → LT3 u (K14 q0 q1 q2 q3 τ)) {l3 : Int32} {l4 : Int32} {l5 : Int32} {l6 : Int32} {σ : ST} (h_σ : LT3 u σ) : LT3 u (fX2_findCosts_0b21 K14 l3 l4 l5 l6 σ) := by
  unfold fX2_findCosts_0b21
  refine l3bd fun s22 e_s22 => ?_
  have h_s22 : LT3 u s22 := by rw [e_s22]; exact l3_fX3_empty_0 h_σ
  refine l3bd fun s33 e_s33 => ?_
  have h_s33 : LT3 u s33 := by rw [e_s33]; exact h_s22
  exact l3b_fX2_findCosts_0l38 hK14 _ h_s33
theorem l3b_fX2_findCosts_0b14 {u : Int64} {K14 : Int32 → Int32 → Int32 → Int32 → ST → ST} (hK14 : ∀ (q0 : Int32) (q1 : Int32) (q2 : Int32) (q3 : Int32) (τ : ST), LT3 u τ → LT3 u (K14 q0 q1 q2 q3 τ)) {l3 : Int32} {l4 : Int32} {l5 : Int32} {l6 : Int32} {σ : ST} (h_σ : LT3 u σ) : LT3 u (fX2_findCosts_0b14 K14 l3 l4 l5 l6 σ) := by
  unfold fX2_findCosts_0b14
  exact l3ite (l3b_fX2_findCosts_0b117  h_σ) (l3b_fX2_findCosts_0b21 hK14 h_σ)
theorem l3b_fX2_findCosts_0l14 {u : Int64}  : ∀ (fu : Nat) {q0 : Int32} {q1 : Int32} {q2 : Int32} {q3 : Int32} {τ : ST} (h : LT3 u τ), LT3 u (fX2_findCosts_0l14 fu q0 q1 q2 q3 τ)
  | 0, _, _, _, _, _, h => h
  | fu + 1, _, _, _, _, _, h => l3b_fX2_findCosts_0b14 (fun _ _ _ _ _ q => l3b_fX2_findCosts_0l14  fu q) h
theorem l3b_fX2_findCosts_0b0 {u : Int64}  {l3 : Int32} {l4 : Int32} {l5 : Int32} {σ : ST} (h_σ : LT3 u σ) : LT3 u (fX2_findCosts_0b0 l3 l4 l5 σ) := by
  unfold fX2_findCosts_0b0
  refine l3bd fun s7 e_s7 => ?_
  have h_s7 : LT3 u s7 := by rw [e_s7]; exact h_σ
  refine l3bd fun v11 _ => ?_
  exact l3b_fX2_findCosts_0l14  _ h_s7
theorem l3_fX2_findCosts_0 {u : Int64} {p3 : Int32} {p4 : Int32} {p5 : Int32} {σ : ST} (h : LT3 u σ) : LT3 u (fX2_findCosts_0 p3 p4 p5 σ) := l3b_fX2_findCosts_0b0 h
theorem l3b_fX3_writeMiddle_0b19 {u : Int64}  {σ : ST} (h_σ : LT3 u σ) : LT3 u (fX3_writeMiddle_0b19 σ) := by
  unfold fX3_writeMiddle_0b19
  exact h_σ
theorem l3b_fX3_writeMiddle_0b53 {u : Int64}  {σ : ST} (h_σ : LT3 u σ) : LT3 u (fX3_writeMiddle_0b53 σ) := by
  unfold fX3_writeMiddle_0b53
  exact h_σ
theorem l3b_fX3_writeMiddle_0b27 {u : Int64} {K22 : Int32 → Int32 → ST → ST} (hK22 : ∀ (q0 : Int32) (q1 : Int32) (τ : ST), LT3 u τ → LT3 u (K22 q0 q1 τ)) {l2 : Int32} {l3 : Int32} {σ : ST} (h_σ : LT3 u σ) : LT3 u (fX3_writeMiddle_0b27 K22 l2 l3 σ) := by
  unfold fX3_writeMiddle_0b27
  refine l3bd fun v30 _ => ?_
  refine l3bd fun v36 _ => ?_
  refine l3bd fun v38 _ => ?_
  refine l3bd fun v42 _ => ?_
  refine l3bd fun v44 _ => ?_
  refine l3bd fun v45 _ => ?_
  refine l3bd fun s46 e_s46 => ?_
  have h_s46 : LT3 u s46 := by rw [e_s46]; exact h_σ
  refine l3bd fun v47 _ => ?_
  exact hK22 _ _ _ h_s46
theorem l3b_fX3_writeMiddle_0b22 {u : Int64} {K22 : Int32 → Int32 → ST → ST} (hK22 : ∀ (q0 : Int32) (q1 : Int32) (τ : ST), LT3 u τ → LT3 u (K22 q0 q1 τ)) {l2 : Int32} {l3 : Int32} {σ : ST} (h_σ : LT3 u σ) : LT3 u (fX3_writeMiddle_0b22 K22 l2 l3 σ) := by
  unfold fX3_writeMiddle_0b22
  exact l3ite (l3b_fX3_writeMiddle_0b53  h_σ) (l3b_fX3_writeMiddle_0b27 hK22 h_σ)
theorem l3b_fX3_writeMiddle_0l22 {u : Int64}  : ∀ (fu : Nat) {q0 : Int32} {q1 : Int32} {τ : ST} (h : LT3 u τ), LT3 u (fX3_writeMiddle_0l22 fu q0 q1 τ)
  | 0, _, _, _, h => h
  | fu + 1, _, _, _, h => l3b_fX3_writeMiddle_0b22 (fun _ _ _ q => l3b_fX3_writeMiddle_0l22  fu q) h
theorem l3b_fX3_writeMiddle_0b20 {u : Int64}  {l2 : Int32} {σ : ST} (h_σ : LT3 u σ) : LT3 u (fX3_writeMiddle_0b20 l2 σ) := by
  unfold fX3_writeMiddle_0b20
  exact l3b_fX3_writeMiddle_0l22  _ h_σ
theorem l3b_fX3_writeMiddle_0b11 {u : Int64}  {l2 : Int32} {σ : ST} (h_σ : LT3 u σ) : LT3 u (fX3_writeMiddle_0b11 l2 σ) := by
  unfold fX3_writeMiddle_0b11
  refine l3bd fun v15 _ => ?_
  exact l3ite (l3b_fX3_writeMiddle_0b20  h_σ) (l3b_fX3_writeMiddle_0b19  h_σ)
theorem l3b_fX3_writeMiddle_0b7 {u : Int64}  {l2 : Int32} {σ : ST} (h_σ : LT3 u σ) : LT3 u (fX3_writeMiddle_0b7 l2 σ) := by
  unfold fX3_writeMiddle_0b7
  exact l3ite (l3b_fX3_writeMiddle_0b19  h_σ) (l3b_fX3_writeMiddle_0b11  h_σ)
theorem l3b_fX3_writeMiddle_0b0 {u : Int64}  {l2 : Int32} {σ : ST} (h_σ : LT3 u σ) : LT3 u (fX3_writeMiddle_0b0 l2 σ) := by
  unfold fX3_writeMiddle_0b0
  refine l3bd fun v1 _ => ?_
  exact l3ite (l3b_fX3_writeMiddle_0b19  h_σ) (l3b_fX3_writeMiddle_0b7  h_σ)
theorem l3_fX3_writeMiddle_0 {u : Int64} {p2 : Int32} {σ : ST} (h : LT3 u σ) : LT3 u (fX3_writeMiddle_0 p2 σ) := l3b_fX3_writeMiddle_0b0 h
theorem l3b_fX2_addPieces_0b161 {u : Int64}  {σ : ST} (h_σ : LT3 u σ) : LT3 u (fX2_addPieces_0b161 σ) := by
  unfold fX2_addPieces_0b161
  exact h_σ
theorem l3b_fX2_addPieces_0b79 {u : Int64} {K3 : Int32 → Int32 → ST → ST} (hK3 : ∀ (q0 : Int32) (q1 : Int32) (τ : ST), LT3 u τ → LT3 u (K3 q0 q1 τ)) {l4 : Int32} {l5 : Int32} {l6 : Int32} {σ : ST} (h_σ : LT3 u σ) : LT3 u (fX2_addPieces_0b79 K3 l4 l5 l6 σ) := by
  unfold fX2_addPieces_0b79
  refine l3bd fun v84 _ => ?_
  refine l3bd fun s89 e_s89 => ?_
  have h_s89 : LT3 u s89 := by rw [e_s89]; exact h_σ
  refine l3bd fun v95 _ => ?_
  refine l3bd fun v102 _ => ?_
  refine l3bd fun s103 e_s103 => ?_
  have h_s103 : LT3 u s103 := by rw [e_s103]; exact h_s89
  refine l3bd fun v109 _ => ?_
  refine l3bd fun v113 _ => ?_
  refine l3bd fun s116 e_s116 => ?_
  have h_s116 : LT3 u s116 := by rw [e_s116]; exact h_s103
  refine l3bd fun v122 _ => ?_
  refine l3bd fun v126 _ => ?_
  refine l3bd fun s129 e_s129 => ?_
  have h_s129 : LT3 u s129 := by rw [e_s129]; exact h_s116
  refine l3bd fun v136 _ => ?_
  refine l3bd fun v140 _ => ?_
  refine l3bd fun s141 e_s141 => ?_
  have h_s141 : LT3 u s141 := by rw [e_s141]; exact l3_fX3_writeMiddle_0 h_s129
  refine l3bd fun v146 _ => ?_
  refine l3bd fun v150 _ => ?_
  refine l3bd fun s151 e_s151 => ?_
  have h_s151 : LT3 u s151 := by rw [e_s151]; exact h_s141
  exact hK3 _ _ _ h_s151
theorem l3b_fX2_addPieces_0b55 {u : Int64} {K3 : Int32 → Int32 → ST → ST} (hK3 : ∀ (q0 : Int32) (q1 : Int32) (τ : ST), LT3 u τ → LT3 u (K3 q0 q1 τ)) {K48 : Int32 → Int32 → Int32 → Int32 → ST → ST} (hK48 : ∀ (q0 : Int32) (q1 : Int32) (q2 : Int32) (q3 : Int32) (τ : ST), LT3 u τ → LT3 u (K48 q0 q1 q2 q3 τ)) {l4 : Int32} {l5 : Int32} {l6 : Int32} {l7 : Int32} {σ : ST} (h_σ : LT3 u σ) : LT3 u (fX2_addPieces_0b55 K3 K48 l4 l5 l6 l7 σ) := by
  unfold fX2_addPieces_0b55
  refine l3bd fun s59 e_s59 => ?_
  have h_s59 : LT3 u s59 := by rw [e_s59]; exact l3_fX3_take_0 h_σ
  refine l3bd fun v69 _ => ?_
  refine l3bd fun s72 e_s72 => ?_
  have h_s72 : LT3 u s72 := by rw [e_s72]; exact h_s59
  refine l3bd fun v73 _ => ?_
  exact hK48 _ _ _ _ _ h_s72
theorem l3b_fX2_addPieces_0b48 {u : Int64} {K3 : Int32 → Int32 → ST → ST} (hK3 : ∀ (q0 : Int32) (q1 : Int32) (τ : ST), LT3 u τ → LT3 u (K3 q0 q1 τ)) {K48 : Int32 → Int32 → Int32 → Int32 → ST → ST} (hK48 : ∀ (q0 : Int32) (q1 : Int32) (q2 : Int32) (q3 : Int32) (τ : ST), LT3 u τ → LT3 u (K48 q0 q1 q2 q3 τ)) {l4 : Int32} {l5 : Int32} {l6 : Int32} {l7 : Int32} {σ : ST} (h_σ : LT3 u σ) : LT3 u (fX2_addPieces_0b48 K3 K48 l4 l5 l6 l7 σ) := by
  unfold fX2_addPieces_0b48
  exact l3ite (l3b_fX2_addPieces_0b79 hK3 h_σ) (l3b_fX2_addPieces_0b55 hK3 hK48 h_σ)
theorem l3b_fX2_addPieces_0l48 {u : Int64} {K3 : Int32 → Int32 → ST → ST} (hK3 : ∀ (q0 : Int32) (q1 : Int32) (τ : ST), LT3 u τ → LT3 u (K3 q0 q1 τ)) : ∀ (fu : Nat) {q0 : Int32} {q1 : Int32} {q2 : Int32} {q3 : Int32} {τ : ST} (h : LT3 u τ), LT3 u (fX2_addPieces_0l48 K3 fu q0 q1 q2 q3 τ)
  | 0, _, _, _, _, _, h => h
  | fu + 1, _, _, _, _, _, h => l3b_fX2_addPieces_0b48 hK3 (fun _ _ _ _ _ q => l3b_fX2_addPieces_0l48 hK3 fu q) h
theorem l3b_fX2_addPieces_0b19 {u : Int64} {K3 : Int32 → Int32 → ST → ST} (hK3 : ∀ (q0 : Int32) (q1 : Int32) (τ : ST), LT3 u τ → LT3 u (K3 q0 q1 τ)) {l4 : Int32} {l5 : Int32} {σ : ST} (h_σ : LT3 u σ) : LT3 u (fX2_addPieces_0b19 K3 l4 l5 σ) := by
  unfold fX2_addPieces_0b19
  refine l3bd fun v30 _ => ?_
  refine l3bd fun v31 _ => ?_
  refine l3bd fun v34 _ => ?_
  refine l3bd fun v35 _ => ?_
  refine l3bd fun s41 e_s41 => ?_
  have h_s41 : LT3 u s41 := by rw [e_s41]; exact l3_fX3_empty_0 h_σ
  exact l3b_fX2_addPieces_0l48 hK3 _ h_s41
theorem l3b_fX2_addPieces_0b10 {u : Int64} {K3 : Int32 → Int32 → ST → ST} (hK3 : ∀ (q0 : Int32) (q1 : Int32) (τ : ST), LT3 u τ → LT3 u (K3 q0 q1 τ)) {l4 : Int32} {l5 : Int32} {σ : ST} (h_σ : LT3 u σ) : LT3 u (fX2_addPieces_0b10 K3 l4 l5 σ) := by
  unfold fX2_addPieces_0b10
  refine l3bd fun v11 _ => ?_
  exact l3ite (l3b_fX2_addPieces_0b161  h_σ) (l3b_fX2_addPieces_0b19 hK3 h_σ)
theorem l3b_fX2_addPieces_0b3 {u : Int64} {K3 : Int32 → Int32 → ST → ST} (hK3 : ∀ (q0 : Int32) (q1 : Int32) (τ : ST), LT3 u τ → LT3 u (K3 q0 q1 τ)) {l4 : Int32} {l5 : Int32} {σ : ST} (h_σ : LT3 u σ) : LT3 u (fX2_addPieces_0b3 K3 l4 l5 σ) := by
  unfold fX2_addPieces_0b3
  exact l3ite (l3b_fX2_addPieces_0b161  h_σ) (l3b_fX2_addPieces_0b10 hK3 h_σ)
theorem l3b_fX2_addPieces_0l3 {u : Int64}  : ∀ (fu : Nat) {q0 : Int32} {q1 : Int32} {τ : ST} (h : LT3 u τ), LT3 u (fX2_addPieces_0l3 fu q0 q1 τ)
  | 0, _, _, _, h => h
  | fu + 1, _, _, _, h => l3b_fX2_addPieces_0b3 (fun _ _ _ q => l3b_fX2_addPieces_0l3  fu q) h
theorem l3b_fX2_addPieces_0b0 {u : Int64}  {l3 : Int32} {l4 : Int32} {σ : ST} (h_σ : LT3 u σ) : LT3 u (fX2_addPieces_0b0 l3 l4 σ) := by
  unfold fX2_addPieces_0b0
  exact l3b_fX2_addPieces_0l3  _ h_σ
theorem l3_fX2_addPieces_0 {u : Int64} {p3 : Int32} {p4 : Int32} {σ : ST} (h : LT3 u σ) : LT3 u (fX2_addPieces_0 p3 p4 σ) := l3b_fX2_addPieces_0b0 h
theorem l3b_fX2_cut_0b148 {u : Int64}  {σ : ST} (h_σ : LT3 u σ) : LT3 u (fX2_cut_0b148 σ) := by
  unfold fX2_cut_0b148
  exact h_σ
theorem l3b_fX2_cut_0b139 {u : Int64} {K32 : Int32 → Int32 → Int32 → ST → ST} (hK32 : ∀ (q0 : Int32) (q1 : Int32) (q2 : Int32) (τ : ST), LT3 u τ → LT3 u (K32 q0 q1 q2 τ)) {l3 : Int32} {l4 : Int32} {l6 : Int32} {σ : ST} (h_σ : LT3 u σ) : LT3 u (fX2_cut_0b139 K32 l3 l4 l6 σ) := by
  unfold fX2_cut_0b139
  refine l3bd fun v142 _ => ?_
  exact hK32 _ _ _ _ h_σ
theorem l3b_fX2_cut_0b78 {u : Int64} {K32 : Int32 → Int32 → Int32 → ST → ST} (hK32 : ∀ (q0 : Int32) (q1 : Int32) (q2 : Int32) (τ : ST), LT3 u τ → LT3 u (K32 q0 q1 q2 τ)) {l3 : Int32} {l4 : Int32} {l5 : Int32} {l6 : Int32} {σ : ST} (h_σ : LT3 u σ) : LT3 u (fX2_cut_0b78 K32 l3 l4 l5 l6 σ) := by
  unfold fX2_cut_0b78
  refine l3bd fun s86 e_s86 => ?_
  have h_s86 : LT3 u s86 := by rw [e_s86]; exact l3_fX2_findCosts_0 h_σ
  refine l3bd fun s96 e_s96 => ?_
  have h_s96 : LT3 u s96 := by rw [e_s96]; exact l3_fX2_addPieces_0 h_s86
  refine l3bd fun v101 _ => ?_
  refine l3bd fun v110 _ => ?_
  refine l3bd fun v111 _ => ?_
  refine l3bd fun s112 e_s112 => ?_
  have h_s112 : LT3 u s112 := by rw [e_s112]; exact h_s96
  refine l3bd fun v117 _ => ?_
  refine l3bd fun v124 _ => ?_
  refine l3bd fun v125 _ => ?_
  refine l3bd fun s126 e_s126 => ?_
  have h_s126 : LT3 u s126 := by rw [e_s126]; exact h_s112
  refine l3bd fun v131 _ => ?_
  refine l3bd fun v135 _ => ?_
  refine l3bd fun s136 e_s136 => ?_
  have h_s136 : LT3 u s136 := by rw [e_s136]; exact h_s126
  exact l3b_fX2_cut_0b139 hK32 h_s136
theorem l3b_fX2_cut_0b71 {u : Int64} {K32 : Int32 → Int32 → Int32 → ST → ST} (hK32 : ∀ (q0 : Int32) (q1 : Int32) (q2 : Int32) (τ : ST), LT3 u τ → LT3 u (K32 q0 q1 q2 τ)) {l3 : Int32} {l4 : Int32} {l5 : Int32} {l6 : Int32} {σ : ST} (h_σ : LT3 u σ) : LT3 u (fX2_cut_0b71 K32 l3 l4 l5 l6 σ) := by
  unfold fX2_cut_0b71
  exact l3ite (l3b_fX2_cut_0b139 hK32 h_σ) (l3b_fX2_cut_0b78 hK32 h_σ)
theorem l3b_fX2_cut_0b65 {u : Int64} {K32 : Int32 → Int32 → Int32 → ST → ST} (hK32 : ∀ (q0 : Int32) (q1 : Int32) (q2 : Int32) (τ : ST), LT3 u τ → LT3 u (K32 q0 q1 q2 τ)) {K45 : Int32 → Int32 → Int32 → Int32 → ST → ST} (hK45 : ∀ (q0 : Int32) (q1 : Int32) (q2 : Int32) (q3 : Int32) (τ : ST), LT3 u τ → LT3 u (K45 q0 q1 q2 q3 τ)) {l3 : Int32} {l4 : Int32} {l5 : Int32} {l6 : Int32} {σ : ST} (h_σ : LT3 u σ) : LT3 u (fX2_cut_0b65 K32 K45 l3 l4 l5 l6 σ) := by
  unfold fX2_cut_0b65
  refine l3bd fun v65 _ => ?_
  exact hK45 _ _ _ _ _ h_σ
theorem l3b_fX2_cut_0b54 {u : Int64} {K32 : Int32 → Int32 → Int32 → ST → ST} (hK32 : ∀ (q0 : Int32) (q1 : Int32) (q2 : Int32) (τ : ST), LT3 u τ → LT3 u (K32 q0 q1 q2 τ)) {K45 : Int32 → Int32 → Int32 → Int32 → ST → ST} (hK45 : ∀ (q0 : Int32) (q1 : Int32) (q2 : Int32) (q3 : Int32) (τ : ST), LT3 u τ → LT3 u (K45 q0 q1 q2 q3 τ)) {l3 : Int32} {l4 : Int32} {l5 : Int32} {l6 : Int32} {σ : ST} (h_σ : LT3 u σ) : LT3 u (fX2_cut_0b54 K32 K45 l3 l4 l5 l6 σ) := by
  unfold fX2_cut_0b54
  refine l3bd fun v59 _ => ?_
  exact l3ite (l3b_fX2_cut_0b71 hK32 h_σ) (l3b_fX2_cut_0b65 hK32 hK45 h_σ)
theorem l3b_fX2_cut_0b45 {u : Int64} {K32 : Int32 → Int32 → Int32 → ST → ST} (hK32 : ∀ (q0 : Int32) (q1 : Int32) (q2 : Int32) (τ : ST), LT3 u τ → LT3 u (K32 q0 q1 q2 τ)) {K45 : Int32 → Int32 → Int32 → Int32 → ST → ST} (hK45 : ∀ (q0 : Int32) (q1 : Int32) (q2 : Int32) (q3 : Int32) (τ : ST), LT3 u τ → LT3 u (K45 q0 q1 q2 q3 τ)) {l3 : Int32} {l4 : Int32} {l5 : Int32} {l6 : Int32} {σ : ST} (h_σ : LT3 u σ) : LT3 u (fX2_cut_0b45 K32 K45 l3 l4 l5 l6 σ) := by
  unfold fX2_cut_0b45
  refine l3bd fun v48 _ => ?_
  exact l3ite (l3b_fX2_cut_0b71 hK32 h_σ) (l3b_fX2_cut_0b54 hK32 hK45 h_σ)
theorem l3b_fX2_cut_0l45 {u : Int64} {K32 : Int32 → Int32 → Int32 → ST → ST} (hK32 : ∀ (q0 : Int32) (q1 : Int32) (q2 : Int32) (τ : ST), LT3 u τ → LT3 u (K32 q0 q1 q2 τ)) : ∀ (fu : Nat) {q0 : Int32} {q1 : Int32} {q2 : Int32} {q3 : Int32} {τ : ST} (h : LT3 u τ), LT3 u (fX2_cut_0l45 K32 fu q0 q1 q2 q3 τ)
  | 0, _, _, _, _, _, h => h
  | fu + 1, _, _, _, _, _, h => l3b_fX2_cut_0b45 hK32 (fun _ _ _ _ _ q => l3b_fX2_cut_0l45 hK32 fu q) h
theorem l3b_fX2_cut_0b41 {u : Int64} {K32 : Int32 → Int32 → Int32 → ST → ST} (hK32 : ∀ (q0 : Int32) (q1 : Int32) (q2 : Int32) (τ : ST), LT3 u τ → LT3 u (K32 q0 q1 q2 τ)) {l3 : Int32} {l4 : Int32} {l5 : Int32} {σ : ST} (h_σ : LT3 u σ) : LT3 u (fX2_cut_0b41 K32 l3 l4 l5 σ) := by
  unfold fX2_cut_0b41
  exact l3b_fX2_cut_0l45 hK32 _ h_σ
theorem l3b_fX2_cut_0b32 {u : Int64} {K32 : Int32 → Int32 → Int32 → ST → ST} (hK32 : ∀ (q0 : Int32) (q1 : Int32) (q2 : Int32) (τ : ST), LT3 u τ → LT3 u (K32 q0 q1 q2 τ)) {l3 : Int32} {l4 : Int32} {l5 : Int32} {σ : ST} (h_σ : LT3 u σ) : LT3 u (fX2_cut_0b32 K32 l3 l4 l5 σ) := by
  unfold fX2_cut_0b32
  refine l3bd fun v35 _ => ?_
  exact l3ite (l3b_fX2_cut_0b148  h_σ) (l3b_fX2_cut_0b41 hK32 h_σ)
theorem l3b_fX2_cut_0l32 {u : Int64}  : ∀ (fu : Nat) {q0 : Int32} {q1 : Int32} {q2 : Int32} {τ : ST} (h : LT3 u τ), LT3 u (fX2_cut_0l32 fu q0 q1 q2 τ)
  | 0, _, _, _, _, h => h
  | fu + 1, _, _, _, _, h => l3b_fX2_cut_0b32 (fun _ _ _ _ q => l3b_fX2_cut_0l32  fu q) h
theorem l3b_fX2_cut_0b0 {u : Int64}  {l3 : Int32} {l4 : Int32} {σ : ST} (h_σ : LT3 u σ) : LT3 u (fX2_cut_0b0 l3 l4 σ) := by
  unfold fX2_cut_0b0
  refine l3bd fun s2 e_s2 => ?_
  have h_s2 : LT3 u s2 := by rw [e_s2]; exact h_σ
  refine l3bd fun s7 e_s7 => ?_
  have h_s7 : LT3 u s7 := by rw [e_s7]; exact h_s2
  refine l3bd fun s12 e_s12 => ?_
  have h_s12 : LT3 u s12 := by rw [e_s12]; exact h_s7
  refine l3bd fun s17 e_s17 => ?_
  have h_s17 : LT3 u s17 := by rw [e_s17]; exact h_s12
  refine l3bd fun s26 e_s26 => ?_
  have h_s26 : LT3 u s26 := by rw [e_s26]; exact h_s17
  exact l3b_fX2_cut_0l32  _ h_s26
theorem l3_fX2_cut_0 {u : Int64} {p3 : Int32} {p4 : Int32} {σ : ST} (h : LT3 u σ) : LT3 u (fX2_cut_0 p3 p4 σ) := l3b_fX2_cut_0b0 h
theorem l3b_fX11_cutNow_0b43 {u : Int64}  {σ : ST} (h_σ : LT3 u σ) : LT3 u (fX11_cutNow_0b43 σ) := by
  unfold fX11_cutNow_0b43
  exact h_σ
theorem l3b_fX11_cutNow_0b7 {u : Int64}  {σ : ST} (h_σ : LT3 u σ) : LT3 u (fX11_cutNow_0b7 σ) := by
  unfold fX11_cutNow_0b7
  refine l3bd fun v24 _ => ?_
  refine l3bd fun v32 _ => ?_
  refine l3bd fun s35 e_s35 => ?_
  have h_s35 : LT3 u s35 := by rw [e_s35]; exact l3_fX2_cut_0 h_σ
  refine l3bd fun s40 e_s40 => ?_
  have h_s40 : LT3 u s40 := by rw [e_s40]; exact h_s35
  exact l3b_fX11_cutNow_0b43  h_s40
theorem l3b_fX11_cutNow_0b0 {u : Int64}  {σ : ST} (h_σ : LT3 u σ) : LT3 u (fX11_cutNow_0b0 σ) := by
  unfold fX11_cutNow_0b0
  refine l3bd fun v1 _ => ?_
  exact l3ite (l3b_fX11_cutNow_0b43  h_σ) (l3b_fX11_cutNow_0b7  h_σ)
theorem l3_fX11_cutNow_0 {u : Int64} {σ : ST} (h : LT3 u σ) : LT3 u (fX11_cutNow_0 σ) := l3b_fX11_cutNow_0b0 h
theorem l3b_fX11_isPiece_0b0 {u : Int64}  {l1 : Int32} {σ : ST} (h_σ : LT3 u σ) : L3P u (fX11_isPiece_0b0 l1 σ) := by
  unfold fX11_isPiece_0b0
  refine l3bd2 fun s1 e_s1 => ?_
  have h_s1 : LT3 u s1 := by rw [e_s1]; exact l3_fX11_cutNow_0 h_σ
  refine l3bd2 fun v10 _ => ?_
  refine l3bd2 fun v14 _ => ?_
  refine l3bd2 fun v15 _ => ?_
  exact h_s1
theorem l3_fX11_isPiece_0 {u : Int64} {p1 : Int32} {σ : ST} (h : LT3 u σ) : LT3 u (fX11_isPiece_0 p1 σ).2 := l3b_fX11_isPiece_0b0 h
theorem l3b_fX6_span_0b0 {u : Int64}  {l2 : Int32} {σ : ST} (h_σ : LT3 u σ) : L3P u (fX6_span_0b0 l2 σ) := by
  unfold fX6_span_0b0
  refine l3bd2 fun v2 _ => ?_
  refine l3bd2 fun v6 _ => ?_
  refine l3bd2 fun s7 e_s7 => ?_
  have h_s7 : LT3 u s7 := by rw [e_s7]; exact h_σ
  refine l3bd2 fun v15 _ => ?_
  exact h_s7
theorem l3_fX6_span_0 {u : Int64} {p2 : Int32} {σ : ST} (h : LT3 u σ) : LT3 u (fX6_span_0 p2 σ).2 := l3b_fX6_span_0b0 h
theorem l3b_fX6_voice_0b0 {u : Int64}  {l2 : Int32} {σ : ST} (h_σ : LT3 u σ) : L3P u (fX6_voice_0b0 l2 σ) := by
  unfold fX6_voice_0b0
  refine l3bd2 fun v2 _ => ?_
  refine l3bd2 fun v8 _ => ?_
  refine l3bd2 fun s9 e_s9 => ?_
  have h_s9 : LT3 u s9 := by rw [e_s9]; exact h_σ
  refine l3bp2 fun v15 s15 e_s15 => ?_
  have h_s15 : LT3 u s15 := by rw [← e_s15]; exact l3_fX6_span_0 h_s9
  refine l3bd2 fun v21 _ => ?_
  refine l3bd2 fun v24 _ => ?_
  exact h_s15
theorem l3_fX6_voice_0 {u : Int64} {p2 : Int32} {σ : ST} (h : LT3 u σ) : LT3 u (fX6_voice_0 p2 σ).2 := l3b_fX6_voice_0b0 h
theorem l3b_fX6_talk_0b0 {u : Int64}  {l2 : Int32} {σ : ST} (h_σ : LT3 u σ) : L3P u (fX6_talk_0b0 l2 σ) := by
  unfold fX6_talk_0b0
  refine l3bd2 fun v2 _ => ?_
  refine l3bd2 fun v8 _ => ?_
  refine l3bd2 fun s9 e_s9 => ?_
  have h_s9 : LT3 u s9 := by rw [e_s9]; exact h_σ
  refine l3bp2 fun v15 s15 e_s15 => ?_
  have h_s15 : LT3 u s15 := by rw [← e_s15]; exact l3_fX6_voice_0 h_s9
  refine l3bd2 fun v23 _ => ?_
  refine l3bd2 fun v24 _ => ?_
  exact h_s15
theorem l3_fX6_talk_0 {u : Int64} {p2 : Int32} {σ : ST} (h : LT3 u σ) : LT3 u (fX6_talk_0 p2 σ).2 := l3b_fX6_talk_0b0 h
theorem l3b_fX6_two_0b0 {u : Int64}  {l2 : Int32} {σ : ST} (h_σ : LT3 u σ) : L3P u (fX6_two_0b0 l2 σ) := by
  unfold fX6_two_0b0
  refine l3bd2 fun v2 _ => ?_
  refine l3bd2 fun v8 _ => ?_
  refine l3bd2 fun s9 e_s9 => ?_
  have h_s9 : LT3 u s9 := by rw [e_s9]; exact h_σ
  refine l3bp2 fun v15 s15 e_s15 => ?_
  have h_s15 : LT3 u s15 := by rw [← e_s15]; exact l3_fX6_talk_0 h_s9
  refine l3bd2 fun v19 _ => ?_
  refine l3bd2 fun v21 _ => ?_
  exact h_s15
theorem l3_fX6_two_0 {u : Int64} {p2 : Int32} {σ : ST} (h : LT3 u σ) : LT3 u (fX6_two_0 p2 σ).2 := l3b_fX6_two_0b0 h
theorem l3b_fX6_brief_0b0 {u : Int64}  {l2 : Int32} {σ : ST} (h_σ : LT3 u σ) : L3P u (fX6_brief_0b0 l2 σ) := by
  unfold fX6_brief_0b0
  refine l3bd2 fun v2 _ => ?_
  refine l3bd2 fun v8 _ => ?_
  refine l3bd2 fun s9 e_s9 => ?_
  have h_s9 : LT3 u s9 := by rw [e_s9]; exact h_σ
  refine l3bp2 fun v16 s16 e_s16 => ?_
  have h_s16 : LT3 u s16 := by rw [← e_s16]; exact l3_fX6_talk_0 h_s9
  refine l3bd2 fun v20 _ => ?_
  refine l3bd2 fun v21 _ => ?_
  exact h_s16
theorem l3_fX6_brief_0 {u : Int64} {p2 : Int32} {σ : ST} (h : LT3 u σ) : LT3 u (fX6_brief_0 p2 σ).2 := l3b_fX6_brief_0b0 h
theorem l3b_fX6_far_0b0 {u : Int64}  {l2 : Int32} {σ : ST} (h_σ : LT3 u σ) : L3P u (fX6_far_0b0 l2 σ) := by
  unfold fX6_far_0b0
  refine l3bd2 fun v2 _ => ?_
  refine l3bd2 fun v8 _ => ?_
  refine l3bd2 fun s9 e_s9 => ?_
  have h_s9 : LT3 u s9 := by rw [e_s9]; exact h_σ
  refine l3bp2 fun v15 s15 e_s15 => ?_
  have h_s15 : LT3 u s15 := by rw [← e_s15]; exact l3_fX6_voice_0 h_s9
  refine l3bd2 fun v19 _ => ?_
  exact h_s15
theorem l3_fX6_far_0 {u : Int64} {p2 : Int32} {σ : ST} (h : LT3 u σ) : LT3 u (fX6_far_0 p2 σ).2 := l3b_fX6_far_0b0 h
theorem l3b_fX6_known_0b0 {u : Int64}  {l2 : Int32} {l3 : Int32} {σ : ST} (h_σ : LT3 u σ) : L3P u (fX6_known_0b0 l2 l3 σ) := by
  unfold fX6_known_0b0
  refine l3bd2 fun v2 _ => ?_
  refine l3bd2 fun v8 _ => ?_
  refine l3bd2 fun s9 e_s9 => ?_
  have h_s9 : LT3 u s9 := by rw [e_s9]; exact h_σ
  refine l3bp2 fun v15 s15 e_s15 => ?_
  have h_s15 : LT3 u s15 := by rw [← e_s15]; exact l3_fX6_voice_0 h_s9
  refine l3bd2 fun v21 _ => ?_
  refine l3bd2 fun v22 _ => ?_
  exact h_s15
theorem l3_fX6_known_0 {u : Int64} {p2 : Int32} {p3 : Int32} {σ : ST} (h : LT3 u σ) : LT3 u (fX6_known_0 p2 p3 σ).2 := l3b_fX6_known_0b0 h
theorem l3b_fX6_noise_0b0 {u : Int64}  {l2 : Int32} {σ : ST} (h_σ : LT3 u σ) : L3P u (fX6_noise_0b0 l2 σ) := by
  unfold fX6_noise_0b0
  refine l3bd2 fun v2 _ => ?_
  refine l3bd2 fun v8 _ => ?_
  refine l3bd2 fun s9 e_s9 => ?_
  have h_s9 : LT3 u s9 := by rw [e_s9]; exact h_σ
  refine l3bp2 fun v15 s15 e_s15 => ?_
  have h_s15 : LT3 u s15 := by rw [← e_s15]; exact l3_fX6_span_0 h_s9
  refine l3bd2 fun v21 _ => ?_
  refine l3bd2 fun v24 _ => ?_
  exact h_s15
theorem l3_fX6_noise_0 {u : Int64} {p2 : Int32} {σ : ST} (h : LT3 u σ) : LT3 u (fX6_noise_0 p2 σ).2 := l3b_fX6_noise_0b0 h
theorem l3b_fX6_weigh_0b44 {u : Int64}  {l3 : Int32} {σ : ST} (h_σ : LT3 u σ) : L3P u (fX6_weigh_0b44 l3 σ) := by
  unfold fX6_weigh_0b44
  refine l3bp2 fun v47 s47 e_s47 => ?_
  have h_s47 : LT3 u s47 := by rw [← e_s47]; exact l3_fX6_span_0 h_σ
  exact h_s47
theorem l3b_fX6_weigh_0b51 {u : Int64}  {l3 : Int32} {σ : ST} (h_σ : LT3 u σ) : L3P u (fX6_weigh_0b51 l3 σ) := by
  unfold fX6_weigh_0b51
  refine l3bp2 fun v54 s54 e_s54 => ?_
  have h_s54 : LT3 u s54 := by rw [← e_s54]; exact l3_fX6_voice_0 h_σ
  exact h_s54
theorem l3b_fX6_weigh_0b58 {u : Int64}  {l3 : Int32} {σ : ST} (h_σ : LT3 u σ) : L3P u (fX6_weigh_0b58 l3 σ) := by
  unfold fX6_weigh_0b58
  refine l3bp2 fun v61 s61 e_s61 => ?_
  have h_s61 : LT3 u s61 := by rw [← e_s61]; exact l3_fX6_talk_0 h_σ
  exact h_s61
theorem l3b_fX6_weigh_0b65 {u : Int64}  {l3 : Int32} {σ : ST} (h_σ : LT3 u σ) : L3P u (fX6_weigh_0b65 l3 σ) := by
  unfold fX6_weigh_0b65
  refine l3bp2 fun v68 s68 e_s68 => ?_
  have h_s68 : LT3 u s68 := by rw [← e_s68]; exact l3_fX6_two_0 h_σ
  exact h_s68
theorem l3b_fX6_weigh_0b72 {u : Int64}  {l3 : Int32} {σ : ST} (h_σ : LT3 u σ) : L3P u (fX6_weigh_0b72 l3 σ) := by
  unfold fX6_weigh_0b72
  refine l3bp2 fun v75 s75 e_s75 => ?_
  have h_s75 : LT3 u s75 := by rw [← e_s75]; exact l3_fX6_brief_0 h_σ
  exact h_s75
theorem l3b_fX6_weigh_0b79 {u : Int64}  {l3 : Int32} {σ : ST} (h_σ : LT3 u σ) : L3P u (fX6_weigh_0b79 l3 σ) := by
  unfold fX6_weigh_0b79
  refine l3bp2 fun v82 s82 e_s82 => ?_
  have h_s82 : LT3 u s82 := by rw [← e_s82]; exact l3_fX6_far_0 h_σ
  exact h_s82
theorem l3b_fX6_weigh_0b86 {u : Int64}  {l3 : Int32} {l4 : Int32} {σ : ST} (h_σ : LT3 u σ) : L3P u (fX6_weigh_0b86 l3 l4 σ) := by
  unfold fX6_weigh_0b86
  refine l3bp2 fun v91 s91 e_s91 => ?_
  have h_s91 : LT3 u s91 := by rw [← e_s91]; exact l3_fX6_known_0 h_σ
  exact h_s91
theorem l3b_fX6_weigh_0b95 {u : Int64}  {l3 : Int32} {σ : ST} (h_σ : LT3 u σ) : L3P u (fX6_weigh_0b95 l3 σ) := by
  unfold fX6_weigh_0b95
  refine l3bp2 fun v98 s98 e_s98 => ?_
  have h_s98 : LT3 u s98 := by rw [← e_s98]; exact l3_fX6_noise_0 h_σ
  exact h_s98
theorem l3b_fX6_weigh_0b0 {u : Int64}  {l1 : Int32} {l3 : Int32} {l4 : Int32} {σ : ST} (h_σ : LT3 u σ) : L3P u (fX6_weigh_0b0 l1 l3 l4 σ) := by
  unfold fX6_weigh_0b0
  refine l3ite2 (l3b_fX6_weigh_0b44  h_σ) ?_
  refine l3ite2 (l3b_fX6_weigh_0b51  h_σ) ?_
  refine l3ite2 (l3b_fX6_weigh_0b58  h_σ) ?_
  refine l3ite2 (l3b_fX6_weigh_0b65  h_σ) ?_
  refine l3ite2 (l3b_fX6_weigh_0b72  h_σ) ?_
  refine l3ite2 (l3b_fX6_weigh_0b79  h_σ) ?_
  refine l3ite2 (l3b_fX6_weigh_0b86  h_σ) ?_
  exact l3b_fX6_weigh_0b95  h_σ
theorem l3_fX6_weigh_0 {u : Int64} {p1 : Int32} {p3 : Int32} {p4 : Int32} {σ : ST} (h : LT3 u σ) : LT3 u (fX6_weigh_0 p1 p3 p4 σ).2 := l3b_fX6_weigh_0b0 h
theorem l3b_fX11_weight_0b18 {u : Int64}  {σ : ST} (h_σ : LT3 u σ) : L3P u (fX11_weight_0b18 σ) := by
  unfold fX11_weight_0b18
  exact h_σ
theorem l3b_fX11_weight_0b20 {u : Int64}  {l1 : Int32} {l2 : Int32} {σ : ST} (h_σ : LT3 u σ) : L3P u (fX11_weight_0b20 l1 l2 σ) := by
  unfold fX11_weight_0b20
  refine l3bd2 fun v34 _ => ?_
  refine l3bp2 fun v37 s37 e_s37 => ?_
  have h_s37 : LT3 u s37 := by rw [← e_s37]; exact l3_fX6_weigh_0 h_σ
  exact h_s37
theorem l3b_fX11_weight_0b10 {u : Int64}  {l1 : Int32} {l2 : Int32} {σ : ST} (h_σ : LT3 u σ) : L3P u (fX11_weight_0b10 l1 l2 σ) := by
  unfold fX11_weight_0b10
  refine l3bp2 fun v12 s12 e_s12 => ?_
  have h_s12 : LT3 u s12 := by rw [← e_s12]; exact l3_fX11_isPiece_0 h_σ
  exact l3ite2 (l3b_fX11_weight_0b18  h_s12) (l3b_fX11_weight_0b20  h_s12)
theorem l3b_fX11_weight_0b0 {u : Int64}  {l1 : Int32} {l2 : Int32} {σ : ST} (h_σ : LT3 u σ) : L3P u (fX11_weight_0b0 l1 l2 σ) := by
  unfold fX11_weight_0b0
  refine l3bd2 fun v4 _ => ?_
  exact l3ite2 (l3b_fX11_weight_0b18  h_σ) (l3b_fX11_weight_0b10  h_σ)
theorem l3_fX11_weight_0 {u : Int64} {p1 : Int32} {p2 : Int32} {σ : ST} (h : LT3 u σ) : LT3 u (fX11_weight_0 p1 p2 σ).2 := l3b_fX11_weight_0b0 h
