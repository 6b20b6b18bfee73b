/-! what the class's functions keep of its cut; made by wip/gen3/keeps.py -/
def KCP {γ : Type} (x : γ × ST) : Prop := KCU x.2
theorem bdK {α : Type} {x : α} {F : α → ST} (h : ∀ y, y = x → KCU (F y)) : KCU (bd x F) := h x rfl
theorem bdK2 {α γ : Type} {x : α} {F : α → γ × ST} (h : ∀ y, y = x → KCP (F y)) : KCP (bd x F) := h x rfl
theorem bpK {α : Type} {x : α × ST} {F : α → ST → ST} (h : ∀ a b, x.2 = b → KCU (F a b)) : KCU (bp x F) := h x.1 x.2 rfl
theorem bpK2 {α γ : Type} {x : α × ST} {F : α → ST → γ × ST} (h : ∀ a b, x.2 = b → KCP (F a b)) : KCP (bp x F) := h x.1 x.2 rfl
theorem iteK {c : Prop} {i : Decidable c} {a b : ST} (h1 : KCU a) (h2 : KCU b) : KCU (@ite ST c i a b) := by
  cases i with
  | isTrue q => exact h1
  | isFalse q => exact h2
theorem iteK2 {γ : Type} {c : Prop} {i : Decidable c} {a b : γ × ST} (h1 : KCP a) (h2 : KCP b) : KCP (@ite (γ × ST) c i a b) := by
  cases i with
  | isTrue q => exact h1
  | isFalse q => exact h2
theorem kb_fX11_pieces_0b36  {σ : ST} (h_σ : KCU σ) : KCP (fX11_pieces_0b36 σ) := by
  unfold fX11_pieces_0b36
  refine bdK2 fun v40 _ => ?_
  exact h_σ
theorem kb_fX11_pieces_0b44  {σ : ST} (h_σ : KCU σ) : KCP (fX11_pieces_0b44 σ) := by
  unfold fX11_pieces_0b44
  refine bdK2 fun v48 _ => ?_
  exact h_σ
theorem kb_fX11_pieces_0b52  {σ : ST} (h_σ : KCU σ) : KCP (fX11_pieces_0b52 σ) := by
  unfold fX11_pieces_0b52
  refine bdK2 fun v56 _ => ?_
  exact h_σ
theorem kb_fX11_pieces_0b60  {σ : ST} (h_σ : KCU σ) : KCP (fX11_pieces_0b60 σ) := by
  unfold fX11_pieces_0b60
  refine bdK2 fun v64 _ => ?_
  exact h_σ
theorem kb_fX11_pieces_0b68  {σ : ST} (h_σ : KCU σ) : KCP (fX11_pieces_0b68 σ) := by
  unfold fX11_pieces_0b68
  exact h_σ
theorem kb_fX11_pieces_0b0  {l1 : Int32} {σ : ST} (h_σ : KCU σ) : KCP (fX11_pieces_0b0 l1 σ) := by
  unfold fX11_pieces_0b0
  refine bdK2 fun s1 e_s1 => ?_
  have h_s1 : KCU s1 := by rw [e_s1]; exact kc_fX11_cutNow_0 h_σ
  refine iteK2 (kb_fX11_pieces_0b36  h_s1) ?_
  refine iteK2 (kb_fX11_pieces_0b44  h_s1) ?_
  refine iteK2 (kb_fX11_pieces_0b52  h_s1) ?_
  refine iteK2 (kb_fX11_pieces_0b60  h_s1) ?_
  exact kb_fX11_pieces_0b68  h_s1
theorem kc_fX11_pieces_0 {p1 : Int32} {σ : ST} (h : KCU σ) : KCU (fX11_pieces_0 p1 σ).2 := kb_fX11_pieces_0b0 h
theorem kb_fX11_isPiece_0b0  {l1 : Int32} {σ : ST} (h_σ : KCU σ) : KCP (fX11_isPiece_0b0 l1 σ) := by
  unfold fX11_isPiece_0b0
  refine bdK2 fun s1 e_s1 => ?_
  have h_s1 : KCU s1 := by rw [e_s1]; exact kc_fX11_cutNow_0 h_σ
  refine bdK2 fun v10 _ => ?_
  refine bdK2 fun v14 _ => ?_
  refine bdK2 fun v15 _ => ?_
  exact h_s1
theorem kc_fX11_isPiece_0 {p1 : Int32} {σ : ST} (h : KCU σ) : KCU (fX11_isPiece_0 p1 σ).2 := kb_fX11_isPiece_0b0 h
theorem kb_fX11_piece_0b52  {l1 : Int32} {σ : ST} (h_σ : KCU σ) : KCP (fX11_piece_0b52 l1 σ) := by
  unfold fX11_piece_0b52
  refine bdK2 fun v60 _ => ?_
  exact h_σ
theorem kb_fX11_piece_0b62  {l1 : Int32} {σ : ST} (h_σ : KCU σ) : KCP (fX11_piece_0b62 l1 σ) := by
  unfold fX11_piece_0b62
  refine bdK2 fun v70 _ => ?_
  exact h_σ
theorem kb_fX11_piece_0b72  {l1 : Int32} {σ : ST} (h_σ : KCU σ) : KCP (fX11_piece_0b72 l1 σ) := by
  unfold fX11_piece_0b72
  refine bdK2 fun v80 _ => ?_
  exact h_σ
theorem kb_fX11_piece_0b82  {l1 : Int32} {l2 : Int32} {σ : ST} (h_σ : KCU σ) : KCP (fX11_piece_0b82 l1 l2 σ) := by
  unfold fX11_piece_0b82
  refine bdK2 fun v89 _ => ?_
  refine bdK2 fun v90 _ => ?_
  exact h_σ
theorem kb_fX11_piece_0b94  {σ : ST} (h_σ : KCU σ) : KCP (fX11_piece_0b94 σ) := by
  unfold fX11_piece_0b94
  exact h_σ
theorem kb_fX11_piece_0b10  {l1 : Int32} {l2 : Int32} {σ : ST} (h_σ : KCU σ) : KCP (fX11_piece_0b10 l1 l2 σ) := by
  unfold fX11_piece_0b10
  refine iteK2 (kb_fX11_piece_0b52  h_σ) ?_
  refine iteK2 (kb_fX11_piece_0b62  h_σ) ?_
  refine iteK2 (kb_fX11_piece_0b72  h_σ) ?_
  refine iteK2 (kb_fX11_piece_0b82  h_σ) ?_
  refine iteK2 (kb_fX11_piece_0b82  h_σ) ?_
  refine iteK2 (kb_fX11_piece_0b82  h_σ) ?_
  refine iteK2 (kb_fX11_piece_0b82  h_σ) ?_
  exact kb_fX11_piece_0b94  h_σ
theorem kb_fX11_piece_0b8  {σ : ST} (h_σ : KCU σ) : KCP (fX11_piece_0b8 σ) := by
  unfold fX11_piece_0b8
  exact h_σ
theorem kb_fX11_piece_0b0  {l1 : Int32} {l2 : Int32} {σ : ST} (h_σ : KCU σ) : KCP (fX11_piece_0b0 l1 l2 σ) := by
  unfold fX11_piece_0b0
  refine bpK2 fun v2 s2 e_s2 => ?_
  have h_s2 : KCU s2 := by rw [← e_s2]; exact kc_fX11_isPiece_0 h_σ
  exact iteK2 (kb_fX11_piece_0b8  h_s2) (kb_fX11_piece_0b10  h_s2)
theorem kc_fX11_piece_0 {p1 : Int32} {p2 : Int32} {σ : ST} (h : KCU σ) : KCU (fX11_piece_0 p1 p2 σ).2 := kb_fX11_piece_0b0 h
theorem kb_fX11_of_0b19  {l1 : Int32} {σ : ST} (h_σ : KCU σ) : KCP (fX11_of_0b19 l1 σ) := by
  unfold fX11_of_0b19
  refine bdK2 fun s20 e_s20 => ?_
  have h_s20 : KCU s20 := by rw [e_s20]; exact kc_fX11_cutNow_0 h_σ
  refine bdK2 fun v31 _ => ?_
  exact h_s20
theorem kb_fX11_of_0b17  {σ : ST} (h_σ : KCU σ) : KCP (fX11_of_0b17 σ) := by
  unfold fX11_of_0b17
  exact h_σ
theorem kb_fX11_of_0b0  {l1 : Int32} {σ : ST} (h_σ : KCU σ) : KCP (fX11_of_0b0 l1 σ) := by
  unfold fX11_of_0b0
  refine bdK2 fun v6 _ => ?_
  refine bdK2 fun v10 _ => ?_
  refine bdK2 fun v11 _ => ?_
  exact iteK2 (kb_fX11_of_0b17  h_σ) (kb_fX11_of_0b19  h_σ)
theorem kc_fX11_of_0 {p1 : Int32} {σ : ST} (h : KCU σ) : KCU (fX11_of_0 p1 σ).2 := kb_fX11_of_0b0 h
theorem kb_fX11_like_0b21  {σ : ST} (h_σ : KCU σ) : KCP (fX11_like_0b21 σ) := by
  unfold fX11_like_0b21
  exact h_σ
theorem kb_fX11_like_0b24  {l1 : Int32} {l2 : Int32} {σ : ST} (h_σ : KCU σ) : KCP (fX11_like_0b24 l1 l2 σ) := by
  unfold fX11_like_0b24
  refine bdK2 fun v35 _ => ?_
  refine bdK2 fun v38 _ => ?_
  exact h_σ
theorem kb_fX11_like_0b16  {l1 : Int32} {l2 : Int32} {σ : ST} (h_σ : KCU σ) : KCP (fX11_like_0b16 l1 l2 σ) := by
  unfold fX11_like_0b16
  exact iteK2 (kb_fX11_like_0b21  h_σ) (kb_fX11_like_0b24  h_σ)
theorem kb_fX11_like_0b8  {l1 : Int32} {l2 : Int32} {σ : ST} (h_σ : KCU σ) : KCP (fX11_like_0b8 l1 l2 σ) := by
  unfold fX11_like_0b8
  refine bpK2 fun v10 s10 e_s10 => ?_
  have h_s10 : KCU s10 := by rw [← e_s10]; exact kc_fX11_isPiece_0 h_σ
  exact iteK2 (kb_fX11_like_0b21  h_s10) (kb_fX11_like_0b16  h_s10)
theorem kb_fX11_like_0b0  {l1 : Int32} {l2 : Int32} {σ : ST} (h_σ : KCU σ) : KCP (fX11_like_0b0 l1 l2 σ) := by
  unfold fX11_like_0b0
  refine bpK2 fun v2 s2 e_s2 => ?_
  have h_s2 : KCU s2 := by rw [← e_s2]; exact kc_fX11_isPiece_0 h_σ
  exact iteK2 (kb_fX11_like_0b21  h_s2) (kb_fX11_like_0b8  h_s2)
theorem kc_fX11_like_0 {p1 : Int32} {p2 : Int32} {σ : ST} (h : KCU σ) : KCU (fX11_like_0 p1 p2 σ).2 := kb_fX11_like_0b0 h
theorem kb_fX1_tie_0b128  {σ : ST} (h_σ : KCU σ) : KCU (fX1_tie_0b128 σ) := by
  unfold fX1_tie_0b128
  exact h_σ
theorem kb_fX1_tie_0b116 {K107 : Int32 → ST → ST} (hK107 : ∀ (q0 : Int32) (τ : ST), KCU τ → KCU (K107 q0 τ)) {l4 : Int32} {σ : ST} (h_σ : KCU σ) : KCU (fX1_tie_0b116 K107 l4 σ) := by
  unfold fX1_tie_0b116
  refine bdK fun s119 e_s119 => ?_
  have h_s119 : KCU s119 := by rw [e_s119]; exact h_σ.fr fr_fX1_fillGains_0 rfl rfl
  refine bdK fun v122 _ => ?_
  exact hK107 _ _ h_s119
theorem kb_fX1_tie_0b107 {K107 : Int32 → ST → ST} (hK107 : ∀ (q0 : Int32) (τ : ST), KCU τ → KCU (K107 q0 τ)) {l4 : Int32} {σ : ST} (h_σ : KCU σ) : KCU (fX1_tie_0b107 K107 l4 σ) := by
  unfold fX1_tie_0b107
  refine bdK fun v110 _ => ?_
  exact iteK (kb_fX1_tie_0b128  h_σ) (kb_fX1_tie_0b116 hK107 h_σ)
theorem kb_fX1_tie_0l107  : ∀ (fu : Nat) {q0 : Int32} {τ : ST} (h : KCU τ), KCU (fX1_tie_0l107 fu q0 τ)
  | 0, _, _, h => h
  | fu + 1, _, _, h => kb_fX1_tie_0b107 (fun _ _ q => kb_fX1_tie_0l107  fu q) h
theorem kb_fX1_tie_0b104  {σ : ST} (h_σ : KCU σ) : KCU (fX1_tie_0b104 σ) := by
  unfold fX1_tie_0b104
  exact kb_fX1_tie_0l107  _ h_σ
theorem kb_fX1_tie_0b98 {K16 : Int32 → Int32 → Int32 → ST → ST} (hK16 : ∀ (q0 : Int32) (q1 : Int32) (q2 : Int32) (τ : ST), KCU τ → KCU (K16 q0 q1 q2 τ)) {l2 : Int32} {l3 : Int32} {l4 : Int32} {σ : ST} (h_σ : KCU σ) : KCU (fX1_tie_0b98 K16 l2 l3 l4 σ) := by
  unfold fX1_tie_0b98
  refine bdK fun v98 _ => ?_
  exact hK16 _ _ _ _ h_σ
theorem kb_fX1_tie_0b65 {K16 : Int32 → Int32 → Int32 → ST → ST} (hK16 : ∀ (q0 : Int32) (q1 : Int32) (q2 : Int32) (τ : ST), KCU τ → KCU (K16 q0 q1 q2 τ)) {K31 : Int32 → Int32 → Int32 → Int32 → ST → ST} (hK31 : ∀ (q0 : Int32) (q1 : Int32) (q2 : Int32) (q3 : Int32) (τ : ST), KCU τ → KCU (K31 q0 q1 q2 q3 τ)) {l2 : Int32} {l3 : Int32} {l4 : Int32} {l5 : Int32} {t0 : Int32} {t1 : Int32} {σ : ST} (h_σ : KCU σ) : KCU (fX1_tie_0b65 K16 K31 l2 l3 l4 l5 t0 t1 σ) := by
  unfold fX1_tie_0b65
  refine bdK fun v65 _ => ?_
  refine bdK fun v74 _ => ?_
  refine bdK fun s79 e_s79 => ?_
  have h_s79 : KCU s79 := by rw [e_s79]; exact h_σ.putG (by omega)
  refine bdK fun v86 _ => ?_
  refine bdK fun s91 e_s91 => ?_
  have h_s91 : KCU s91 := by rw [e_s91]; exact h_s79.putG (by omega)
  refine bdK fun v92 _ => ?_
  exact hK31 _ _ _ _ _ h_s91
theorem kb_fX1_tie_0b64 {K16 : Int32 → Int32 → Int32 → ST → ST} (hK16 : ∀ (q0 : Int32) (q1 : Int32) (q2 : Int32) (τ : ST), KCU τ → KCU (K16 q0 q1 q2 τ)) {K31 : Int32 → Int32 → Int32 → Int32 → ST → ST} (hK31 : ∀ (q0 : Int32) (q1 : Int32) (q2 : Int32) (q3 : Int32) (τ : ST), KCU τ → KCU (K31 q0 q1 q2 q3 τ)) {l2 : Int32} {l3 : Int32} {l4 : Int32} {l5 : Int32} {t0 : Int32} {σ : ST} (h_σ : KCU σ) : KCU (fX1_tie_0b64 K16 K31 l2 l3 l4 l5 t0 σ) := by
  unfold fX1_tie_0b64
  exact kb_fX1_tie_0b65 hK16 hK31 h_σ
theorem kb_fX1_tie_0b60 {K16 : Int32 → Int32 → Int32 → ST → ST} (hK16 : ∀ (q0 : Int32) (q1 : Int32) (q2 : Int32) (τ : ST), KCU τ → KCU (K16 q0 q1 q2 τ)) {K31 : Int32 → Int32 → Int32 → Int32 → ST → ST} (hK31 : ∀ (q0 : Int32) (q1 : Int32) (q2 : Int32) (q3 : Int32) (τ : ST), KCU τ → KCU (K31 q0 q1 q2 q3 τ)) {l2 : Int32} {l3 : Int32} {l4 : Int32} {l5 : Int32} {t0 : Int32} {σ : ST} (h_σ : KCU σ) : KCU (fX1_tie_0b60 K16 K31 l2 l3 l4 l5 t0 σ) := by
  unfold fX1_tie_0b60
  exact kb_fX1_tie_0b65 hK16 hK31 h_σ
theorem kb_fX1_tie_0b40 {K16 : Int32 → Int32 → Int32 → ST → ST} (hK16 : ∀ (q0 : Int32) (q1 : Int32) (q2 : Int32) (τ : ST), KCU τ → KCU (K16 q0 q1 q2 τ)) {K31 : Int32 → Int32 → Int32 → Int32 → ST → ST} (hK31 : ∀ (q0 : Int32) (q1 : Int32) (q2 : Int32) (q3 : Int32) (τ : ST), KCU τ → KCU (K31 q0 q1 q2 q3 τ)) {l2 : Int32} {l3 : Int32} {l4 : Int32} {l5 : Int32} {σ : ST} (h_σ : KCU σ) : KCU (fX1_tie_0b40 K16 K31 l2 l3 l4 l5 σ) := by
  unfold fX1_tie_0b40
  refine bdK fun v46 _ => ?_
  refine bdK fun v54 _ => ?_
  exact iteK (kb_fX1_tie_0b64 hK16 hK31 h_σ) (kb_fX1_tie_0b60 hK16 hK31 h_σ)
theorem kb_fX1_tie_0b31 {K16 : Int32 → Int32 → Int32 → ST → ST} (hK16 : ∀ (q0 : Int32) (q1 : Int32) (q2 : Int32) (τ : ST), KCU τ → KCU (K16 q0 q1 q2 τ)) {K31 : Int32 → Int32 → Int32 → Int32 → ST → ST} (hK31 : ∀ (q0 : Int32) (q1 : Int32) (q2 : Int32) (q3 : Int32) (τ : ST), KCU τ → KCU (K31 q0 q1 q2 q3 τ)) {l2 : Int32} {l3 : Int32} {l4 : Int32} {l5 : Int32} {σ : ST} (h_σ : KCU σ) : KCU (fX1_tie_0b31 K16 K31 l2 l3 l4 l5 σ) := by
  unfold fX1_tie_0b31
  refine bdK fun v34 _ => ?_
  exact iteK (kb_fX1_tie_0b98 hK16 h_σ) (kb_fX1_tie_0b40 hK16 hK31 h_σ)
theorem kb_fX1_tie_0l31 {K16 : Int32 → Int32 → Int32 → ST → ST} (hK16 : ∀ (q0 : Int32) (q1 : Int32) (q2 : Int32) (τ : ST), KCU τ → KCU (K16 q0 q1 q2 τ)) : ∀ (fu : Nat) {q0 : Int32} {q1 : Int32} {q2 : Int32} {q3 : Int32} {τ : ST} (h : KCU τ), KCU (fX1_tie_0l31 K16 fu q0 q1 q2 q3 τ)
  | 0, _, _, _, _, _, h => h
  | fu + 1, _, _, _, _, _, h => kb_fX1_tie_0b31 hK16 (fun _ _ _ _ _ q => kb_fX1_tie_0l31 hK16 fu q) h
theorem kb_fX1_tie_0b25 {K16 : Int32 → Int32 → Int32 → ST → ST} (hK16 : ∀ (q0 : Int32) (q1 : Int32) (q2 : Int32) (τ : ST), KCU τ → KCU (K16 q0 q1 q2 τ)) {l2 : Int32} {l3 : Int32} {l4 : Int32} {σ : ST} (h_σ : KCU σ) : KCU (fX1_tie_0b25 K16 l2 l3 l4 σ) := by
  unfold fX1_tie_0b25
  refine bdK fun v28 _ => ?_
  exact kb_fX1_tie_0l31 hK16 _ h_σ
theorem kb_fX1_tie_0b16 {K16 : Int32 → Int32 → Int32 → ST → ST} (hK16 : ∀ (q0 : Int32) (q1 : Int32) (q2 : Int32) (τ : ST), KCU τ → KCU (K16 q0 q1 q2 τ)) {l2 : Int32} {l3 : Int32} {l4 : Int32} {σ : ST} (h_σ : KCU σ) : KCU (fX1_tie_0b16 K16 l2 l3 l4 σ) := by
  unfold fX1_tie_0b16
  refine bdK fun v19 _ => ?_
  exact iteK (kb_fX1_tie_0b104  h_σ) (kb_fX1_tie_0b25 hK16 h_σ)
theorem kb_fX1_tie_0l16  : ∀ (fu : Nat) {q0 : Int32} {q1 : Int32} {q2 : Int32} {τ : ST} (h : KCU τ), KCU (fX1_tie_0l16 fu q0 q1 q2 τ)
  | 0, _, _, _, _, h => h
  | fu + 1, _, _, _, _, h => kb_fX1_tie_0b16 (fun _ _ _ _ q => kb_fX1_tie_0l16  fu q) h
theorem kb_fX1_tie_0b0  {l2 : Int32} {l3 : Int32} {σ : ST} (h_σ : KCU σ) : KCU (fX1_tie_0b0 l2 l3 σ) := by
  unfold fX1_tie_0b0
  refine bdK fun v2 _ => ?_
  refine bdK fun v7 _ => ?_
  refine bdK fun s10 e_s10 => ?_
  have h_s10 : KCU s10 := by rw [e_s10]; exact h_σ.putI rfl
  exact kb_fX1_tie_0l16  _ h_s10
theorem kc_fX1_tie_0 {p2 : Int32} {p3 : Int32} {σ : ST} (h : KCU σ) : KCU (fX1_tie_0 p2 p3 σ) := kb_fX1_tie_0b0 h
theorem kb_fX4_findMiddles_0b106  {σ : ST} (h_σ : KCU σ) : KCU (fX4_findMiddles_0b106 σ) := by
  unfold fX4_findMiddles_0b106
  exact h_σ
theorem kb_fX4_findMiddles_0b88 {K3 : Int32 → ST → ST} (hK3 : ∀ (q0 : Int32) (τ : ST), KCU τ → KCU (K3 q0 τ)) {l4 : Int32} {σ : ST} (h_σ : KCU σ) : KCU (fX4_findMiddles_0b88 K3 l4 σ) := by
  unfold fX4_findMiddles_0b88
  refine bdK fun v96 _ => ?_
  refine bdK fun s97 e_s97 => ?_
  have h_s97 : KCU s97 := by rw [e_s97]; exact h_σ.fr fr_fX3_writeMiddle_1 rfl rfl
  refine bdK fun v100 _ => ?_
  exact hK3 _ _ h_s97
theorem kb_fX4_findMiddles_0b82 {K3 : Int32 → ST → ST} (hK3 : ∀ (q0 : Int32) (τ : ST), KCU τ → KCU (K3 q0 τ)) {K26 : Int32 → Int32 → ST → ST} (hK26 : ∀ (q0 : Int32) (q1 : Int32) (τ : ST), KCU τ → KCU (K26 q0 q1 τ)) {l4 : Int32} {l5 : Int32} {σ : ST} (h_σ : KCU σ) : KCU (fX4_findMiddles_0b82 K3 K26 l4 l5 σ) := by
  unfold fX4_findMiddles_0b82
  refine bdK fun v82 _ => ?_
  exact hK26 _ _ _ h_σ
theorem kb_fX4_findMiddles_0b75 {K3 : Int32 → ST → ST} (hK3 : ∀ (q0 : Int32) (τ : ST), KCU τ → KCU (K3 q0 τ)) {K26 : Int32 → Int32 → ST → ST} (hK26 : ∀ (q0 : Int32) (q1 : Int32) (τ : ST), KCU τ → KCU (K26 q0 q1 τ)) {l4 : Int32} {l5 : Int32} {σ : ST} (h_σ : KCU σ) : KCU (fX4_findMiddles_0b75 K3 K26 l4 l5 σ) := by
  unfold fX4_findMiddles_0b75
  refine bdK fun s79 e_s79 => ?_
  have h_s79 : KCU s79 := by rw [e_s79]; exact kc_fX3_take_0 h_σ
  exact kb_fX4_findMiddles_0b82 hK3 hK26 h_s79
theorem kb_fX4_findMiddles_0b63 {K3 : Int32 → ST → ST} (hK3 : ∀ (q0 : Int32) (τ : ST), KCU τ → KCU (K3 q0 τ)) {K26 : Int32 → Int32 → ST → ST} (hK26 : ∀ (q0 : Int32) (q1 : Int32) (τ : ST), KCU τ → KCU (K26 q0 q1 τ)) {l4 : Int32} {l5 : Int32} {l6 : Int32} {σ : ST} (h_σ : KCU σ) : KCU (fX4_findMiddles_0b63 K3 K26 l4 l5 l6 σ) := by
  unfold fX4_findMiddles_0b63
  refine bdK fun v69 _ => ?_
  exact iteK (kb_fX4_findMiddles_0b75 hK3 hK26 h_σ) (kb_fX4_findMiddles_0b82 hK3 hK26 h_σ)
theorem kb_fX4_findMiddles_0b56 {K3 : Int32 → ST → ST} (hK3 : ∀ (q0 : Int32) (τ : ST), KCU τ → KCU (K3 q0 τ)) {K26 : Int32 → Int32 → ST → ST} (hK26 : ∀ (q0 : Int32) (q1 : Int32) (τ : ST), KCU τ → KCU (K26 q0 q1 τ)) {l4 : Int32} {l5 : Int32} {l6 : Int32} {σ : ST} (h_σ : KCU σ) : KCU (fX4_findMiddles_0b56 K3 K26 l4 l5 l6 σ) := by
  unfold fX4_findMiddles_0b56
  exact iteK (kb_fX4_findMiddles_0b82 hK3 hK26 h_σ) (kb_fX4_findMiddles_0b63 hK3 hK26 h_σ)
theorem kb_fX4_findMiddles_0b42 {K3 : Int32 → ST → ST} (hK3 : ∀ (q0 : Int32) (τ : ST), KCU τ → KCU (K3 q0 τ)) {K26 : Int32 → Int32 → ST → ST} (hK26 : ∀ (q0 : Int32) (q1 : Int32) (τ : ST), KCU τ → KCU (K26 q0 q1 τ)) {l4 : Int32} {l5 : Int32} {σ : ST} (h_σ : KCU σ) : KCU (fX4_findMiddles_0b42 K3 K26 l4 l5 σ) := by
  unfold fX4_findMiddles_0b42
  refine bdK fun v48 _ => ?_
  exact iteK (kb_fX4_findMiddles_0b82 hK3 hK26 h_σ) (kb_fX4_findMiddles_0b56 hK3 hK26 h_σ)
theorem kb_fX4_findMiddles_0b35 {K3 : Int32 → ST → ST} (hK3 : ∀ (q0 : Int32) (τ : ST), KCU τ → KCU (K3 q0 τ)) {K26 : Int32 → Int32 → ST → ST} (hK26 : ∀ (q0 : Int32) (q1 : Int32) (τ : ST), KCU τ → KCU (K26 q0 q1 τ)) {l4 : Int32} {l5 : Int32} {σ : ST} (h_σ : KCU σ) : KCU (fX4_findMiddles_0b35 K3 K26 l4 l5 σ) := by
  unfold fX4_findMiddles_0b35
  exact iteK (kb_fX4_findMiddles_0b88 hK3 h_σ) (kb_fX4_findMiddles_0b42 hK3 hK26 h_σ)
theorem kb_fX4_findMiddles_0b26 {K3 : Int32 → ST → ST} (hK3 : ∀ (q0 : Int32) (τ : ST), KCU τ → KCU (K3 q0 τ)) {K26 : Int32 → Int32 → ST → ST} (hK26 : ∀ (q0 : Int32) (q1 : Int32) (τ : ST), KCU τ → KCU (K26 q0 q1 τ)) {l4 : Int32} {l5 : Int32} {σ : ST} (h_σ : KCU σ) : KCU (fX4_findMiddles_0b26 K3 K26 l4 l5 σ) := by
  unfold fX4_findMiddles_0b26
  refine bdK fun v29 _ => ?_
  exact iteK (kb_fX4_findMiddles_0b88 hK3 h_σ) (kb_fX4_findMiddles_0b35 hK3 hK26 h_σ)
theorem kb_fX4_findMiddles_0l26 {K3 : Int32 → ST → ST} (hK3 : ∀ (q0 : Int32) (τ : ST), KCU τ → KCU (K3 q0 τ)) : ∀ (fu : Nat) {q0 : Int32} {q1 : Int32} {τ : ST} (h : KCU τ), KCU (fX4_findMiddles_0l26 K3 fu q0 q1 τ)
  | 0, _, _, _, h => h
  | fu + 1, _, _, _, h => kb_fX4_findMiddles_0b26 hK3 (fun _ _ _ q => kb_fX4_findMiddles_0l26 hK3 fu q) h
theorem kb_fX4_findMiddles_0b19 {K3 : Int32 → ST → ST} (hK3 : ∀ (q0 : Int32) (τ : ST), KCU τ → KCU (K3 q0 τ)) {l4 : Int32} {σ : ST} (h_σ : KCU σ) : KCU (fX4_findMiddles_0b19 K3 l4 σ) := by
  unfold fX4_findMiddles_0b19
  refine bdK fun s20 e_s20 => ?_
  have h_s20 : KCU s20 := by rw [e_s20]; exact h_σ.fr fr_fX3_empty_0 rfl rfl
  exact kb_fX4_findMiddles_0l26 hK3 _ h_s20
theorem kb_fX4_findMiddles_0b12 {K3 : Int32 → ST → ST} (hK3 : ∀ (q0 : Int32) (τ : ST), KCU τ → KCU (K3 q0 τ)) {l4 : Int32} {σ : ST} (h_σ : KCU σ) : KCU (fX4_findMiddles_0b12 K3 l4 σ) := by
  unfold fX4_findMiddles_0b12
  exact iteK (kb_fX4_findMiddles_0b106  h_σ) (kb_fX4_findMiddles_0b19 hK3 h_σ)
theorem kb_fX4_findMiddles_0b3 {K3 : Int32 → ST → ST} (hK3 : ∀ (q0 : Int32) (τ : ST), KCU τ → KCU (K3 q0 τ)) {l4 : Int32} {σ : ST} (h_σ : KCU σ) : KCU (fX4_findMiddles_0b3 K3 l4 σ) := by
  unfold fX4_findMiddles_0b3
  refine bdK fun v6 _ => ?_
  exact iteK (kb_fX4_findMiddles_0b106  h_σ) (kb_fX4_findMiddles_0b12 hK3 h_σ)
theorem kb_fX4_findMiddles_0l3  : ∀ (fu : Nat) {q0 : Int32} {τ : ST} (h : KCU τ), KCU (fX4_findMiddles_0l3 fu q0 τ)
  | 0, _, _, h => h
  | fu + 1, _, _, h => kb_fX4_findMiddles_0b3 (fun _ _ q => kb_fX4_findMiddles_0l3  fu q) h
theorem kb_fX4_findMiddles_0b0  {σ : ST} (h_σ : KCU σ) : KCU (fX4_findMiddles_0b0 σ) := by
  unfold fX4_findMiddles_0b0
  exact kb_fX4_findMiddles_0l3  _ h_σ
theorem kc_fX4_findMiddles_0 {σ : ST} (h : KCU σ) : KCU (fX4_findMiddles_0 σ) := kb_fX4_findMiddles_0b0 h
theorem kb_fX1_joinTwo_0b111  {σ : ST} (h_σ : KCU σ) : KCP (fX1_joinTwo_0b111 σ) := by
  unfold fX1_joinTwo_0b111
  exact h_σ
theorem kb_fX1_joinTwo_0b189  {σ : ST} (h_σ : KCU σ) : KCP (fX1_joinTwo_0b189 σ) := by
  unfold fX1_joinTwo_0b189
  exact h_σ
theorem kb_fX1_joinTwo_0b183 {K116 : Int32 → Int32 → Int32 → ST → (Int32 × ST)} (hK116 : ∀ (q0 : Int32) (q1 : Int32) (q2 : Int32) (τ : ST), KCU τ → KCP (K116 q0 q1 q2 τ)) {l2 : Int32} {l3 : Int32} {l5 : Int32} {σ : ST} (h_σ : KCU σ) : KCP (fX1_joinTwo_0b183 K116 l2 l3 l5 σ) := by
  unfold fX1_joinTwo_0b183
  refine bdK2 fun v183 _ => ?_
  exact hK116 _ _ _ _ h_σ
theorem kb_fX1_joinTwo_0b175 {K116 : Int32 → Int32 → Int32 → ST → (Int32 × ST)} (hK116 : ∀ (q0 : Int32) (q1 : Int32) (q2 : Int32) (τ : ST), KCU τ → KCP (K116 q0 q1 q2 τ)) {l2 : Int32} {l3 : Int32} {l5 : Int32} {σ : ST} (h_σ : KCU σ) : KCP (fX1_joinTwo_0b175 K116 l2 l3 l5 σ) := by
  unfold fX1_joinTwo_0b175
  refine bdK2 fun s182 e_s182 => ?_
  have h_s182 : KCU s182 := by rw [e_s182]; exact h_σ.putA rfl
  exact kb_fX1_joinTwo_0b183 hK116 h_s182
theorem kb_fX1_joinTwo_0b125 {K116 : Int32 → Int32 → Int32 → ST → (Int32 × ST)} (hK116 : ∀ (q0 : Int32) (q1 : Int32) (q2 : Int32) (τ : ST), KCU τ → KCP (K116 q0 q1 q2 τ)) {l2 : Int32} {l3 : Int32} {l5 : Int32} {σ : ST} (h_σ : KCU σ) : KCP (fX1_joinTwo_0b125 K116 l2 l3 l5 σ) := by
  unfold fX1_joinTwo_0b125
  refine bdK2 fun v130 _ => ?_
  refine bdK2 fun v134 _ => ?_
  refine bdK2 fun v140 _ => ?_
  refine bdK2 fun v143 _ => ?_
  refine bdK2 fun v144 _ => ?_
  refine bdK2 fun s145 e_s145 => ?_
  have h_s145 : KCU s145 := by rw [e_s145]; exact h_σ.putG (by omega)
  refine bdK2 fun v152 _ => ?_
  refine bdK2 fun v159 _ => ?_
  refine bdK2 fun v162 _ => ?_
  refine bdK2 fun s163 e_s163 => ?_
  have h_s163 : KCU s163 := by rw [e_s163]; exact h_s145.putG (by omega)
  refine bdK2 fun v170 _ => ?_
  exact iteK2 (kb_fX1_joinTwo_0b175 hK116 h_s163) (kb_fX1_joinTwo_0b183 hK116 h_s163)
theorem kb_fX1_joinTwo_0b116 {K116 : Int32 → Int32 → Int32 → ST → (Int32 × ST)} (hK116 : ∀ (q0 : Int32) (q1 : Int32) (q2 : Int32) (τ : ST), KCU τ → KCP (K116 q0 q1 q2 τ)) {l2 : Int32} {l3 : Int32} {l5 : Int32} {σ : ST} (h_σ : KCU σ) : KCP (fX1_joinTwo_0b116 K116 l2 l3 l5 σ) := by
  unfold fX1_joinTwo_0b116
  refine bdK2 fun v119 _ => ?_
  exact iteK2 (kb_fX1_joinTwo_0b189  h_σ) (kb_fX1_joinTwo_0b125 hK116 h_σ)
theorem kb_fX1_joinTwo_0l116  : ∀ (fu : Nat) {q0 : Int32} {q1 : Int32} {q2 : Int32} {τ : ST} (h : KCU τ), KCP (fX1_joinTwo_0l116 fu q0 q1 q2 τ)
  | 0, _, _, _, _, h => h
  | fu + 1, _, _, _, _, h => kb_fX1_joinTwo_0b116 (fun _ _ _ _ q => kb_fX1_joinTwo_0l116  fu q) h
theorem kb_fX1_joinTwo_0b113  {l2 : Int32} {l3 : Int32} {σ : ST} (h_σ : KCU σ) : KCP (fX1_joinTwo_0b113 l2 l3 σ) := by
  unfold fX1_joinTwo_0b113
  exact kb_fX1_joinTwo_0l116  _ h_σ
theorem kb_fX1_joinTwo_0b107  {l2 : Int32} {l3 : Int32} {σ : ST} (h_σ : KCU σ) : KCP (fX1_joinTwo_0b107 l2 l3 σ) := by
  unfold fX1_joinTwo_0b107
  exact iteK2 (kb_fX1_joinTwo_0b113  h_σ) (kb_fX1_joinTwo_0b111  h_σ)
theorem kb_fX1_joinTwo_0b103  {l2 : Int32} {l3 : Int32} {σ : ST} (h_σ : KCU σ) : KCP (fX1_joinTwo_0b103 l2 l3 σ) := by
  unfold fX1_joinTwo_0b103
  exact iteK2 (kb_fX1_joinTwo_0b111  h_σ) (kb_fX1_joinTwo_0b107  h_σ)
theorem kb_fX1_joinTwo_0b97 {K10 : Int32 → Int32 → Int32 → Int32 → ST → (Int32 × ST)} (hK10 : ∀ (q0 : Int32) (q1 : Int32) (q2 : Int32) (q3 : Int32) (τ : ST), KCU τ → KCP (K10 q0 q1 q2 q3 τ)) {l2 : Int32} {l3 : Int32} {l4 : Int32} {l5 : Int32} {σ : ST} (h_σ : KCU σ) : KCP (fX1_joinTwo_0b97 K10 l2 l3 l4 l5 σ) := by
  unfold fX1_joinTwo_0b97
  refine bdK2 fun v97 _ => ?_
  exact hK10 _ _ _ _ _ h_σ
theorem kb_fX1_joinTwo_0b91 {K10 : Int32 → Int32 → Int32 → Int32 → ST → (Int32 × ST)} (hK10 : ∀ (q0 : Int32) (q1 : Int32) (q2 : Int32) (q3 : Int32) (τ : ST), KCU τ → KCP (K10 q0 q1 q2 q3 τ)) {K25 : Int32 → Int32 → Int32 → Int32 → Int32 → ST → (Int32 × ST)} (hK25 : ∀ (q0 : Int32) (q1 : Int32) (q2 : Int32) (q3 : Int32) (q4 : Int32) (τ : ST), KCU τ → KCP (K25 q0 q1 q2 q3 q4 τ)) {l2 : Int32} {l3 : Int32} {l4 : Int32} {l5 : Int32} {l6 : Int32} {σ : ST} (h_σ : KCU σ) : KCP (fX1_joinTwo_0b91 K10 K25 l2 l3 l4 l5 l6 σ) := by
  unfold fX1_joinTwo_0b91
  refine bdK2 fun v91 _ => ?_
  exact hK25 _ _ _ _ _ _ h_σ
theorem kb_fX1_joinTwo_0b73 {K10 : Int32 → Int32 → Int32 → Int32 → ST → (Int32 × ST)} (hK10 : ∀ (q0 : Int32) (q1 : Int32) (q2 : Int32) (q3 : Int32) (τ : ST), KCU τ → KCP (K10 q0 q1 q2 q3 τ)) {K25 : Int32 → Int32 → Int32 → Int32 → Int32 → ST → (Int32 × ST)} (hK25 : ∀ (q0 : Int32) (q1 : Int32) (q2 : Int32) (q3 : Int32) (q4 : Int32) (τ : ST), KCU τ → KCP (K25 q0 q1 q2 q3 q4 τ)) {l5 : Int32} {l6 : Int32} {σ : ST} (h_σ : KCU σ) : KCP (fX1_joinTwo_0b73 K10 K25 l5 l6 σ) := by
  unfold fX1_joinTwo_0b73
  refine bdK2 fun v79 _ => ?_
  refine bdK2 fun v82 _ => ?_
  exact kb_fX1_joinTwo_0b91 hK10 hK25 h_σ
theorem kb_fX1_joinTwo_0b58 {K10 : Int32 → Int32 → Int32 → Int32 → ST → (Int32 × ST)} (hK10 : ∀ (q0 : Int32) (q1 : Int32) (q2 : Int32) (q3 : Int32) (τ : ST), KCU τ → KCP (K10 q0 q1 q2 q3 τ)) {K25 : Int32 → Int32 → Int32 → Int32 → Int32 → ST → (Int32 × ST)} (hK25 : ∀ (q0 : Int32) (q1 : Int32) (q2 : Int32) (q3 : Int32) (q4 : Int32) (τ : ST), KCU τ → KCP (K25 q0 q1 q2 q3 q4 τ)) {l2 : Int32} {l3 : Int32} {l4 : Int32} {l5 : Int32} {l6 : Int32} {σ : ST} (h_σ : KCU σ) : KCP (fX1_joinTwo_0b58 K10 K25 l2 l3 l4 l5 l6 σ) := by
  unfold fX1_joinTwo_0b58
  refine bdK2 fun v64 _ => ?_
  refine bdK2 fun v67 _ => ?_
  exact iteK2 (kb_fX1_joinTwo_0b91 hK10 hK25 h_σ) (kb_fX1_joinTwo_0b73 hK10 hK25 h_σ)
theorem kb_fX1_joinTwo_0b46 {K10 : Int32 → Int32 → Int32 → Int32 → ST → (Int32 × ST)} (hK10 : ∀ (q0 : Int32) (q1 : Int32) (q2 : Int32) (q3 : Int32) (τ : ST), KCU τ → KCP (K10 q0 q1 q2 q3 τ)) {K25 : Int32 → Int32 → Int32 → Int32 → Int32 → ST → (Int32 × ST)} (hK25 : ∀ (q0 : Int32) (q1 : Int32) (q2 : Int32) (q3 : Int32) (q4 : Int32) (τ : ST), KCU τ → KCP (K25 q0 q1 q2 q3 q4 τ)) {l2 : Int32} {l3 : Int32} {l4 : Int32} {l5 : Int32} {l6 : Int32} {σ : ST} (h_σ : KCU σ) : KCP (fX1_joinTwo_0b46 K10 K25 l2 l3 l4 l5 l6 σ) := by
  unfold fX1_joinTwo_0b46
  refine bdK2 fun v52 _ => ?_
  exact iteK2 (kb_fX1_joinTwo_0b58 hK10 hK25 h_σ) (kb_fX1_joinTwo_0b91 hK10 hK25 h_σ)
theorem kb_fX1_joinTwo_0b34 {K10 : Int32 → Int32 → Int32 → Int32 → ST → (Int32 × ST)} (hK10 : ∀ (q0 : Int32) (q1 : Int32) (q2 : Int32) (q3 : Int32) (τ : ST), KCU τ → KCP (K10 q0 q1 q2 q3 τ)) {K25 : Int32 → Int32 → Int32 → Int32 → Int32 → ST → (Int32 × ST)} (hK25 : ∀ (q0 : Int32) (q1 : Int32) (q2 : Int32) (q3 : Int32) (q4 : Int32) (τ : ST), KCU τ → KCP (K25 q0 q1 q2 q3 q4 τ)) {l2 : Int32} {l3 : Int32} {l4 : Int32} {l5 : Int32} {l6 : Int32} {σ : ST} (h_σ : KCU σ) : KCP (fX1_joinTwo_0b34 K10 K25 l2 l3 l4 l5 l6 σ) := by
  unfold fX1_joinTwo_0b34
  refine bdK2 fun v40 _ => ?_
  exact iteK2 (kb_fX1_joinTwo_0b46 hK10 hK25 h_σ) (kb_fX1_joinTwo_0b91 hK10 hK25 h_σ)
theorem kb_fX1_joinTwo_0b25 {K10 : Int32 → Int32 → Int32 → Int32 → ST → (Int32 × ST)} (hK10 : ∀ (q0 : Int32) (q1 : Int32) (q2 : Int32) (q3 : Int32) (τ : ST), KCU τ → KCP (K10 q0 q1 q2 q3 τ)) {K25 : Int32 → Int32 → Int32 → Int32 → Int32 → ST → (Int32 × ST)} (hK25 : ∀ (q0 : Int32) (q1 : Int32) (q2 : Int32) (q3 : Int32) (q4 : Int32) (τ : ST), KCU τ → KCP (K25 q0 q1 q2 q3 q4 τ)) {l2 : Int32} {l3 : Int32} {l4 : Int32} {l5 : Int32} {l6 : Int32} {σ : ST} (h_σ : KCU σ) : KCP (fX1_joinTwo_0b25 K10 K25 l2 l3 l4 l5 l6 σ) := by
  unfold fX1_joinTwo_0b25
  refine bdK2 fun v28 _ => ?_
  exact iteK2 (kb_fX1_joinTwo_0b97 hK10 h_σ) (kb_fX1_joinTwo_0b34 hK10 hK25 h_σ)
theorem kb_fX1_joinTwo_0l25 {K10 : Int32 → Int32 → Int32 → Int32 → ST → (Int32 × ST)} (hK10 : ∀ (q0 : Int32) (q1 : Int32) (q2 : Int32) (q3 : Int32) (τ : ST), KCU τ → KCP (K10 q0 q1 q2 q3 τ)) : ∀ (fu : Nat) {q0 : Int32} {q1 : Int32} {q2 : Int32} {q3 : Int32} {q4 : Int32} {τ : ST} (h : KCU τ), KCP (fX1_joinTwo_0l25 K10 fu q0 q1 q2 q3 q4 τ)
  | 0, _, _, _, _, _, _, h => h
  | fu + 1, _, _, _, _, _, _, h => kb_fX1_joinTwo_0b25 hK10 (fun _ _ _ _ _ _ q => kb_fX1_joinTwo_0l25 hK10 fu q) h
theorem kb_fX1_joinTwo_0b19 {K10 : Int32 → Int32 → Int32 → Int32 → ST → (Int32 × ST)} (hK10 : ∀ (q0 : Int32) (q1 : Int32) (q2 : Int32) (q3 : Int32) (τ : ST), KCU τ → KCP (K10 q0 q1 q2 q3 τ)) {l2 : Int32} {l3 : Int32} {l4 : Int32} {l5 : Int32} {σ : ST} (h_σ : KCU σ) : KCP (fX1_joinTwo_0b19 K10 l2 l3 l4 l5 σ) := by
  unfold fX1_joinTwo_0b19
  refine bdK2 fun v22 _ => ?_
  exact kb_fX1_joinTwo_0l25 hK10 _ h_σ
theorem kb_fX1_joinTwo_0b10 {K10 : Int32 → Int32 → Int32 → Int32 → ST → (Int32 × ST)} (hK10 : ∀ (q0 : Int32) (q1 : Int32) (q2 : Int32) (q3 : Int32) (τ : ST), KCU τ → KCP (K10 q0 q1 q2 q3 τ)) {l2 : Int32} {l3 : Int32} {l4 : Int32} {l5 : Int32} {σ : ST} (h_σ : KCU σ) : KCP (fX1_joinTwo_0b10 K10 l2 l3 l4 l5 σ) := by
  unfold fX1_joinTwo_0b10
  refine bdK2 fun v13 _ => ?_
  exact iteK2 (kb_fX1_joinTwo_0b103  h_σ) (kb_fX1_joinTwo_0b19 hK10 h_σ)
theorem kb_fX1_joinTwo_0l10  : ∀ (fu : Nat) {q0 : Int32} {q1 : Int32} {q2 : Int32} {q3 : Int32} {τ : ST} (h : KCU τ), KCP (fX1_joinTwo_0l10 fu q0 q1 q2 q3 τ)
  | 0, _, _, _, _, _, h => h
  | fu + 1, _, _, _, _, _, h => kb_fX1_joinTwo_0b10 (fun _ _ _ _ _ q => kb_fX1_joinTwo_0l10  fu q) h
theorem kb_fX1_joinTwo_0b0  {σ : ST} (h_σ : KCU σ) : KCP (fX1_joinTwo_0b0 σ) := by
  unfold fX1_joinTwo_0b0
  exact kb_fX1_joinTwo_0l10  _ h_σ
theorem kc_fX1_joinTwo_0 {σ : ST} (h : KCU σ) : KCU (fX1_joinTwo_0 σ).2 := kb_fX1_joinTwo_0b0 h
theorem kb_fX1_join_0b83  {σ : ST} (h_σ : KCU σ) : KCU (fX1_join_0b83 σ) := by
  unfold fX1_join_0b83
  refine bdK fun v85 _ => ?_
  refine bdK fun s88 e_s88 => ?_
  have h_s88 : KCU s88 := by rw [e_s88]; exact h_σ.fr fr_fX4_numberHeaps_0 rfl rfl
  refine bdK fun v94 _ => ?_
  refine bdK fun s97 e_s97 => ?_
  have h_s97 : KCU s97 := by rw [e_s97]; exact h_s88.putI rfl
  exact h_s97
theorem kb_fX1_join_0b71 {K59 : Int32 → Int32 → ST → ST} (hK59 : ∀ (q0 : Int32) (q1 : Int32) (τ : ST), KCU τ → KCU (K59 q0 q1 τ)) {l3 : Int32} {σ : ST} (h_σ : KCU σ) : KCU (fX1_join_0b71 K59 l3 σ) := by
  unfold fX1_join_0b71
  refine bpK fun v73 s73 e_s73 => ?_
  have h_s73 : KCU s73 := by rw [← e_s73]; exact kc_fX1_joinTwo_0 h_σ
  refine bdK fun v77 _ => ?_
  exact hK59 _ _ _ h_s73
theorem kb_fX1_join_0b67 {K59 : Int32 → Int32 → ST → ST} (hK59 : ∀ (q0 : Int32) (q1 : Int32) (τ : ST), KCU τ → KCU (K59 q0 q1 τ)) {l2 : Int32} {l3 : Int32} {σ : ST} (h_σ : KCU σ) : KCU (fX1_join_0b67 K59 l2 l3 σ) := by
  unfold fX1_join_0b67
  exact iteK (kb_fX1_join_0b83  h_σ) (kb_fX1_join_0b71 hK59 h_σ)
theorem kb_fX1_join_0b59 {K59 : Int32 → Int32 → ST → ST} (hK59 : ∀ (q0 : Int32) (q1 : Int32) (τ : ST), KCU τ → KCU (K59 q0 q1 τ)) {l2 : Int32} {l3 : Int32} {σ : ST} (h_σ : KCU σ) : KCU (fX1_join_0b59 K59 l2 l3 σ) := by
  unfold fX1_join_0b59
  refine bdK fun v61 _ => ?_
  exact iteK (kb_fX1_join_0b83  h_σ) (kb_fX1_join_0b67 hK59 h_σ)
theorem kb_fX1_join_0l59  : ∀ (fu : Nat) {q0 : Int32} {q1 : Int32} {τ : ST} (h : KCU τ), KCU (fX1_join_0l59 fu q0 q1 τ)
  | 0, _, _, _, h => h
  | fu + 1, _, _, _, h => kb_fX1_join_0b59 (fun _ _ _ q => kb_fX1_join_0l59  fu q) h
theorem kb_fX1_join_0b55  {σ : ST} (h_σ : KCU σ) : KCU (fX1_join_0b55 σ) := by
  unfold fX1_join_0b55
  exact kb_fX1_join_0l59  _ h_σ
theorem kb_fX1_join_0b49 {K2 : Int32 → ST → ST} (hK2 : ∀ (q0 : Int32) (τ : ST), KCU τ → KCU (K2 q0 τ)) {l2 : Int32} {σ : ST} (h_σ : KCU σ) : KCU (fX1_join_0b49 K2 l2 σ) := by
  unfold fX1_join_0b49
  refine bdK fun v49 _ => ?_
  exact hK2 _ _ h_σ
theorem kb_fX1_join_0b27 {K2 : Int32 → ST → ST} (hK2 : ∀ (q0 : Int32) (τ : ST), KCU τ → KCU (K2 q0 τ)) {K19 : Int32 → Int32 → ST → ST} (hK19 : ∀ (q0 : Int32) (q1 : Int32) (τ : ST), KCU τ → KCU (K19 q0 q1 τ)) {l2 : Int32} {l3 : Int32} {σ : ST} (h_σ : KCU σ) : KCU (fX1_join_0b27 K2 K19 l2 l3 σ) := by
  unfold fX1_join_0b27
  refine bdK fun v32 _ => ?_
  refine bdK fun v39 _ => ?_
  refine bdK fun v41 _ => ?_
  refine bdK fun s42 e_s42 => ?_
  have h_s42 : KCU s42 := by rw [e_s42]; exact h_σ.putG (by omega)
  refine bdK fun v43 _ => ?_
  exact hK19 _ _ _ h_s42
theorem kb_fX1_join_0b19 {K2 : Int32 → ST → ST} (hK2 : ∀ (q0 : Int32) (τ : ST), KCU τ → KCU (K2 q0 τ)) {K19 : Int32 → Int32 → ST → ST} (hK19 : ∀ (q0 : Int32) (q1 : Int32) (τ : ST), KCU τ → KCU (K19 q0 q1 τ)) {l2 : Int32} {l3 : Int32} {σ : ST} (h_σ : KCU σ) : KCU (fX1_join_0b19 K2 K19 l2 l3 σ) := by
  unfold fX1_join_0b19
  refine bdK fun v21 _ => ?_
  exact iteK (kb_fX1_join_0b49 hK2 h_σ) (kb_fX1_join_0b27 hK2 hK19 h_σ)
theorem kb_fX1_join_0l19 {K2 : Int32 → ST → ST} (hK2 : ∀ (q0 : Int32) (τ : ST), KCU τ → KCU (K2 q0 τ)) : ∀ (fu : Nat) {q0 : Int32} {q1 : Int32} {τ : ST} (h : KCU τ), KCU (fX1_join_0l19 K2 fu q0 q1 τ)
  | 0, _, _, _, h => h
  | fu + 1, _, _, _, h => kb_fX1_join_0b19 hK2 (fun _ _ _ q => kb_fX1_join_0l19 hK2 fu q) h
theorem kb_fX1_join_0b10 {K2 : Int32 → ST → ST} (hK2 : ∀ (q0 : Int32) (τ : ST), KCU τ → KCU (K2 q0 τ)) {l2 : Int32} {σ : ST} (h_σ : KCU σ) : KCU (fX1_join_0b10 K2 l2 σ) := by
  unfold fX1_join_0b10
  refine bdK fun s16 e_s16 => ?_
  have h_s16 : KCU s16 := by rw [e_s16]; exact h_σ.putA rfl
  exact kb_fX1_join_0l19 hK2 _ h_s16
theorem kb_fX1_join_0b2 {K2 : Int32 → ST → ST} (hK2 : ∀ (q0 : Int32) (τ : ST), KCU τ → KCU (K2 q0 τ)) {l2 : Int32} {σ : ST} (h_σ : KCU σ) : KCU (fX1_join_0b2 K2 l2 σ) := by
  unfold fX1_join_0b2
  refine bdK fun v4 _ => ?_
  exact iteK (kb_fX1_join_0b55  h_σ) (kb_fX1_join_0b10 hK2 h_σ)
theorem kb_fX1_join_0l2  : ∀ (fu : Nat) {q0 : Int32} {τ : ST} (h : KCU τ), KCU (fX1_join_0l2 fu q0 τ)
  | 0, _, _, h => h
  | fu + 1, _, _, h => kb_fX1_join_0b2 (fun _ _ q => kb_fX1_join_0l2  fu q) h
theorem kb_fX1_join_0b0  {σ : ST} (h_σ : KCU σ) : KCU (fX1_join_0b0 σ) := by
  unfold fX1_join_0b0
  exact kb_fX1_join_0l2  _ h_σ
theorem kc_fX1_join_0 {σ : ST} (h : KCU σ) : KCU (fX1_join_0 σ) := kb_fX1_join_0b0 h
theorem kb_fX11_heapNow_0b101  {σ : ST} (h_σ : KCU σ) : KCP (fX11_heapNow_0b101 σ) := by
  unfold fX11_heapNow_0b101
  exact h_σ
theorem kb_fX11_heapNow_0b25  {σ : ST} (h_σ : KCU σ) : KCP (fX11_heapNow_0b25 σ) := by
  unfold fX11_heapNow_0b25
  refine bdK2 fun v38 _ => ?_
  refine bdK2 fun v46 _ => ?_
  refine bdK2 fun s49 e_s49 => ?_
  have h_s49 : KCU s49 := by rw [e_s49]; exact kc_fX1_tie_0 h_σ
  refine bdK2 fun s60 e_s60 => ?_
  have h_s60 : KCU s60 := by rw [e_s60]; exact h_s49.fr fr_fX0_findBest_0 rfl rfl
  refine bdK2 fun s82 e_s82 => ?_
  have h_s82 : KCU s82 := by rw [e_s82]; exact kc_fX4_findMiddles_0 h_s60
  refine bdK2 fun s93 e_s93 => ?_
  have h_s93 : KCU s93 := by rw [e_s93]; exact kc_fX1_join_0 h_s82
  refine bdK2 fun s98 e_s98 => ?_
  have h_s98 : KCU s98 := by rw [e_s98]; exact h_s93.putI rfl
  exact kb_fX11_heapNow_0b101  h_s98
theorem kb_fX11_heapNow_0b18  {σ : ST} (h_σ : KCU σ) : KCP (fX11_heapNow_0b18 σ) := by
  unfold fX11_heapNow_0b18
  refine bdK2 fun v19 _ => ?_
  exact iteK2 (kb_fX11_heapNow_0b101  h_σ) (kb_fX11_heapNow_0b25  h_σ)
theorem kb_fX11_heapNow_0b16  {σ : ST} (h_σ : KCU σ) : KCP (fX11_heapNow_0b16 σ) := by
  unfold fX11_heapNow_0b16
  exact h_σ
theorem kb_fX11_heapNow_0b0  {σ : ST} (h_σ : KCU σ) : KCP (fX11_heapNow_0b0 σ) := by
  unfold fX11_heapNow_0b0
  refine bdK2 fun s1 e_s1 => ?_
  have h_s1 : KCU s1 := by rw [e_s1]; exact kc_fX11_cutNow_0 h_σ
  refine bdK2 fun v8 _ => ?_
  exact iteK2 (kb_fX11_heapNow_0b18  h_s1) (kb_fX11_heapNow_0b16  h_s1)
theorem kc_fX11_heapNow_0 {σ : ST} (h : KCU σ) : KCU (fX11_heapNow_0 σ).2 := kb_fX11_heapNow_0b0 h
theorem kb_fX11_heap_0b17  {σ : ST} (h_σ : KCU σ) : KCP (fX11_heap_0b17 σ) := by
  unfold fX11_heap_0b17
  exact h_σ
theorem kb_fX11_heap_0b34  {l1 : Int32} {σ : ST} (h_σ : KCU σ) : KCP (fX11_heap_0b34 l1 σ) := by
  unfold fX11_heap_0b34
  refine bdK2 fun v38 _ => ?_
  exact h_σ
theorem kb_fX11_heap_0b34a  {l1 : Int32} {σ : ST} (h_σ : KCU σ) : KCP (fX11_heap_0b34a l1 σ) := by
  unfold fX11_heap_0b34a
  refine bdK2 fun v38 _ => ?_
  exact h_σ
theorem kb_fX11_heap_0b29  {l1 : Int32} {l2 : Int32} {σ : ST} (h_σ : KCU σ) : KCP (fX11_heap_0b29 l1 l2 σ) := by
  unfold fX11_heap_0b29
  refine bdK2 fun v31 _ => ?_
  refine iteK2 (kb_fX11_heap_0b34  h_σ) ?_
  exact kb_fX11_heap_0b34a  h_σ
theorem kb_fX11_heap_0b26  {σ : ST} (h_σ : KCU σ) : KCP (fX11_heap_0b26 σ) := by
  unfold fX11_heap_0b26
  exact h_σ
theorem kb_fX11_heap_0b19  {l1 : Int32} {l2 : Int32} {σ : ST} (h_σ : KCU σ) : KCP (fX11_heap_0b19 l1 l2 σ) := by
  unfold fX11_heap_0b19
  refine bpK2 fun v20 s20 e_s20 => ?_
  have h_s20 : KCU s20 := by rw [← e_s20]; exact kc_fX11_heapNow_0 h_σ
  exact iteK2 (kb_fX11_heap_0b26  h_s20) (kb_fX11_heap_0b29  h_s20)
theorem kb_fX11_heap_0b8  {l1 : Int32} {l2 : Int32} {σ : ST} (h_σ : KCU σ) : KCP (fX11_heap_0b8 l1 l2 σ) := by
  unfold fX11_heap_0b8
  refine bdK2 fun v11 _ => ?_
  exact iteK2 (kb_fX11_heap_0b17  h_σ) (kb_fX11_heap_0b19  h_σ)
theorem kb_fX11_heap_0b0  {l1 : Int32} {l2 : Int32} {σ : ST} (h_σ : KCU σ) : KCP (fX11_heap_0b0 l1 l2 σ) := by
  unfold fX11_heap_0b0
  refine bpK2 fun v2 s2 e_s2 => ?_
  have h_s2 : KCU s2 := by rw [← e_s2]; exact kc_fX11_isPiece_0 h_σ
  exact iteK2 (kb_fX11_heap_0b17  h_s2) (kb_fX11_heap_0b8  h_s2)
theorem kc_fX11_heap_0 {p1 : Int32} {p2 : Int32} {σ : ST} (h : KCU σ) : KCU (fX11_heap_0 p1 p2 σ).2 := kb_fX11_heap_0b0 h
theorem kb_fX11_worth_0b16  {σ : ST} (h_σ : KCU σ) : KCP (fX11_worth_0b16 σ) := by
  unfold fX11_worth_0b16
  exact h_σ
theorem kb_fX11_worth_0b24  {σ : ST} (h_σ : KCU σ) : KCP (fX11_worth_0b24 σ) := by
  unfold fX11_worth_0b24
  refine bdK2 fun v24 _ => ?_
  exact h_σ
theorem kb_fX11_worth_0b24a  {σ : ST} (h_σ : KCU σ) : KCP (fX11_worth_0b24a σ) := by
  unfold fX11_worth_0b24a
  refine bdK2 fun v24 _ => ?_
  exact h_σ
theorem kb_fX11_worth_0b19  {l1 : Int32} {σ : ST} (h_σ : KCU σ) : KCP (fX11_worth_0b19 l1 σ) := by
  unfold fX11_worth_0b19
  refine bdK2 fun v21 _ => ?_
  refine iteK2 (kb_fX11_worth_0b24  h_σ) ?_
  exact kb_fX11_worth_0b24a  h_σ
theorem kb_fX11_worth_0b9  {l1 : Int32} {σ : ST} (h_σ : KCU σ) : KCP (fX11_worth_0b9 l1 σ) := by
  unfold fX11_worth_0b9
  refine bpK2 fun v10 s10 e_s10 => ?_
  have h_s10 : KCU s10 := by rw [← e_s10]; exact kc_fX11_heapNow_0 h_σ
  exact iteK2 (kb_fX11_worth_0b16  h_s10) (kb_fX11_worth_0b19  h_s10)
theorem kb_fX11_worth_0b0  {l1 : Int32} {σ : ST} (h_σ : KCU σ) : KCP (fX11_worth_0b0 l1 σ) := by
  unfold fX11_worth_0b0
  refine bdK2 fun v3 _ => ?_
  exact iteK2 (kb_fX11_worth_0b16  h_σ) (kb_fX11_worth_0b9  h_σ)
theorem kc_fX11_worth_0 {p1 : Int32} {σ : ST} (h : KCU σ) : KCU (fX11_worth_0 p1 σ).2 := kb_fX11_worth_0b0 h
theorem kb_fX11_near_0b75  {t0 : Int32} {σ : ST} (h_σ : KCU σ) : KCP (fX11_near_0b75 t0 σ) := by
  unfold fX11_near_0b75
  exact h_σ
theorem kb_fX11_near_0b68  {σ : ST} (h_σ : KCU σ) : KCP (fX11_near_0b68 σ) := by
  unfold fX11_near_0b68
  refine bdK2 fun v72 _ => ?_
  exact kb_fX11_near_0b75  h_σ
theorem kb_fX11_near_0b58  {σ : ST} (h_σ : KCU σ) : KCP (fX11_near_0b58 σ) := by
  unfold fX11_near_0b58
  refine bdK2 fun v62 _ => ?_
  exact kb_fX11_near_0b75  h_σ
theorem kb_fX11_near_0b53  {l1 : Int32} {σ : ST} (h_σ : KCU σ) : KCP (fX11_near_0b53 l1 σ) := by
  unfold fX11_near_0b53
  exact iteK2 (kb_fX11_near_0b58  h_σ) (kb_fX11_near_0b68  h_σ)
theorem kb_fX11_near_0b45  {σ : ST} (h_σ : KCU σ) : KCP (fX11_near_0b45 σ) := by
  unfold fX11_near_0b45
  refine bdK2 fun v49 _ => ?_
  exact h_σ
theorem kb_fX11_near_0b37  {l1 : Int32} {σ : ST} (h_σ : KCU σ) : KCP (fX11_near_0b37 l1 σ) := by
  unfold fX11_near_0b37
  refine bdK2 fun s38 e_s38 => ?_
  have h_s38 : KCU s38 := by rw [e_s38]; exact h_σ.fr fr_fX11_nearNow_0 rfl rfl
  exact iteK2 (kb_fX11_near_0b45  h_s38) (kb_fX11_near_0b53  h_s38)
theorem kb_fX11_near_0b33  {σ : ST} (h_σ : KCU σ) : KCP (fX11_near_0b33 σ) := by
  unfold fX11_near_0b33
  refine bdK2 fun v33 _ => ?_
  exact h_σ
theorem kb_fX11_near_0b33a  {σ : ST} (h_σ : KCU σ) : KCP (fX11_near_0b33a σ) := by
  unfold fX11_near_0b33a
  refine bdK2 fun v33 _ => ?_
  exact h_σ
theorem kb_fX11_near_0b26  {l1 : Int32} {σ : ST} (h_σ : KCU σ) : KCP (fX11_near_0b26 l1 σ) := by
  unfold fX11_near_0b26
  refine bdK2 fun v29 _ => ?_
  refine bdK2 fun v30 _ => ?_
  refine iteK2 (kb_fX11_near_0b33  h_σ) ?_
  exact kb_fX11_near_0b33a  h_σ
theorem kb_fX11_near_0b21  {l1 : Int32} {σ : ST} (h_σ : KCU σ) : KCP (fX11_near_0b21 l1 σ) := by
  unfold fX11_near_0b21
  exact iteK2 (kb_fX11_near_0b37  h_σ) (kb_fX11_near_0b26  h_σ)
theorem kb_fX11_near_0b18  {σ : ST} (h_σ : KCU σ) : KCP (fX11_near_0b18 σ) := by
  unfold fX11_near_0b18
  exact h_σ
theorem kb_fX11_near_0b11  {l1 : Int32} {σ : ST} (h_σ : KCU σ) : KCP (fX11_near_0b11 l1 σ) := by
  unfold fX11_near_0b11
  refine bpK2 fun v12 s12 e_s12 => ?_
  have h_s12 : KCU s12 := by rw [← e_s12]; exact kc_fX11_heapNow_0 h_σ
  exact iteK2 (kb_fX11_near_0b18  h_s12) (kb_fX11_near_0b21  h_s12)
theorem kb_fX11_near_0b9  {σ : ST} (h_σ : KCU σ) : KCP (fX11_near_0b9 σ) := by
  unfold fX11_near_0b9
  exact h_σ
theorem kb_fX11_near_0b0  {l1 : Int32} {σ : ST} (h_σ : KCU σ) : KCP (fX11_near_0b0 l1 σ) := by
  unfold fX11_near_0b0
  refine bdK2 fun v3 _ => ?_
  exact iteK2 (kb_fX11_near_0b9  h_σ) (kb_fX11_near_0b11  h_σ)
theorem kc_fX11_near_0 {p1 : Int32} {σ : ST} (h : KCU σ) : KCU (fX11_near_0 p1 σ).2 := kb_fX11_near_0b0 h
theorem kb_fX11_sure_0b21  {σ : ST} (h_σ : KCU σ) : KCP (fX11_sure_0b21 σ) := by
  unfold fX11_sure_0b21
  exact h_σ
theorem kb_fX11_sure_0b33  {l1 : Int32} {l2 : Int32} {σ : ST} (h_σ : KCU σ) : KCP (fX11_sure_0b33 l1 l2 σ) := by
  unfold fX11_sure_0b33
  refine bdK2 fun s34 e_s34 => ?_
  have h_s34 : KCU s34 := by rw [e_s34]; exact h_σ.fr fr_fX11_nearNow_0 rfl rfl
  refine bdK2 fun v43 _ => ?_
  exact h_s34
theorem kb_fX11_sure_0b30  {σ : ST} (h_σ : KCU σ) : KCP (fX11_sure_0b30 σ) := by
  unfold fX11_sure_0b30
  exact h_σ
theorem kb_fX11_sure_0b23  {l1 : Int32} {l2 : Int32} {σ : ST} (h_σ : KCU σ) : KCP (fX11_sure_0b23 l1 l2 σ) := by
  unfold fX11_sure_0b23
  refine bpK2 fun v24 s24 e_s24 => ?_
  have h_s24 : KCU s24 := by rw [← e_s24]; exact kc_fX11_heapNow_0 h_σ
  exact iteK2 (kb_fX11_sure_0b30  h_s24) (kb_fX11_sure_0b33  h_s24)
theorem kb_fX11_sure_0b16  {l1 : Int32} {l2 : Int32} {σ : ST} (h_σ : KCU σ) : KCP (fX11_sure_0b16 l1 l2 σ) := by
  unfold fX11_sure_0b16
  exact iteK2 (kb_fX11_sure_0b21  h_σ) (kb_fX11_sure_0b23  h_σ)
theorem kb_fX11_sure_0b8  {l1 : Int32} {l2 : Int32} {σ : ST} (h_σ : KCU σ) : KCP (fX11_sure_0b8 l1 l2 σ) := by
  unfold fX11_sure_0b8
  refine bpK2 fun v10 s10 e_s10 => ?_
  have h_s10 : KCU s10 := by rw [← e_s10]; exact kc_fX11_isPiece_0 h_σ
  exact iteK2 (kb_fX11_sure_0b21  h_s10) (kb_fX11_sure_0b16  h_s10)
theorem kb_fX11_sure_0b0  {l1 : Int32} {l2 : Int32} {σ : ST} (h_σ : KCU σ) : KCP (fX11_sure_0b0 l1 l2 σ) := by
  unfold fX11_sure_0b0
  refine bpK2 fun v2 s2 e_s2 => ?_
  have h_s2 : KCU s2 := by rw [← e_s2]; exact kc_fX11_isPiece_0 h_σ
  exact iteK2 (kb_fX11_sure_0b21  h_s2) (kb_fX11_sure_0b8  h_s2)
theorem kc_fX11_sure_0 {p1 : Int32} {p2 : Int32} {σ : ST} (h : KCU σ) : KCU (fX11_sure_0 p1 p2 σ).2 := kb_fX11_sure_0b0 h
theorem kb_fX11_refusedHeap_0b29  {t0 : Int32} {σ : ST} (h_σ : KCU σ) : KCP (fX11_refusedHeap_0b29 t0 σ) := by
  unfold fX11_refusedHeap_0b29
  exact h_σ
theorem kb_fX11_refusedHeap_0b28  {σ : ST} (h_σ : KCU σ) : KCP (fX11_refusedHeap_0b28 σ) := by
  unfold fX11_refusedHeap_0b28
  exact kb_fX11_refusedHeap_0b29  h_σ
theorem kb_fX11_refusedHeap_0b24  {σ : ST} (h_σ : KCU σ) : KCP (fX11_refusedHeap_0b24 σ) := by
  unfold fX11_refusedHeap_0b24
  exact kb_fX11_refusedHeap_0b29  h_σ
theorem kb_fX11_refusedHeap_0b10  {l1 : Int32} {σ : ST} (h_σ : KCU σ) : KCP (fX11_refusedHeap_0b10 l1 σ) := by
  unfold fX11_refusedHeap_0b10
  refine bdK2 fun v18 _ => ?_
  exact iteK2 (kb_fX11_refusedHeap_0b28  h_σ) (kb_fX11_refusedHeap_0b24  h_σ)
theorem kb_fX11_refusedHeap_0b7  {σ : ST} (h_σ : KCU σ) : KCP (fX11_refusedHeap_0b7 σ) := by
  unfold fX11_refusedHeap_0b7
  exact h_σ
theorem kb_fX11_refusedHeap_0b0  {l1 : Int32} {σ : ST} (h_σ : KCU σ) : KCP (fX11_refusedHeap_0b0 l1 σ) := by
  unfold fX11_refusedHeap_0b0
  refine bpK2 fun v1 s1 e_s1 => ?_
  have h_s1 : KCU s1 := by rw [← e_s1]; exact kc_fX11_heapNow_0 h_σ
  exact iteK2 (kb_fX11_refusedHeap_0b7  h_s1) (kb_fX11_refusedHeap_0b10  h_s1)
theorem kc_fX11_refusedHeap_0 {p1 : Int32} {σ : ST} (h : KCU σ) : KCU (fX11_refusedHeap_0 p1 σ).2 := kb_fX11_refusedHeap_0b0 h
theorem kb_fX11_middle_0b16  {σ : ST} (h_σ : KCU σ) : KCP (fX11_middle_0b16 σ) := by
  unfold fX11_middle_0b16
  exact h_σ
theorem kb_fX11_middle_0b44  {t0 : Int32} {σ : ST} (h_σ : KCU σ) : KCP (fX11_middle_0b44 t0 σ) := by
  unfold fX11_middle_0b44
  exact h_σ
theorem kb_fX11_middle_0b32  {l1 : Int32} {l2 : Int32} {σ : ST} (h_σ : KCU σ) : KCP (fX11_middle_0b32 l1 l2 σ) := by
  unfold fX11_middle_0b32
  refine bdK2 fun v41 _ => ?_
  exact kb_fX11_middle_0b44  h_σ
theorem kb_fX11_middle_0b28  {l3 : Int32} {σ : ST} (h_σ : KCU σ) : KCP (fX11_middle_0b28 l3 σ) := by
  unfold fX11_middle_0b28
  exact kb_fX11_middle_0b44  h_σ
theorem kb_fX11_middle_0b18  {l1 : Int32} {l2 : Int32} {σ : ST} (h_σ : KCU σ) : KCP (fX11_middle_0b18 l1 l2 σ) := by
  unfold fX11_middle_0b18
  refine bpK2 fun v20 s20 e_s20 => ?_
  have h_s20 : KCU s20 := by rw [← e_s20]; exact kc_fX11_refusedHeap_0 h_σ
  exact iteK2 (kb_fX11_middle_0b32  h_s20) (kb_fX11_middle_0b28  h_s20)
theorem kb_fX11_middle_0b7  {l1 : Int32} {l2 : Int32} {σ : ST} (h_σ : KCU σ) : KCP (fX11_middle_0b7 l1 l2 σ) := by
  unfold fX11_middle_0b7
  refine bdK2 fun v10 _ => ?_
  exact iteK2 (kb_fX11_middle_0b16  h_σ) (kb_fX11_middle_0b18  h_σ)
theorem kb_fX11_middle_0b0  {l1 : Int32} {l2 : Int32} {σ : ST} (h_σ : KCU σ) : KCP (fX11_middle_0b0 l1 l2 σ) := by
  unfold fX11_middle_0b0
  refine bdK2 fun v1 _ => ?_
  exact iteK2 (kb_fX11_middle_0b16  h_σ) (kb_fX11_middle_0b7  h_σ)
theorem kc_fX11_middle_0 {p1 : Int32} {p2 : Int32} {σ : ST} (h : KCU σ) : KCU (fX11_middle_0 p1 p2 σ).2 := kb_fX11_middle_0b0 h
theorem kb_fX11_twice_0b17  {σ : ST} (h_σ : KCU σ) : KCP (fX11_twice_0b17 σ) := by
  unfold fX11_twice_0b17
  exact h_σ
theorem kb_fX11_twice_0b77  {t0 : Int32} {σ : ST} (h_σ : KCU σ) : KCP (fX11_twice_0b77 t0 σ) := by
  unfold fX11_twice_0b77
  exact h_σ
theorem kb_fX11_twice_0b73  {l3 : Int32} {σ : ST} (h_σ : KCU σ) : KCP (fX11_twice_0b73 l3 σ) := by
  unfold fX11_twice_0b73
  refine bdK2 fun v76 _ => ?_
  exact kb_fX11_twice_0b77  h_σ
theorem kb_fX11_twice_0b66  {l3 : Int32} {σ : ST} (h_σ : KCU σ) : KCP (fX11_twice_0b66 l3 σ) := by
  unfold fX11_twice_0b66
  refine bdK2 fun v69 _ => ?_
  exact kb_fX11_twice_0b77  h_σ
theorem kb_fX11_twice_0b62  {l2 : Int32} {l3 : Int32} {σ : ST} (h_σ : KCU σ) : KCP (fX11_twice_0b62 l2 l3 σ) := by
  unfold fX11_twice_0b62
  exact iteK2 (kb_fX11_twice_0b66  h_σ) (kb_fX11_twice_0b73  h_σ)
theorem kb_fX11_twice_0b59  {σ : ST} (h_σ : KCU σ) : KCP (fX11_twice_0b59 σ) := by
  unfold fX11_twice_0b59
  exact h_σ
theorem kb_fX11_twice_0b29  {l1 : Int32} {l2 : Int32} {σ : ST} (h_σ : KCU σ) : KCP (fX11_twice_0b29 l1 l2 σ) := by
  unfold fX11_twice_0b29
  refine bdK2 fun v46 _ => ?_
  refine bdK2 fun v49 _ => ?_
  exact iteK2 (kb_fX11_twice_0b59  h_σ) (kb_fX11_twice_0b62  h_σ)
theorem kb_fX11_twice_0b26  {σ : ST} (h_σ : KCU σ) : KCP (fX11_twice_0b26 σ) := by
  unfold fX11_twice_0b26
  exact h_σ
theorem kb_fX11_twice_0b19  {l1 : Int32} {l2 : Int32} {σ : ST} (h_σ : KCU σ) : KCP (fX11_twice_0b19 l1 l2 σ) := by
  unfold fX11_twice_0b19
  refine bpK2 fun v20 s20 e_s20 => ?_
  have h_s20 : KCU s20 := by rw [← e_s20]; exact kc_fX11_heapNow_0 h_σ
  exact iteK2 (kb_fX11_twice_0b26  h_s20) (kb_fX11_twice_0b29  h_s20)
theorem kb_fX11_twice_0b8  {l1 : Int32} {l2 : Int32} {σ : ST} (h_σ : KCU σ) : KCP (fX11_twice_0b8 l1 l2 σ) := by
  unfold fX11_twice_0b8
  refine bdK2 fun v11 _ => ?_
  exact iteK2 (kb_fX11_twice_0b17  h_σ) (kb_fX11_twice_0b19  h_σ)
theorem kb_fX11_twice_0b0  {l1 : Int32} {l2 : Int32} {σ : ST} (h_σ : KCU σ) : KCP (fX11_twice_0b0 l1 l2 σ) := by
  unfold fX11_twice_0b0
  refine bpK2 fun v2 s2 e_s2 => ?_
  have h_s2 : KCU s2 := by rw [← e_s2]; exact kc_fX11_isPiece_0 h_σ
  exact iteK2 (kb_fX11_twice_0b17  h_s2) (kb_fX11_twice_0b8  h_s2)
theorem kc_fX11_twice_0 {p1 : Int32} {p2 : Int32} {σ : ST} (h : KCU σ) : KCU (fX11_twice_0 p1 p2 σ).2 := kb_fX11_twice_0b0 h
theorem kb_fX11_keep_0b17  {σ : ST} (h_σ : KCU σ) : KCP (fX11_keep_0b17 σ) := by
  unfold fX11_keep_0b17
  exact h_σ
theorem kb_fX11_keep_0b31  {l1 : Int32} {l2 : Int32} {σ : ST} (h_σ : KCU σ) : KCP (fX11_keep_0b31 l1 l2 σ) := by
  unfold fX11_keep_0b31
  refine bpK2 fun v44 s44 e_s44 => ?_
  have h_s44 : KCU s44 := by rw [← e_s44]; exact h_σ.fr fr_fX5_add_0 rfl rfl
  exact h_s44
theorem kb_fX11_keep_0b29  {l3 : Int32} {σ : ST} (h_σ : KCU σ) : KCP (fX11_keep_0b29 l3 σ) := by
  unfold fX11_keep_0b29
  exact h_σ
theorem kb_fX11_keep_0b19  {l1 : Int32} {l2 : Int32} {σ : ST} (h_σ : KCU σ) : KCP (fX11_keep_0b19 l1 l2 σ) := by
  unfold fX11_keep_0b19
  refine bpK2 fun v21 s21 e_s21 => ?_
  have h_s21 : KCU s21 := by rw [← e_s21]; exact kc_fX11_refusedHeap_0 h_σ
  exact iteK2 (kb_fX11_keep_0b31  h_s21) (kb_fX11_keep_0b29  h_s21)
theorem kb_fX11_keep_0b7  {l1 : Int32} {l2 : Int32} {σ : ST} (h_σ : KCU σ) : KCP (fX11_keep_0b7 l1 l2 σ) := by
  unfold fX11_keep_0b7
  refine bdK2 fun v11 _ => ?_
  exact iteK2 (kb_fX11_keep_0b17  h_σ) (kb_fX11_keep_0b19  h_σ)
theorem kb_fX11_keep_0b0  {l1 : Int32} {l2 : Int32} {σ : ST} (h_σ : KCU σ) : KCP (fX11_keep_0b0 l1 l2 σ) := by
  unfold fX11_keep_0b0
  refine bdK2 fun v1 _ => ?_
  exact iteK2 (kb_fX11_keep_0b17  h_σ) (kb_fX11_keep_0b7  h_σ)
theorem kc_fX11_keep_0 {p1 : Int32} {p2 : Int32} {σ : ST} (h : KCU σ) : KCU (fX11_keep_0 p1 p2 σ).2 := kb_fX11_keep_0b0 h
theorem kb_fX11_back_0b16  {σ : ST} (h_σ : KCU σ) : KCP (fX11_back_0b16 σ) := by
  unfold fX11_back_0b16
  exact h_σ
theorem kb_fX11_back_0b67  {l4 : Int32} {σ : ST} (h_σ : KCU σ) : KCP (fX11_back_0b67 l4 σ) := by
  unfold fX11_back_0b67
  exact h_σ
theorem kb_fX11_back_0b70  {l4 : Int32} {σ : ST} (h_σ : KCU σ) : KCP (fX11_back_0b70 l4 σ) := by
  unfold fX11_back_0b70
  refine bdK2 fun v79 _ => ?_
  exact h_σ
theorem kb_fX11_back_0b62  {l2 : Int32} {l4 : Int32} {σ : ST} (h_σ : KCU σ) : KCP (fX11_back_0b62 l2 l4 σ) := by
  unfold fX11_back_0b62
  exact iteK2 (kb_fX11_back_0b67  h_σ) (kb_fX11_back_0b70  h_σ)
theorem kb_fX11_back_0b30  {l1 : Int32} {l2 : Int32} {σ : ST} (h_σ : KCU σ) : KCP (fX11_back_0b30 l1 l2 σ) := by
  unfold fX11_back_0b30
  refine bdK2 fun v47 _ => ?_
  refine bdK2 fun v50 _ => ?_
  exact iteK2 (kb_fX11_back_0b67  h_σ) (kb_fX11_back_0b62  h_σ)
theorem kb_fX11_back_0b28  {l3 : Int32} {σ : ST} (h_σ : KCU σ) : KCP (fX11_back_0b28 l3 σ) := by
  unfold fX11_back_0b28
  exact h_σ
theorem kb_fX11_back_0b18  {l1 : Int32} {l2 : Int32} {σ : ST} (h_σ : KCU σ) : KCP (fX11_back_0b18 l1 l2 σ) := by
  unfold fX11_back_0b18
  refine bpK2 fun v20 s20 e_s20 => ?_
  have h_s20 : KCU s20 := by rw [← e_s20]; exact kc_fX11_refusedHeap_0 h_σ
  exact iteK2 (kb_fX11_back_0b30  h_s20) (kb_fX11_back_0b28  h_s20)
theorem kb_fX11_back_0b7  {l1 : Int32} {l2 : Int32} {σ : ST} (h_σ : KCU σ) : KCP (fX11_back_0b7 l1 l2 σ) := by
  unfold fX11_back_0b7
  refine bdK2 fun v10 _ => ?_
  exact iteK2 (kb_fX11_back_0b16  h_σ) (kb_fX11_back_0b18  h_σ)
theorem kb_fX11_back_0b0  {l1 : Int32} {l2 : Int32} {σ : ST} (h_σ : KCU σ) : KCP (fX11_back_0b0 l1 l2 σ) := by
  unfold fX11_back_0b0
  refine bdK2 fun v1 _ => ?_
  exact iteK2 (kb_fX11_back_0b16  h_σ) (kb_fX11_back_0b7  h_σ)
theorem kc_fX11_back_0 {p1 : Int32} {p2 : Int32} {σ : ST} (h : KCU σ) : KCU (fX11_back_0 p1 p2 σ).2 := kb_fX11_back_0b0 h
theorem kb_fX11_odds_0b27  {σ : ST} (h_σ : KCU σ) : KCP (fX11_odds_0b27 σ) := by
  unfold fX11_odds_0b27
  exact h_σ
theorem kb_fX11_odds_0b81  {t0 : Int32} {t1 : Int32} {t2 : Int32} {σ : ST} (h_σ : KCU σ) : KCP (fX11_odds_0b81 t0 t1 t2 σ) := by
  unfold fX11_odds_0b81
  refine bpK2 fun v81 s81 e_s81 => ?_
  have h_s81 : KCU s81 := by rw [← e_s81]; exact h_σ.fr fr_fX5_dealsOf_0 rfl rfl
  exact h_s81
theorem kb_fX11_odds_0b80  {t0 : Int32} {t1 : Int32} {σ : ST} (h_σ : KCU σ) : KCP (fX11_odds_0b80 t0 t1 σ) := by
  unfold fX11_odds_0b80
  exact kb_fX11_odds_0b81  h_σ
theorem kb_fX11_odds_0b76  {t0 : Int32} {t1 : Int32} {σ : ST} (h_σ : KCU σ) : KCP (fX11_odds_0b76 t0 t1 σ) := by
  unfold fX11_odds_0b76
  exact kb_fX11_odds_0b81  h_σ
theorem kb_fX11_odds_0b44  {l1 : Int32} {l2 : Int32} {l3 : Int32} {σ : ST} (h_σ : KCU σ) : KCP (fX11_odds_0b44 l1 l2 l3 σ) := by
  unfold fX11_odds_0b44
  refine bdK2 fun v64 _ => ?_
  refine bdK2 fun v67 _ => ?_
  exact iteK2 (kb_fX11_odds_0b76  h_σ) (kb_fX11_odds_0b80  h_σ)
theorem kb_fX11_odds_0b41  {l4 : Int32} {σ : ST} (h_σ : KCU σ) : KCP (fX11_odds_0b41 l4 σ) := by
  unfold fX11_odds_0b41
  exact h_σ
theorem kb_fX11_odds_0b29  {l1 : Int32} {l2 : Int32} {l3 : Int32} {σ : ST} (h_σ : KCU σ) : KCP (fX11_odds_0b29 l1 l2 l3 σ) := by
  unfold fX11_odds_0b29
  refine bpK2 fun v31 s31 e_s31 => ?_
  have h_s31 : KCU s31 := by rw [← e_s31]; exact kc_fX11_refusedHeap_0 h_σ
  exact iteK2 (kb_fX11_odds_0b44  h_s31) (kb_fX11_odds_0b41  h_s31)
theorem kb_fX11_odds_0b18  {l1 : Int32} {l2 : Int32} {l3 : Int32} {σ : ST} (h_σ : KCU σ) : KCP (fX11_odds_0b18 l1 l2 l3 σ) := by
  unfold fX11_odds_0b18
  refine bdK2 fun v21 _ => ?_
  exact iteK2 (kb_fX11_odds_0b27  h_σ) (kb_fX11_odds_0b29  h_σ)
theorem kb_fX11_odds_0b7  {l1 : Int32} {l2 : Int32} {l3 : Int32} {σ : ST} (h_σ : KCU σ) : KCP (fX11_odds_0b7 l1 l2 l3 σ) := by
  unfold fX11_odds_0b7
  refine bdK2 fun v12 _ => ?_
  exact iteK2 (kb_fX11_odds_0b27  h_σ) (kb_fX11_odds_0b18  h_σ)
theorem kb_fX11_odds_0b0  {l1 : Int32} {l2 : Int32} {l3 : Int32} {σ : ST} (h_σ : KCU σ) : KCP (fX11_odds_0b0 l1 l2 l3 σ) := by
  unfold fX11_odds_0b0
  refine bdK2 fun v1 _ => ?_
  exact iteK2 (kb_fX11_odds_0b27  h_σ) (kb_fX11_odds_0b7  h_σ)
theorem kc_fX11_odds_0 {p1 : Int32} {p2 : Int32} {p3 : Int32} {σ : ST} (h : KCU σ) : KCU (fX11_odds_0 p1 p2 p3 σ).2 := kb_fX11_odds_0b0 h
theorem kb_fX11_show_0b40  {σ : ST} (h_σ : KCU σ) : KCP (fX11_show_0b40 σ) := by
  unfold fX11_show_0b40
  refine bdK2 fun v45 _ => ?_
  refine bdK2 fun s48 e_s48 => ?_
  have h_s48 : KCU s48 := by rw [e_s48]; exact h_σ.putI rfl
  refine bdK2 fun v52 _ => ?_
  exact h_s48
theorem kb_fX11_show_0b23 {K12 : Int32 → ST → (Int32 × ST)} (hK12 : ∀ (q0 : Int32) (τ : ST), KCU τ → KCP (K12 q0 τ)) {l1 : Int32} {σ : ST} (h_σ : KCU σ) : KCP (fX11_show_0b23 K12 l1 σ) := by
  unfold fX11_show_0b23
  refine bdK2 fun v30 _ => ?_
  refine bdK2 fun s33 e_s33 => ?_
  have h_s33 : KCU s33 := by rw [e_s33]; exact h_σ.putA rfl
  refine bdK2 fun v34 _ => ?_
  exact hK12 _ _ h_s33
theorem kb_fX11_show_0b12 {K12 : Int32 → ST → (Int32 × ST)} (hK12 : ∀ (q0 : Int32) (τ : ST), KCU τ → KCP (K12 q0 τ)) {l1 : Int32} {σ : ST} (h_σ : KCU σ) : KCP (fX11_show_0b12 K12 l1 σ) := by
  unfold fX11_show_0b12
  refine bdK2 fun v17 _ => ?_
  exact iteK2 (kb_fX11_show_0b40  h_σ) (kb_fX11_show_0b23 hK12 h_σ)
theorem kb_fX11_show_0l12  : ∀ (fu : Nat) {q0 : Int32} {τ : ST} (h : KCU τ), KCP (fX11_show_0l12 fu q0 τ)
  | 0, _, _, h => h
  | fu + 1, _, _, h => kb_fX11_show_0b12 (fun _ _ q => kb_fX11_show_0l12  fu q) h
theorem kb_fX11_show_0b10  {σ : ST} (h_σ : KCU σ) : KCP (fX11_show_0b10 σ) := by
  unfold fX11_show_0b10
  exact kb_fX11_show_0l12  _ h_σ
theorem kb_fX11_show_0b7  {σ : ST} (h_σ : KCU σ) : KCP (fX11_show_0b7 σ) := by
  unfold fX11_show_0b7
  exact h_σ
theorem kb_fX11_show_0b0  {σ : ST} (h_σ : KCU σ) : KCP (fX11_show_0b0 σ) := by
  unfold fX11_show_0b0
  refine bpK2 fun v1 s1 e_s1 => ?_
  have h_s1 : KCU s1 := by rw [← e_s1]; exact kc_fX11_heapNow_0 h_σ
  exact iteK2 (kb_fX11_show_0b7  h_s1) (kb_fX11_show_0b10  h_s1)
theorem kc_fX11_show_0 {σ : ST} (h : KCU σ) : KCU (fX11_show_0 σ).2 := kb_fX11_show_0b0 h
theorem kb_fX11_otherwise_0b15  {σ : ST} (h_σ : KCU σ) : KCP (fX11_otherwise_0b15 σ) := by
  unfold fX11_otherwise_0b15
  exact h_σ
theorem kb_fX11_otherwise_0b64  {l1 : Int32} {σ : ST} (h_σ : KCU σ) : KCP (fX11_otherwise_0b64 l1 σ) := by
  unfold fX11_otherwise_0b64
  exact h_σ
theorem kb_fX11_otherwise_0b58 {K22 : Int32 → Int32 → ST → (Int32 × ST)} (hK22 : ∀ (q0 : Int32) (q1 : Int32) (τ : ST), KCU τ → KCP (K22 q0 q1 τ)) {l1 : Int32} {l2 : Int32} {σ : ST} (h_σ : KCU σ) : KCP (fX11_otherwise_0b58 K22 l1 l2 σ) := by
  unfold fX11_otherwise_0b58
  refine bdK2 fun v58 _ => ?_
  exact hK22 _ _ _ h_σ
theorem kb_fX11_otherwise_0b55 {K22 : Int32 → Int32 → ST → (Int32 × ST)} (hK22 : ∀ (q0 : Int32) (q1 : Int32) (τ : ST), KCU τ → KCP (K22 q0 q1 τ)) {l1 : Int32} {l2 : Int32} {σ : ST} (h_σ : KCU σ) : KCP (fX11_otherwise_0b55 K22 l1 l2 σ) := by
  unfold fX11_otherwise_0b55
  refine bdK2 fun v55 _ => ?_
  exact kb_fX11_otherwise_0b58 hK22 h_σ
theorem kb_fX11_otherwise_0b41 {K22 : Int32 → Int32 → ST → (Int32 × ST)} (hK22 : ∀ (q0 : Int32) (q1 : Int32) (τ : ST), KCU τ → KCP (K22 q0 q1 τ)) {l1 : Int32} {l2 : Int32} {σ : ST} (h_σ : KCU σ) : KCP (fX11_otherwise_0b41 K22 l1 l2 σ) := by
  unfold fX11_otherwise_0b41
  refine bdK2 fun v43 _ => ?_
  refine bdK2 fun v51 _ => ?_
  exact iteK2 (kb_fX11_otherwise_0b58 hK22 h_σ) (kb_fX11_otherwise_0b55 hK22 h_σ)
theorem kb_fX11_otherwise_0b30 {K22 : Int32 → Int32 → ST → (Int32 × ST)} (hK22 : ∀ (q0 : Int32) (q1 : Int32) (τ : ST), KCU τ → KCP (K22 q0 q1 τ)) {l1 : Int32} {l2 : Int32} {σ : ST} (h_σ : KCU σ) : KCP (fX11_otherwise_0b30 K22 l1 l2 σ) := by
  unfold fX11_otherwise_0b30
  refine bdK2 fun v35 _ => ?_
  exact iteK2 (kb_fX11_otherwise_0b64  h_σ) (kb_fX11_otherwise_0b41 hK22 h_σ)
theorem kb_fX11_otherwise_0b22 {K22 : Int32 → Int32 → ST → (Int32 × ST)} (hK22 : ∀ (q0 : Int32) (q1 : Int32) (τ : ST), KCU τ → KCP (K22 q0 q1 τ)) {l1 : Int32} {l2 : Int32} {σ : ST} (h_σ : KCU σ) : KCP (fX11_otherwise_0b22 K22 l1 l2 σ) := by
  unfold fX11_otherwise_0b22
  refine bdK2 fun v24 _ => ?_
  exact iteK2 (kb_fX11_otherwise_0b64  h_σ) (kb_fX11_otherwise_0b30 hK22 h_σ)
theorem kb_fX11_otherwise_0l22  : ∀ (fu : Nat) {q0 : Int32} {q1 : Int32} {τ : ST} (h : KCU τ), KCP (fX11_otherwise_0l22 fu q0 q1 τ)
  | 0, _, _, _, h => h
  | fu + 1, _, _, _, h => kb_fX11_otherwise_0b22 (fun _ _ _ q => kb_fX11_otherwise_0l22  fu q) h
theorem kb_fX11_otherwise_0b18  {σ : ST} (h_σ : KCU σ) : KCP (fX11_otherwise_0b18 σ) := by
  unfold fX11_otherwise_0b18
  exact kb_fX11_otherwise_0l22  _ h_σ
theorem kb_fX11_otherwise_0b8  {σ : ST} (h_σ : KCU σ) : KCP (fX11_otherwise_0b8 σ) := by
  unfold fX11_otherwise_0b8
  refine bpK2 fun v9 s9 e_s9 => ?_
  have h_s9 : KCU s9 := by rw [← e_s9]; exact kc_fX11_heapNow_0 h_σ
  exact iteK2 (kb_fX11_otherwise_0b15  h_s9) (kb_fX11_otherwise_0b18  h_s9)
theorem kb_fX11_otherwise_0b0  {σ : ST} (h_σ : KCU σ) : KCP (fX11_otherwise_0b0 σ) := by
  unfold fX11_otherwise_0b0
  refine bdK2 fun v1 _ => ?_
  exact iteK2 (kb_fX11_otherwise_0b15  h_σ) (kb_fX11_otherwise_0b8  h_σ)
theorem kc_fX11_otherwise_0 {σ : ST} (h : KCU σ) : KCU (fX11_otherwise_0 σ).2 := kb_fX11_otherwise_0b0 h
theorem kb_fX11_hung_0b26  {σ : ST} (h_σ : KCU σ) : KCP (fX11_hung_0b26 σ) := by
  unfold fX11_hung_0b26
  exact h_σ
theorem kb_fX11_hung_0b63  {t0 : Int32} {σ : ST} (h_σ : KCU σ) : KCP (fX11_hung_0b63 t0 σ) := by
  unfold fX11_hung_0b63
  exact h_σ
theorem kb_fX11_hung_0b51  {l1 : Int32} {σ : ST} (h_σ : KCU σ) : KCP (fX11_hung_0b51 l1 σ) := by
  unfold fX11_hung_0b51
  refine bdK2 fun v60 _ => ?_
  exact kb_fX11_hung_0b63  h_σ
theorem kb_fX11_hung_0b36  {l1 : Int32} {σ : ST} (h_σ : KCU σ) : KCP (fX11_hung_0b36 l1 σ) := by
  unfold fX11_hung_0b36
  refine bdK2 fun v45 _ => ?_
  exact kb_fX11_hung_0b63  h_σ
theorem kb_fX11_hung_0b28  {l1 : Int32} {l2 : Int32} {σ : ST} (h_σ : KCU σ) : KCP (fX11_hung_0b28 l1 l2 σ) := by
  unfold fX11_hung_0b28
  refine bdK2 fun s29 e_s29 => ?_
  have h_s29 : KCU s29 := by rw [e_s29]; exact kc_fX11_cutNow_0 h_σ
  exact iteK2 (kb_fX11_hung_0b36  h_s29) (kb_fX11_hung_0b51  h_s29)
theorem kb_fX11_hung_0b17  {l1 : Int32} {l2 : Int32} {σ : ST} (h_σ : KCU σ) : KCP (fX11_hung_0b17 l1 l2 σ) := by
  unfold fX11_hung_0b17
  refine bdK2 fun v20 _ => ?_
  exact iteK2 (kb_fX11_hung_0b26  h_σ) (kb_fX11_hung_0b28  h_σ)
theorem kb_fX11_hung_0b0  {l1 : Int32} {l2 : Int32} {σ : ST} (h_σ : KCU σ) : KCP (fX11_hung_0b0 l1 l2 σ) := by
  unfold fX11_hung_0b0
  refine bdK2 fun v6 _ => ?_
  refine bdK2 fun v10 _ => ?_
  refine bdK2 fun v11 _ => ?_
  exact iteK2 (kb_fX11_hung_0b26  h_σ) (kb_fX11_hung_0b17  h_σ)
theorem kc_fX11_hung_0 {p1 : Int32} {p2 : Int32} {σ : ST} (h : KCU σ) : KCU (fX11_hung_0 p1 p2 σ).2 := kb_fX11_hung_0b0 h
theorem kb_fX9_countTogether_0b113  {l4 : Int32} {σ : ST} (h_σ : KCU σ) : KCP (fX9_countTogether_0b113 l4 σ) := by
  unfold fX9_countTogether_0b113
  exact h_σ
theorem kb_fX9_countTogether_0b107 {K33 : Int32 → Int32 → ST → (Int32 × ST)} (hK33 : ∀ (q0 : Int32) (q1 : Int32) (τ : ST), KCU τ → KCP (K33 q0 q1 τ)) {l4 : Int32} {l5 : Int32} {σ : ST} (h_σ : KCU σ) : KCP (fX9_countTogether_0b107 K33 l4 l5 σ) := by
  unfold fX9_countTogether_0b107
  refine bdK2 fun v107 _ => ?_
  exact hK33 _ _ _ h_σ
theorem kb_fX9_countTogether_0b85 {K33 : Int32 → Int32 → ST → (Int32 × ST)} (hK33 : ∀ (q0 : Int32) (q1 : Int32) (τ : ST), KCU τ → KCP (K33 q0 q1 τ)) {l4 : Int32} {l5 : Int32} {l6 : Int32} {l7 : Int32} {σ : ST} (h_σ : KCU σ) : KCP (fX9_countTogether_0b85 K33 l4 l5 l6 l7 σ) := by
  unfold fX9_countTogether_0b85
  refine bdK2 fun v95 _ => ?_
  refine bdK2 fun v96 _ => ?_
  refine bdK2 fun v100 _ => ?_
  refine bdK2 fun v102 _ => ?_
  refine bdK2 fun s103 e_s103 => ?_
  have h_s103 : KCU s103 := by rw [e_s103]; exact h_σ.putG (by omega)
  refine bdK2 fun v104 _ => ?_
  exact kb_fX9_countTogether_0b107 hK33 h_s103
theorem kb_fX9_countTogether_0b79 {K33 : Int32 → Int32 → ST → (Int32 × ST)} (hK33 : ∀ (q0 : Int32) (q1 : Int32) (τ : ST), KCU τ → KCP (K33 q0 q1 τ)) {l4 : Int32} {l5 : Int32} {l6 : Int32} {l7 : Int32} {σ : ST} (h_σ : KCU σ) : KCP (fX9_countTogether_0b79 K33 l4 l5 l6 l7 σ) := by
  unfold fX9_countTogether_0b79
  exact iteK2 (kb_fX9_countTogether_0b107 hK33 h_σ) (kb_fX9_countTogether_0b85 hK33 h_σ)
theorem kb_fX9_countTogether_0b74 {K33 : Int32 → Int32 → ST → (Int32 × ST)} (hK33 : ∀ (q0 : Int32) (q1 : Int32) (τ : ST), KCU τ → KCP (K33 q0 q1 τ)) {l4 : Int32} {l5 : Int32} {l6 : Int32} {l7 : Int32} {σ : ST} (h_σ : KCU σ) : KCP (fX9_countTogether_0b74 K33 l4 l5 l6 l7 σ) := by
  unfold fX9_countTogether_0b74
  exact iteK2 (kb_fX9_countTogether_0b107 hK33 h_σ) (kb_fX9_countTogether_0b79 hK33 h_σ)
theorem kb_fX9_countTogether_0b67 {K33 : Int32 → Int32 → ST → (Int32 × ST)} (hK33 : ∀ (q0 : Int32) (q1 : Int32) (τ : ST), KCU τ → KCP (K33 q0 q1 τ)) {l4 : Int32} {l5 : Int32} {l6 : Int32} {l7 : Int32} {σ : ST} (h_σ : KCU σ) : KCP (fX9_countTogether_0b67 K33 l4 l5 l6 l7 σ) := by
  unfold fX9_countTogether_0b67
  exact iteK2 (kb_fX9_countTogether_0b107 hK33 h_σ) (kb_fX9_countTogether_0b74 hK33 h_σ)
theorem kb_fX9_countTogether_0b42 {K33 : Int32 → Int32 → ST → (Int32 × ST)} (hK33 : ∀ (q0 : Int32) (q1 : Int32) (τ : ST), KCU τ → KCP (K33 q0 q1 τ)) {l4 : Int32} {l5 : Int32} {σ : ST} (h_σ : KCU σ) : KCP (fX9_countTogether_0b42 K33 l4 l5 σ) := by
  unfold fX9_countTogether_0b42
  refine bdK2 fun v48 _ => ?_
  refine bdK2 fun v57 _ => ?_
  refine bdK2 fun v59 _ => ?_
  exact iteK2 (kb_fX9_countTogether_0b107 hK33 h_σ) (kb_fX9_countTogether_0b67 hK33 h_σ)
theorem kb_fX9_countTogether_0b33 {K33 : Int32 → Int32 → ST → (Int32 × ST)} (hK33 : ∀ (q0 : Int32) (q1 : Int32) (τ : ST), KCU τ → KCP (K33 q0 q1 τ)) {l4 : Int32} {l5 : Int32} {σ : ST} (h_σ : KCU σ) : KCP (fX9_countTogether_0b33 K33 l4 l5 σ) := by
  unfold fX9_countTogether_0b33
  refine bdK2 fun v36 _ => ?_
  exact iteK2 (kb_fX9_countTogether_0b113  h_σ) (kb_fX9_countTogether_0b42 hK33 h_σ)
theorem kb_fX9_countTogether_0l33  : ∀ (fu : Nat) {q0 : Int32} {q1 : Int32} {τ : ST} (h : KCU τ), KCP (fX9_countTogether_0l33 fu q0 q1 τ)
  | 0, _, _, _, h => h
  | fu + 1, _, _, _, h => kb_fX9_countTogether_0b33 (fun _ _ _ q => kb_fX9_countTogether_0l33  fu q) h
theorem kb_fX9_countTogether_0b27  {σ : ST} (h_σ : KCU σ) : KCP (fX9_countTogether_0b27 σ) := by
  unfold fX9_countTogether_0b27
  exact kb_fX9_countTogether_0l33  _ h_σ
theorem kb_fX9_countTogether_0b10 {K3 : Int32 → ST → (Int32 × ST)} (hK3 : ∀ (q0 : Int32) (τ : ST), KCU τ → KCP (K3 q0 τ)) {l4 : Int32} {σ : ST} (h_σ : KCU σ) : KCP (fX9_countTogether_0b10 K3 l4 σ) := by
  unfold fX9_countTogether_0b10
  refine bdK2 fun v16 _ => ?_
  refine bdK2 fun s18 e_s18 => ?_
  have h_s18 : KCU s18 := by rw [e_s18]; exact h_σ.putG (by omega)
  refine bdK2 fun v21 _ => ?_
  exact hK3 _ _ h_s18
theorem kb_fX9_countTogether_0b3 {K3 : Int32 → ST → (Int32 × ST)} (hK3 : ∀ (q0 : Int32) (τ : ST), KCU τ → KCP (K3 q0 τ)) {l4 : Int32} {σ : ST} (h_σ : KCU σ) : KCP (fX9_countTogether_0b3 K3 l4 σ) := by
  unfold fX9_countTogether_0b3
  exact iteK2 (kb_fX9_countTogether_0b27  h_σ) (kb_fX9_countTogether_0b10 hK3 h_σ)
theorem kb_fX9_countTogether_0l3  : ∀ (fu : Nat) {q0 : Int32} {τ : ST} (h : KCU τ), KCP (fX9_countTogether_0l3 fu q0 τ)
  | 0, _, _, h => h
  | fu + 1, _, _, h => kb_fX9_countTogether_0b3 (fun _ _ q => kb_fX9_countTogether_0l3  fu q) h
theorem kb_fX9_countTogether_0b0  {σ : ST} (h_σ : KCU σ) : KCP (fX9_countTogether_0b0 σ) := by
  unfold fX9_countTogether_0b0
  exact kb_fX9_countTogether_0l3  _ h_σ
theorem kc_fX9_countTogether_0 {σ : ST} (h : KCU σ) : KCU (fX9_countTogether_0 σ).2 := kb_fX9_countTogether_0b0 h
theorem kb_fX9_wrong_0b75  {l4 : Int32} {σ : ST} (h_σ : KCU σ) : KCP (fX9_wrong_0b75 l4 σ) := by
  unfold fX9_wrong_0b75
  refine bdK2 fun v87 _ => ?_
  refine bdK2 fun v88 _ => ?_
  refine bdK2 fun v89 _ => ?_
  exact h_σ
theorem kb_fX9_wrong_0b69 {K20 : Int32 → Int32 → ST → (Int32 × ST)} (hK20 : ∀ (q0 : Int32) (q1 : Int32) (τ : ST), KCU τ → KCP (K20 q0 q1 τ)) {l4 : Int32} {l5 : Int32} {σ : ST} (h_σ : KCU σ) : KCP (fX9_wrong_0b69 K20 l4 l5 σ) := by
  unfold fX9_wrong_0b69
  refine bdK2 fun v69 _ => ?_
  exact hK20 _ _ _ h_σ
theorem kb_fX9_wrong_0b50 {K20 : Int32 → Int32 → ST → (Int32 × ST)} (hK20 : ∀ (q0 : Int32) (q1 : Int32) (τ : ST), KCU τ → KCP (K20 q0 q1 τ)) {K45 : Int32 → Int32 → Int32 → ST → (Int32 × ST)} (hK45 : ∀ (q0 : Int32) (q1 : Int32) (q2 : Int32) (τ : ST), KCU τ → KCP (K45 q0 q1 q2 τ)) {l4 : Int32} {l5 : Int32} {l6 : Int32} {σ : ST} (h_σ : KCU σ) : KCP (fX9_wrong_0b50 K20 K45 l4 l5 l6 σ) := by
  unfold fX9_wrong_0b50
  refine bdK2 fun v59 _ => ?_
  refine bdK2 fun s60 e_s60 => ?_
  have h_s60 : KCU s60 := by rw [e_s60]; exact h_σ.fr fr_fX9_giveOne_0 rfl rfl
  refine bdK2 fun v63 _ => ?_
  exact hK45 _ _ _ _ h_s60
theorem kb_fX9_wrong_0b45 {K20 : Int32 → Int32 → ST → (Int32 × ST)} (hK20 : ∀ (q0 : Int32) (q1 : Int32) (τ : ST), KCU τ → KCP (K20 q0 q1 τ)) {K45 : Int32 → Int32 → Int32 → ST → (Int32 × ST)} (hK45 : ∀ (q0 : Int32) (q1 : Int32) (q2 : Int32) (τ : ST), KCU τ → KCP (K45 q0 q1 q2 τ)) {l4 : Int32} {l5 : Int32} {l6 : Int32} {σ : ST} (h_σ : KCU σ) : KCP (fX9_wrong_0b45 K20 K45 l4 l5 l6 σ) := by
  unfold fX9_wrong_0b45
  exact iteK2 (kb_fX9_wrong_0b69 hK20 h_σ) (kb_fX9_wrong_0b50 hK20 hK45 h_σ)
theorem kb_fX9_wrong_0l45 {K20 : Int32 → Int32 → ST → (Int32 × ST)} (hK20 : ∀ (q0 : Int32) (q1 : Int32) (τ : ST), KCU τ → KCP (K20 q0 q1 τ)) : ∀ (fu : Nat) {q0 : Int32} {q1 : Int32} {q2 : Int32} {τ : ST} (h : KCU τ), KCP (fX9_wrong_0l45 K20 fu q0 q1 q2 τ)
  | 0, _, _, _, _, h => h
  | fu + 1, _, _, _, _, h => kb_fX9_wrong_0b45 hK20 (fun _ _ _ _ q => kb_fX9_wrong_0l45 hK20 fu q) h
theorem kb_fX9_wrong_0b36 {K20 : Int32 → Int32 → ST → (Int32 × ST)} (hK20 : ∀ (q0 : Int32) (q1 : Int32) (τ : ST), KCU τ → KCP (K20 q0 q1 τ)) {l4 : Int32} {l5 : Int32} {σ : ST} (h_σ : KCU σ) : KCP (fX9_wrong_0b36 K20 l4 l5 σ) := by
  unfold fX9_wrong_0b36
  refine bdK2 fun v42 _ => ?_
  exact kb_fX9_wrong_0l45 hK20 _ h_σ
theorem kb_fX9_wrong_0b29 {K20 : Int32 → Int32 → ST → (Int32 × ST)} (hK20 : ∀ (q0 : Int32) (q1 : Int32) (τ : ST), KCU τ → KCP (K20 q0 q1 τ)) {l4 : Int32} {l5 : Int32} {σ : ST} (h_σ : KCU σ) : KCP (fX9_wrong_0b29 K20 l4 l5 σ) := by
  unfold fX9_wrong_0b29
  exact iteK2 (kb_fX9_wrong_0b75  h_σ) (kb_fX9_wrong_0b36 hK20 h_σ)
theorem kb_fX9_wrong_0b20 {K20 : Int32 → Int32 → ST → (Int32 × ST)} (hK20 : ∀ (q0 : Int32) (q1 : Int32) (τ : ST), KCU τ → KCP (K20 q0 q1 τ)) {l4 : Int32} {l5 : Int32} {σ : ST} (h_σ : KCU σ) : KCP (fX9_wrong_0b20 K20 l4 l5 σ) := by
  unfold fX9_wrong_0b20
  refine bdK2 fun v23 _ => ?_
  exact iteK2 (kb_fX9_wrong_0b75  h_σ) (kb_fX9_wrong_0b29 hK20 h_σ)
theorem kb_fX9_wrong_0l20  : ∀ (fu : Nat) {q0 : Int32} {q1 : Int32} {τ : ST} (h : KCU τ), KCP (fX9_wrong_0l20 fu q0 q1 τ)
  | 0, _, _, _, h => h
  | fu + 1, _, _, _, h => kb_fX9_wrong_0b20 (fun _ _ _ q => kb_fX9_wrong_0l20  fu q) h
theorem kb_fX9_wrong_0b0  {σ : ST} (h_σ : KCU σ) : KCP (fX9_wrong_0b0 σ) := by
  unfold fX9_wrong_0b0
  refine bpK2 fun v4 s4 e_s4 => ?_
  have h_s4 : KCU s4 := by rw [← e_s4]; exact kc_fX9_countTogether_0 h_σ
  refine bdK2 fun s14 e_s14 => ?_
  have h_s14 : KCU s14 := by rw [e_s14]; exact h_s4.putA rfl
  exact kb_fX9_wrong_0l20  _ h_s14
theorem kc_fX9_wrong_0 {σ : ST} (h : KCU σ) : KCU (fX9_wrong_0 σ).2 := kb_fX9_wrong_0b0 h
theorem kb_fX11_errors_0b90  {t0 : Int32} {σ : ST} (h_σ : KCU σ) : KCP (fX11_errors_0b90 t0 σ) := by
  unfold fX11_errors_0b90
  exact h_σ
theorem kb_fX11_errors_0b88  {σ : ST} (h_σ : KCU σ) : KCP (fX11_errors_0b88 σ) := by
  unfold fX11_errors_0b88
  exact kb_fX11_errors_0b90  h_σ
theorem kb_fX11_errors_0b63  {σ : ST} (h_σ : KCU σ) : KCP (fX11_errors_0b63 σ) := by
  unfold fX11_errors_0b63
  refine bpK2 fun v82 s82 e_s82 => ?_
  have h_s82 : KCU s82 := by rw [← e_s82]; exact kc_fX9_wrong_0 h_σ
  exact kb_fX11_errors_0b90  h_s82
theorem kb_fX11_errors_0b56  {σ : ST} (h_σ : KCU σ) : KCP (fX11_errors_0b56 σ) := by
  unfold fX11_errors_0b56
  refine bpK2 fun v57 s57 e_s57 => ?_
  have h_s57 : KCU s57 := by rw [← e_s57]; exact kc_fX11_heapNow_0 h_σ
  exact iteK2 (kb_fX11_errors_0b88  h_s57) (kb_fX11_errors_0b63  h_s57)
theorem kb_fX11_errors_0b40  {σ : ST} (h_σ : KCU σ) : KCP (fX11_errors_0b40 σ) := by
  unfold fX11_errors_0b40
  refine bdK2 fun v52 _ => ?_
  exact h_σ
theorem kb_fX11_errors_0b35  {l1 : Int32} {σ : ST} (h_σ : KCU σ) : KCP (fX11_errors_0b35 l1 σ) := by
  unfold fX11_errors_0b35
  exact iteK2 (kb_fX11_errors_0b40  h_σ) (kb_fX11_errors_0b56  h_σ)
theorem kb_fX11_errors_0b19  {σ : ST} (h_σ : KCU σ) : KCP (fX11_errors_0b19 σ) := by
  unfold fX11_errors_0b19
  refine bdK2 fun v31 _ => ?_
  exact h_σ
theorem kb_fX11_errors_0b11  {l1 : Int32} {σ : ST} (h_σ : KCU σ) : KCP (fX11_errors_0b11 l1 σ) := by
  unfold fX11_errors_0b11
  refine bdK2 fun s12 e_s12 => ?_
  have h_s12 : KCU s12 := by rw [e_s12]; exact kc_fX11_cutNow_0 h_σ
  exact iteK2 (kb_fX11_errors_0b19  h_s12) (kb_fX11_errors_0b35  h_s12)
theorem kb_fX11_errors_0b9  {σ : ST} (h_σ : KCU σ) : KCP (fX11_errors_0b9 σ) := by
  unfold fX11_errors_0b9
  exact h_σ
theorem kb_fX11_errors_0b0  {l1 : Int32} {σ : ST} (h_σ : KCU σ) : KCP (fX11_errors_0b0 l1 σ) := by
  unfold fX11_errors_0b0
  refine bdK2 fun v3 _ => ?_
  exact iteK2 (kb_fX11_errors_0b9  h_σ) (kb_fX11_errors_0b11  h_σ)
theorem kc_fX11_errors_0 {p1 : Int32} {σ : ST} (h : KCU σ) : KCU (fX11_errors_0 p1 σ).2 := kb_fX11_errors_0b0 h
theorem kb_fX11_weight_0b18  {σ : ST} (h_σ : KCU σ) : KCP (fX11_weight_0b18 σ) := by
  unfold fX11_weight_0b18
  exact h_σ
theorem kb_fX11_weight_0b20  {l1 : Int32} {l2 : Int32} {σ : ST} (h_σ : KCU σ) : KCP (fX11_weight_0b20 l1 l2 σ) := by
  unfold fX11_weight_0b20
  refine bdK2 fun v34 _ => ?_
  refine bpK2 fun v37 s37 e_s37 => ?_
  have h_s37 : KCU s37 := by rw [← e_s37]; exact h_σ.fr fr_fX6_weigh_0 rfl rfl
  exact h_s37
theorem kb_fX11_weight_0b10  {l1 : Int32} {l2 : Int32} {σ : ST} (h_σ : KCU σ) : KCP (fX11_weight_0b10 l1 l2 σ) := by
  unfold fX11_weight_0b10
  refine bpK2 fun v12 s12 e_s12 => ?_
  have h_s12 : KCU s12 := by rw [← e_s12]; exact kc_fX11_isPiece_0 h_σ
  exact iteK2 (kb_fX11_weight_0b18  h_s12) (kb_fX11_weight_0b20  h_s12)
theorem kb_fX11_weight_0b0  {l1 : Int32} {l2 : Int32} {σ : ST} (h_σ : KCU σ) : KCP (fX11_weight_0b0 l1 l2 σ) := by
  unfold fX11_weight_0b0
  refine bdK2 fun v4 _ => ?_
  exact iteK2 (kb_fX11_weight_0b18  h_σ) (kb_fX11_weight_0b10  h_σ)
theorem kc_fX11_weight_0 {p1 : Int32} {p2 : Int32} {σ : ST} (h : KCU σ) : KCU (fX11_weight_0 p1 p2 σ).2 := kb_fX11_weight_0b0 h
