/-! made by wip/gen3/gkeep.py heap -/
def KNP {γ : Type} (x : γ × ST) : Prop := KH x.2
theorem knbd {α : Type} {x : α} {F : α → ST} (h : ∀ y, y = x → KH (F y)) : KH (bd x F) := h x rfl
theorem knbd2 {α γ : Type} {x : α} {F : α → γ × ST} (h : ∀ y, y = x → KNP (F y)) : KNP (bd x F) := h x rfl
theorem knbp {α : Type} {x : α × ST} {F : α → ST → ST} (h : ∀ a b, x.2 = b → KH (F a b)) : KH (bp x F) := h x.1 x.2 rfl
theorem knbp2 {α γ : Type} {x : α × ST} {F : α → ST → γ × ST} (h : ∀ a b, x.2 = b → KNP (F a b)) : KNP (bp x F) := h x.1 x.2 rfl
theorem knite {c : Prop} {i : Decidable c} {x y : ST} (h1 : KH x) (h2 : KH y) : KH (@ite ST c i x y) := by
  cases i with
  | isTrue q => exact h1
  | isFalse q => exact h2
theorem knite2 {γ : Type} {c : Prop} {i : Decidable c} {x y : γ × ST} (h1 : KNP x) (h2 : KNP y) : KNP (@ite (γ × ST) c i x y) := by
  cases i with
  | isTrue q => exact h1
  | isFalse q => exact h2
theorem knb_fX11_pieces_0b36  {σ : ST} (h_σ : KH σ) : KNP (fX11_pieces_0b36 σ) := by
  unfold fX11_pieces_0b36
  refine knbd2 fun v40 _ => ?_
  exact h_σ
theorem knb_fX11_pieces_0b44  {σ : ST} (h_σ : KH σ) : KNP (fX11_pieces_0b44 σ) := by
  unfold fX11_pieces_0b44
  refine knbd2 fun v48 _ => ?_
  exact h_σ
theorem knb_fX11_pieces_0b52  {σ : ST} (h_σ : KH σ) : KNP (fX11_pieces_0b52 σ) := by
  unfold fX11_pieces_0b52
  refine knbd2 fun v56 _ => ?_
  exact h_σ
theorem knb_fX11_pieces_0b60  {σ : ST} (h_σ : KH σ) : KNP (fX11_pieces_0b60 σ) := by
  unfold fX11_pieces_0b60
  refine knbd2 fun v64 _ => ?_
  exact h_σ
theorem knb_fX11_pieces_0b68  {σ : ST} (h_σ : KH σ) : KNP (fX11_pieces_0b68 σ) := by
  unfold fX11_pieces_0b68
  exact h_σ
theorem knb_fX11_pieces_0b0  {l1 : Int32} {σ : ST} (h_σ : KH σ) : KNP (fX11_pieces_0b0 l1 σ) := by
  unfold fX11_pieces_0b0
  refine knbd2 fun s1 e_s1 => ?_
  have h_s1 : KH s1 := by rw [e_s1]; exact kn_fX11_cutNow_0 h_σ
  refine knite2 (knb_fX11_pieces_0b36  h_s1) ?_
  refine knite2 (knb_fX11_pieces_0b44  h_s1) ?_
  refine knite2 (knb_fX11_pieces_0b52  h_s1) ?_
  refine knite2 (knb_fX11_pieces_0b60  h_s1) ?_
  exact knb_fX11_pieces_0b68  h_s1
theorem kn_fX11_pieces_0 {p1 : Int32} {σ : ST} (h : KH σ) : KH (fX11_pieces_0 p1 σ).2 := knb_fX11_pieces_0b0 h
theorem knb_fX11_isPiece_0b0  {l1 : Int32} {σ : ST} (h_σ : KH σ) : KNP (fX11_isPiece_0b0 l1 σ) := by
  unfold fX11_isPiece_0b0
  refine knbd2 fun s1 e_s1 => ?_
  have h_s1 : KH s1 := by rw [e_s1]; exact kn_fX11_cutNow_0 h_σ
  refine knbd2 fun v10 _ => ?_
  refine knbd2 fun v14 _ => ?_
  refine knbd2 fun v15 _ => ?_
  exact h_s1
theorem kn_fX11_isPiece_0 {p1 : Int32} {σ : ST} (h : KH σ) : KH (fX11_isPiece_0 p1 σ).2 := knb_fX11_isPiece_0b0 h
theorem knb_fX11_piece_0b52  {l1 : Int32} {σ : ST} (h_σ : KH σ) : KNP (fX11_piece_0b52 l1 σ) := by
  unfold fX11_piece_0b52
  refine knbd2 fun v60 _ => ?_
  exact h_σ
theorem knb_fX11_piece_0b62  {l1 : Int32} {σ : ST} (h_σ : KH σ) : KNP (fX11_piece_0b62 l1 σ) := by
  unfold fX11_piece_0b62
  refine knbd2 fun v70 _ => ?_
  exact h_σ
theorem knb_fX11_piece_0b72  {l1 : Int32} {σ : ST} (h_σ : KH σ) : KNP (fX11_piece_0b72 l1 σ) := by
  unfold fX11_piece_0b72
  refine knbd2 fun v80 _ => ?_
  exact h_σ
theorem knb_fX11_piece_0b82  {l1 : Int32} {l2 : Int32} {σ : ST} (h_σ : KH σ) : KNP (fX11_piece_0b82 l1 l2 σ) := by
  unfold fX11_piece_0b82
  refine knbd2 fun v89 _ => ?_
  refine knbd2 fun v90 _ => ?_
  exact h_σ
theorem knb_fX11_piece_0b94  {σ : ST} (h_σ : KH σ) : KNP (fX11_piece_0b94 σ) := by
  unfold fX11_piece_0b94
  exact h_σ
theorem knb_fX11_piece_0b10  {l1 : Int32} {l2 : Int32} {σ : ST} (h_σ : KH σ) : KNP (fX11_piece_0b10 l1 l2 σ) := by
  unfold fX11_piece_0b10
  refine knite2 (knb_fX11_piece_0b52  h_σ) ?_
  refine knite2 (knb_fX11_piece_0b62  h_σ) ?_
  refine knite2 (knb_fX11_piece_0b72  h_σ) ?_
  refine knite2 (knb_fX11_piece_0b82  h_σ) ?_
  refine knite2 (knb_fX11_piece_0b82  h_σ) ?_
  refine knite2 (knb_fX11_piece_0b82  h_σ) ?_
  refine knite2 (knb_fX11_piece_0b82  h_σ) ?_
  exact knb_fX11_piece_0b94  h_σ
theorem knb_fX11_piece_0b8  {σ : ST} (h_σ : KH σ) : KNP (fX11_piece_0b8 σ) := by
  unfold fX11_piece_0b8
  exact h_σ
theorem knb_fX11_piece_0b0  {l1 : Int32} {l2 : Int32} {σ : ST} (h_σ : KH σ) : KNP (fX11_piece_0b0 l1 l2 σ) := by
  unfold fX11_piece_0b0
  refine knbp2 fun v2 s2 e_s2 => ?_
  have h_s2 : KH s2 := by rw [← e_s2]; exact kn_fX11_isPiece_0 h_σ
  exact knite2 (knb_fX11_piece_0b8  h_s2) (knb_fX11_piece_0b10  h_s2)
theorem kn_fX11_piece_0 {p1 : Int32} {p2 : Int32} {σ : ST} (h : KH σ) : KH (fX11_piece_0 p1 p2 σ).2 := knb_fX11_piece_0b0 h
theorem knb_fX11_of_0b19  {l1 : Int32} {σ : ST} (h_σ : KH σ) : KNP (fX11_of_0b19 l1 σ) := by
  unfold fX11_of_0b19
  refine knbd2 fun s20 e_s20 => ?_
  have h_s20 : KH s20 := by rw [e_s20]; exact kn_fX11_cutNow_0 h_σ
  refine knbd2 fun v31 _ => ?_
  exact h_s20
theorem knb_fX11_of_0b17  {σ : ST} (h_σ : KH σ) : KNP (fX11_of_0b17 σ) := by
  unfold fX11_of_0b17
  exact h_σ
theorem knb_fX11_of_0b0  {l1 : Int32} {σ : ST} (h_σ : KH σ) : KNP (fX11_of_0b0 l1 σ) := by
  unfold fX11_of_0b0
  refine knbd2 fun v6 _ => ?_
  refine knbd2 fun v10 _ => ?_
  refine knbd2 fun v11 _ => ?_
  exact knite2 (knb_fX11_of_0b17  h_σ) (knb_fX11_of_0b19  h_σ)
theorem kn_fX11_of_0 {p1 : Int32} {σ : ST} (h : KH σ) : KH (fX11_of_0 p1 σ).2 := knb_fX11_of_0b0 h
theorem knb_fX11_like_0b21  {σ : ST} (h_σ : KH σ) : KNP (fX11_like_0b21 σ) := by
  unfold fX11_like_0b21
  exact h_σ
theorem knb_fX11_like_0b24  {l1 : Int32} {l2 : Int32} {σ : ST} (h_σ : KH σ) : KNP (fX11_like_0b24 l1 l2 σ) := by
  unfold fX11_like_0b24
  refine knbd2 fun v35 _ => ?_
  refine knbd2 fun v38 _ => ?_
  exact h_σ
theorem knb_fX11_like_0b16  {l1 : Int32} {l2 : Int32} {σ : ST} (h_σ : KH σ) : KNP (fX11_like_0b16 l1 l2 σ) := by
  unfold fX11_like_0b16
  exact knite2 (knb_fX11_like_0b21  h_σ) (knb_fX11_like_0b24  h_σ)
theorem knb_fX11_like_0b8  {l1 : Int32} {l2 : Int32} {σ : ST} (h_σ : KH σ) : KNP (fX11_like_0b8 l1 l2 σ) := by
  unfold fX11_like_0b8
  refine knbp2 fun v10 s10 e_s10 => ?_
  have h_s10 : KH s10 := by rw [← e_s10]; exact kn_fX11_isPiece_0 h_σ
  exact knite2 (knb_fX11_like_0b21  h_s10) (knb_fX11_like_0b16  h_s10)
theorem knb_fX11_like_0b0  {l1 : Int32} {l2 : Int32} {σ : ST} (h_σ : KH σ) : KNP (fX11_like_0b0 l1 l2 σ) := by
  unfold fX11_like_0b0
  refine knbp2 fun v2 s2 e_s2 => ?_
  have h_s2 : KH s2 := by rw [← e_s2]; exact kn_fX11_isPiece_0 h_σ
  exact knite2 (knb_fX11_like_0b21  h_s2) (knb_fX11_like_0b8  h_s2)
theorem kn_fX11_like_0 {p1 : Int32} {p2 : Int32} {σ : ST} (h : KH σ) : KH (fX11_like_0 p1 p2 σ).2 := knb_fX11_like_0b0 h
theorem knb_fX11_heap_0b17  {σ : ST} (h_σ : KH σ) : KNP (fX11_heap_0b17 σ) := by
  unfold fX11_heap_0b17
  exact h_σ
theorem knb_fX11_heap_0b34  {l1 : Int32} {σ : ST} (h_σ : KH σ) : KNP (fX11_heap_0b34 l1 σ) := by
  unfold fX11_heap_0b34
  refine knbd2 fun v38 _ => ?_
  exact h_σ
theorem knb_fX11_heap_0b34a  {l1 : Int32} {σ : ST} (h_σ : KH σ) : KNP (fX11_heap_0b34a l1 σ) := by
  unfold fX11_heap_0b34a
  refine knbd2 fun v38 _ => ?_
  exact h_σ
theorem knb_fX11_heap_0b29  {l1 : Int32} {l2 : Int32} {σ : ST} (h_σ : KH σ) : KNP (fX11_heap_0b29 l1 l2 σ) := by
  unfold fX11_heap_0b29
  refine knbd2 fun v31 _ => ?_
  refine knite2 (knb_fX11_heap_0b34  h_σ) ?_
  exact knb_fX11_heap_0b34a  h_σ
theorem knb_fX11_heap_0b26  {σ : ST} (h_σ : KH σ) : KNP (fX11_heap_0b26 σ) := by
  unfold fX11_heap_0b26
  exact h_σ
theorem knb_fX11_heap_0b19  {l1 : Int32} {l2 : Int32} {σ : ST} (h_σ : KH σ) : KNP (fX11_heap_0b19 l1 l2 σ) := by
  unfold fX11_heap_0b19
  refine knbp2 fun v20 s20 e_s20 => ?_
  have h_s20 : KH s20 := by rw [← e_s20]; exact kn_fX11_heapNow_0 h_σ
  exact knite2 (knb_fX11_heap_0b26  h_s20) (knb_fX11_heap_0b29  h_s20)
theorem knb_fX11_heap_0b8  {l1 : Int32} {l2 : Int32} {σ : ST} (h_σ : KH σ) : KNP (fX11_heap_0b8 l1 l2 σ) := by
  unfold fX11_heap_0b8
  refine knbd2 fun v11 _ => ?_
  exact knite2 (knb_fX11_heap_0b17  h_σ) (knb_fX11_heap_0b19  h_σ)
theorem knb_fX11_heap_0b0  {l1 : Int32} {l2 : Int32} {σ : ST} (h_σ : KH σ) : KNP (fX11_heap_0b0 l1 l2 σ) := by
  unfold fX11_heap_0b0
  refine knbp2 fun v2 s2 e_s2 => ?_
  have h_s2 : KH s2 := by rw [← e_s2]; exact kn_fX11_isPiece_0 h_σ
  exact knite2 (knb_fX11_heap_0b17  h_s2) (knb_fX11_heap_0b8  h_s2)
theorem kn_fX11_heap_0 {p1 : Int32} {p2 : Int32} {σ : ST} (h : KH σ) : KH (fX11_heap_0 p1 p2 σ).2 := knb_fX11_heap_0b0 h
theorem knb_fX11_worth_0b16  {σ : ST} (h_σ : KH σ) : KNP (fX11_worth_0b16 σ) := by
  unfold fX11_worth_0b16
  exact h_σ
theorem knb_fX11_worth_0b24  {σ : ST} (h_σ : KH σ) : KNP (fX11_worth_0b24 σ) := by
  unfold fX11_worth_0b24
  refine knbd2 fun v24 _ => ?_
  exact h_σ
theorem knb_fX11_worth_0b24a  {σ : ST} (h_σ : KH σ) : KNP (fX11_worth_0b24a σ) := by
  unfold fX11_worth_0b24a
  refine knbd2 fun v24 _ => ?_
  exact h_σ
theorem knb_fX11_worth_0b19  {l1 : Int32} {σ : ST} (h_σ : KH σ) : KNP (fX11_worth_0b19 l1 σ) := by
  unfold fX11_worth_0b19
  refine knbd2 fun v21 _ => ?_
  refine knite2 (knb_fX11_worth_0b24  h_σ) ?_
  exact knb_fX11_worth_0b24a  h_σ
theorem knb_fX11_worth_0b9  {l1 : Int32} {σ : ST} (h_σ : KH σ) : KNP (fX11_worth_0b9 l1 σ) := by
  unfold fX11_worth_0b9
  refine knbp2 fun v10 s10 e_s10 => ?_
  have h_s10 : KH s10 := by rw [← e_s10]; exact kn_fX11_heapNow_0 h_σ
  exact knite2 (knb_fX11_worth_0b16  h_s10) (knb_fX11_worth_0b19  h_s10)
theorem knb_fX11_worth_0b0  {l1 : Int32} {σ : ST} (h_σ : KH σ) : KNP (fX11_worth_0b0 l1 σ) := by
  unfold fX11_worth_0b0
  refine knbd2 fun v3 _ => ?_
  exact knite2 (knb_fX11_worth_0b16  h_σ) (knb_fX11_worth_0b9  h_σ)
theorem kn_fX11_worth_0 {p1 : Int32} {σ : ST} (h : KH σ) : KH (fX11_worth_0 p1 σ).2 := knb_fX11_worth_0b0 h
theorem knb_fX11_refusedHeap_0b29  {t0 : Int32} {σ : ST} (h_σ : KH σ) : KNP (fX11_refusedHeap_0b29 t0 σ) := by
  unfold fX11_refusedHeap_0b29
  exact h_σ
theorem knb_fX11_refusedHeap_0b28  {σ : ST} (h_σ : KH σ) : KNP (fX11_refusedHeap_0b28 σ) := by
  unfold fX11_refusedHeap_0b28
  exact knb_fX11_refusedHeap_0b29  h_σ
theorem knb_fX11_refusedHeap_0b24  {σ : ST} (h_σ : KH σ) : KNP (fX11_refusedHeap_0b24 σ) := by
  unfold fX11_refusedHeap_0b24
  exact knb_fX11_refusedHeap_0b29  h_σ
theorem knb_fX11_refusedHeap_0b10  {l1 : Int32} {σ : ST} (h_σ : KH σ) : KNP (fX11_refusedHeap_0b10 l1 σ) := by
  unfold fX11_refusedHeap_0b10
  refine knbd2 fun v18 _ => ?_
  exact knite2 (knb_fX11_refusedHeap_0b28  h_σ) (knb_fX11_refusedHeap_0b24  h_σ)
theorem knb_fX11_refusedHeap_0b7  {σ : ST} (h_σ : KH σ) : KNP (fX11_refusedHeap_0b7 σ) := by
  unfold fX11_refusedHeap_0b7
  exact h_σ
theorem knb_fX11_refusedHeap_0b0  {l1 : Int32} {σ : ST} (h_σ : KH σ) : KNP (fX11_refusedHeap_0b0 l1 σ) := by
  unfold fX11_refusedHeap_0b0
  refine knbp2 fun v1 s1 e_s1 => ?_
  have h_s1 : KH s1 := by rw [← e_s1]; exact kn_fX11_heapNow_0 h_σ
  exact knite2 (knb_fX11_refusedHeap_0b7  h_s1) (knb_fX11_refusedHeap_0b10  h_s1)
theorem kn_fX11_refusedHeap_0 {p1 : Int32} {σ : ST} (h : KH σ) : KH (fX11_refusedHeap_0 p1 σ).2 := knb_fX11_refusedHeap_0b0 h
theorem knb_fX11_middle_0b16  {σ : ST} (h_σ : KH σ) : KNP (fX11_middle_0b16 σ) := by
  unfold fX11_middle_0b16
  exact h_σ
theorem knb_fX11_middle_0b44  {t0 : Int32} {σ : ST} (h_σ : KH σ) : KNP (fX11_middle_0b44 t0 σ) := by
  unfold fX11_middle_0b44
  exact h_σ
theorem knb_fX11_middle_0b32  {l1 : Int32} {l2 : Int32} {σ : ST} (h_σ : KH σ) : KNP (fX11_middle_0b32 l1 l2 σ) := by
  unfold fX11_middle_0b32
  refine knbd2 fun v41 _ => ?_
  exact knb_fX11_middle_0b44  h_σ
theorem knb_fX11_middle_0b28  {l3 : Int32} {σ : ST} (h_σ : KH σ) : KNP (fX11_middle_0b28 l3 σ) := by
  unfold fX11_middle_0b28
  exact knb_fX11_middle_0b44  h_σ
theorem knb_fX11_middle_0b18  {l1 : Int32} {l2 : Int32} {σ : ST} (h_σ : KH σ) : KNP (fX11_middle_0b18 l1 l2 σ) := by
  unfold fX11_middle_0b18
  refine knbp2 fun v20 s20 e_s20 => ?_
  have h_s20 : KH s20 := by rw [← e_s20]; exact kn_fX11_refusedHeap_0 h_σ
  exact knite2 (knb_fX11_middle_0b32  h_s20) (knb_fX11_middle_0b28  h_s20)
theorem knb_fX11_middle_0b7  {l1 : Int32} {l2 : Int32} {σ : ST} (h_σ : KH σ) : KNP (fX11_middle_0b7 l1 l2 σ) := by
  unfold fX11_middle_0b7
  refine knbd2 fun v10 _ => ?_
  exact knite2 (knb_fX11_middle_0b16  h_σ) (knb_fX11_middle_0b18  h_σ)
theorem knb_fX11_middle_0b0  {l1 : Int32} {l2 : Int32} {σ : ST} (h_σ : KH σ) : KNP (fX11_middle_0b0 l1 l2 σ) := by
  unfold fX11_middle_0b0
  refine knbd2 fun v1 _ => ?_
  exact knite2 (knb_fX11_middle_0b16  h_σ) (knb_fX11_middle_0b7  h_σ)
theorem kn_fX11_middle_0 {p1 : Int32} {p2 : Int32} {σ : ST} (h : KH σ) : KH (fX11_middle_0 p1 p2 σ).2 := knb_fX11_middle_0b0 h
theorem knb_fX11_twice_0b17  {σ : ST} (h_σ : KH σ) : KNP (fX11_twice_0b17 σ) := by
  unfold fX11_twice_0b17
  exact h_σ
theorem knb_fX11_twice_0b77  {t0 : Int32} {σ : ST} (h_σ : KH σ) : KNP (fX11_twice_0b77 t0 σ) := by
  unfold fX11_twice_0b77
  exact h_σ
theorem knb_fX11_twice_0b73  {l3 : Int32} {σ : ST} (h_σ : KH σ) : KNP (fX11_twice_0b73 l3 σ) := by
  unfold fX11_twice_0b73
  refine knbd2 fun v76 _ => ?_
  exact knb_fX11_twice_0b77  h_σ
theorem knb_fX11_twice_0b66  {l3 : Int32} {σ : ST} (h_σ : KH σ) : KNP (fX11_twice_0b66 l3 σ) := by
  unfold fX11_twice_0b66
  refine knbd2 fun v69 _ => ?_
  exact knb_fX11_twice_0b77  h_σ
theorem knb_fX11_twice_0b62  {l2 : Int32} {l3 : Int32} {σ : ST} (h_σ : KH σ) : KNP (fX11_twice_0b62 l2 l3 σ) := by
  unfold fX11_twice_0b62
  exact knite2 (knb_fX11_twice_0b66  h_σ) (knb_fX11_twice_0b73  h_σ)
theorem knb_fX11_twice_0b59  {σ : ST} (h_σ : KH σ) : KNP (fX11_twice_0b59 σ) := by
  unfold fX11_twice_0b59
  exact h_σ
theorem knb_fX11_twice_0b29  {l1 : Int32} {l2 : Int32} {σ : ST} (h_σ : KH σ) : KNP (fX11_twice_0b29 l1 l2 σ) := by
  unfold fX11_twice_0b29
  refine knbd2 fun v46 _ => ?_
  refine knbd2 fun v49 _ => ?_
  exact knite2 (knb_fX11_twice_0b59  h_σ) (knb_fX11_twice_0b62  h_σ)
theorem knb_fX11_twice_0b26  {σ : ST} (h_σ : KH σ) : KNP (fX11_twice_0b26 σ) := by
  unfold fX11_twice_0b26
  exact h_σ
theorem knb_fX11_twice_0b19  {l1 : Int32} {l2 : Int32} {σ : ST} (h_σ : KH σ) : KNP (fX11_twice_0b19 l1 l2 σ) := by
  unfold fX11_twice_0b19
  refine knbp2 fun v20 s20 e_s20 => ?_
  have h_s20 : KH s20 := by rw [← e_s20]; exact kn_fX11_heapNow_0 h_σ
  exact knite2 (knb_fX11_twice_0b26  h_s20) (knb_fX11_twice_0b29  h_s20)
theorem knb_fX11_twice_0b8  {l1 : Int32} {l2 : Int32} {σ : ST} (h_σ : KH σ) : KNP (fX11_twice_0b8 l1 l2 σ) := by
  unfold fX11_twice_0b8
  refine knbd2 fun v11 _ => ?_
  exact knite2 (knb_fX11_twice_0b17  h_σ) (knb_fX11_twice_0b19  h_σ)
theorem knb_fX11_twice_0b0  {l1 : Int32} {l2 : Int32} {σ : ST} (h_σ : KH σ) : KNP (fX11_twice_0b0 l1 l2 σ) := by
  unfold fX11_twice_0b0
  refine knbp2 fun v2 s2 e_s2 => ?_
  have h_s2 : KH s2 := by rw [← e_s2]; exact kn_fX11_isPiece_0 h_σ
  exact knite2 (knb_fX11_twice_0b17  h_s2) (knb_fX11_twice_0b8  h_s2)
theorem kn_fX11_twice_0 {p1 : Int32} {p2 : Int32} {σ : ST} (h : KH σ) : KH (fX11_twice_0 p1 p2 σ).2 := knb_fX11_twice_0b0 h
theorem knb_fX11_keep_0b17  {σ : ST} (h_σ : KH σ) : KNP (fX11_keep_0b17 σ) := by
  unfold fX11_keep_0b17
  exact h_σ
theorem knb_fX11_keep_0b31  {l1 : Int32} {l2 : Int32} {σ : ST} (h_σ : KH σ) : KNP (fX11_keep_0b31 l1 l2 σ) := by
  unfold fX11_keep_0b31
  refine knbp2 fun v44 s44 e_s44 => ?_
  have h_s44 : KH s44 := by rw [← e_s44]; exact h_σ.fr fr_fX5_add_0 rfl rfl (lq_fX5_add_0 ⟨rfl, rfl⟩)
  exact h_s44
theorem knb_fX11_keep_0b29  {l3 : Int32} {σ : ST} (h_σ : KH σ) : KNP (fX11_keep_0b29 l3 σ) := by
  unfold fX11_keep_0b29
  exact h_σ
theorem knb_fX11_keep_0b19  {l1 : Int32} {l2 : Int32} {σ : ST} (h_σ : KH σ) : KNP (fX11_keep_0b19 l1 l2 σ) := by
  unfold fX11_keep_0b19
  refine knbp2 fun v21 s21 e_s21 => ?_
  have h_s21 : KH s21 := by rw [← e_s21]; exact kn_fX11_refusedHeap_0 h_σ
  exact knite2 (knb_fX11_keep_0b31  h_s21) (knb_fX11_keep_0b29  h_s21)
theorem knb_fX11_keep_0b7  {l1 : Int32} {l2 : Int32} {σ : ST} (h_σ : KH σ) : KNP (fX11_keep_0b7 l1 l2 σ) := by
  unfold fX11_keep_0b7
  refine knbd2 fun v11 _ => ?_
  exact knite2 (knb_fX11_keep_0b17  h_σ) (knb_fX11_keep_0b19  h_σ)
theorem knb_fX11_keep_0b0  {l1 : Int32} {l2 : Int32} {σ : ST} (h_σ : KH σ) : KNP (fX11_keep_0b0 l1 l2 σ) := by
  unfold fX11_keep_0b0
  refine knbd2 fun v1 _ => ?_
  exact knite2 (knb_fX11_keep_0b17  h_σ) (knb_fX11_keep_0b7  h_σ)
theorem kn_fX11_keep_0 {p1 : Int32} {p2 : Int32} {σ : ST} (h : KH σ) : KH (fX11_keep_0 p1 p2 σ).2 := knb_fX11_keep_0b0 h
theorem knb_fX11_back_0b16  {σ : ST} (h_σ : KH σ) : KNP (fX11_back_0b16 σ) := by
  unfold fX11_back_0b16
  exact h_σ
theorem knb_fX11_back_0b67  {l4 : Int32} {σ : ST} (h_σ : KH σ) : KNP (fX11_back_0b67 l4 σ) := by
  unfold fX11_back_0b67
  exact h_σ
theorem knb_fX11_back_0b70  {l4 : Int32} {σ : ST} (h_σ : KH σ) : KNP (fX11_back_0b70 l4 σ) := by
  unfold fX11_back_0b70
  refine knbd2 fun v79 _ => ?_
  exact h_σ
theorem knb_fX11_back_0b62  {l2 : Int32} {l4 : Int32} {σ : ST} (h_σ : KH σ) : KNP (fX11_back_0b62 l2 l4 σ) := by
  unfold fX11_back_0b62
  exact knite2 (knb_fX11_back_0b67  h_σ) (knb_fX11_back_0b70  h_σ)
theorem knb_fX11_back_0b30  {l1 : Int32} {l2 : Int32} {σ : ST} (h_σ : KH σ) : KNP (fX11_back_0b30 l1 l2 σ) := by
  unfold fX11_back_0b30
  refine knbd2 fun v47 _ => ?_
  refine knbd2 fun v50 _ => ?_
  exact knite2 (knb_fX11_back_0b67  h_σ) (knb_fX11_back_0b62  h_σ)
theorem knb_fX11_back_0b28  {l3 : Int32} {σ : ST} (h_σ : KH σ) : KNP (fX11_back_0b28 l3 σ) := by
  unfold fX11_back_0b28
  exact h_σ
theorem knb_fX11_back_0b18  {l1 : Int32} {l2 : Int32} {σ : ST} (h_σ : KH σ) : KNP (fX11_back_0b18 l1 l2 σ) := by
  unfold fX11_back_0b18
  refine knbp2 fun v20 s20 e_s20 => ?_
  have h_s20 : KH s20 := by rw [← e_s20]; exact kn_fX11_refusedHeap_0 h_σ
  exact knite2 (knb_fX11_back_0b30  h_s20) (knb_fX11_back_0b28  h_s20)
theorem knb_fX11_back_0b7  {l1 : Int32} {l2 : Int32} {σ : ST} (h_σ : KH σ) : KNP (fX11_back_0b7 l1 l2 σ) := by
  unfold fX11_back_0b7
  refine knbd2 fun v10 _ => ?_
  exact knite2 (knb_fX11_back_0b16  h_σ) (knb_fX11_back_0b18  h_σ)
theorem knb_fX11_back_0b0  {l1 : Int32} {l2 : Int32} {σ : ST} (h_σ : KH σ) : KNP (fX11_back_0b0 l1 l2 σ) := by
  unfold fX11_back_0b0
  refine knbd2 fun v1 _ => ?_
  exact knite2 (knb_fX11_back_0b16  h_σ) (knb_fX11_back_0b7  h_σ)
theorem kn_fX11_back_0 {p1 : Int32} {p2 : Int32} {σ : ST} (h : KH σ) : KH (fX11_back_0 p1 p2 σ).2 := knb_fX11_back_0b0 h
theorem knb_fX11_odds_0b27  {σ : ST} (h_σ : KH σ) : KNP (fX11_odds_0b27 σ) := by
  unfold fX11_odds_0b27
  exact h_σ
theorem knb_fX11_odds_0b81  {t0 : Int32} {t1 : Int32} {t2 : Int32} {σ : ST} (h_σ : KH σ) : KNP (fX11_odds_0b81 t0 t1 t2 σ) := by
  unfold fX11_odds_0b81
  refine knbp2 fun v81 s81 e_s81 => ?_
  have h_s81 : KH s81 := by rw [← e_s81]; exact h_σ.fr fr_fX5_dealsOf_0 rfl rfl (lq_fX5_dealsOf_0 ⟨rfl, rfl⟩)
  exact h_s81
theorem knb_fX11_odds_0b80  {t0 : Int32} {t1 : Int32} {σ : ST} (h_σ : KH σ) : KNP (fX11_odds_0b80 t0 t1 σ) := by
  unfold fX11_odds_0b80
  exact knb_fX11_odds_0b81  h_σ
theorem knb_fX11_odds_0b76  {t0 : Int32} {t1 : Int32} {σ : ST} (h_σ : KH σ) : KNP (fX11_odds_0b76 t0 t1 σ) := by
  unfold fX11_odds_0b76
  exact knb_fX11_odds_0b81  h_σ
theorem knb_fX11_odds_0b44  {l1 : Int32} {l2 : Int32} {l3 : Int32} {σ : ST} (h_σ : KH σ) : KNP (fX11_odds_0b44 l1 l2 l3 σ) := by
  unfold fX11_odds_0b44
  refine knbd2 fun v64 _ => ?_
  refine knbd2 fun v67 _ => ?_
  exact knite2 (knb_fX11_odds_0b76  h_σ) (knb_fX11_odds_0b80  h_σ)
theorem knb_fX11_odds_0b41  {l4 : Int32} {σ : ST} (h_σ : KH σ) : KNP (fX11_odds_0b41 l4 σ) := by
  unfold fX11_odds_0b41
  exact h_σ
theorem knb_fX11_odds_0b29  {l1 : Int32} {l2 : Int32} {l3 : Int32} {σ : ST} (h_σ : KH σ) : KNP (fX11_odds_0b29 l1 l2 l3 σ) := by
  unfold fX11_odds_0b29
  refine knbp2 fun v31 s31 e_s31 => ?_
  have h_s31 : KH s31 := by rw [← e_s31]; exact kn_fX11_refusedHeap_0 h_σ
  exact knite2 (knb_fX11_odds_0b44  h_s31) (knb_fX11_odds_0b41  h_s31)
theorem knb_fX11_odds_0b18  {l1 : Int32} {l2 : Int32} {l3 : Int32} {σ : ST} (h_σ : KH σ) : KNP (fX11_odds_0b18 l1 l2 l3 σ) := by
  unfold fX11_odds_0b18
  refine knbd2 fun v21 _ => ?_
  exact knite2 (knb_fX11_odds_0b27  h_σ) (knb_fX11_odds_0b29  h_σ)
theorem knb_fX11_odds_0b7  {l1 : Int32} {l2 : Int32} {l3 : Int32} {σ : ST} (h_σ : KH σ) : KNP (fX11_odds_0b7 l1 l2 l3 σ) := by
  unfold fX11_odds_0b7
  refine knbd2 fun v12 _ => ?_
  exact knite2 (knb_fX11_odds_0b27  h_σ) (knb_fX11_odds_0b18  h_σ)
theorem knb_fX11_odds_0b0  {l1 : Int32} {l2 : Int32} {l3 : Int32} {σ : ST} (h_σ : KH σ) : KNP (fX11_odds_0b0 l1 l2 l3 σ) := by
  unfold fX11_odds_0b0
  refine knbd2 fun v1 _ => ?_
  exact knite2 (knb_fX11_odds_0b27  h_σ) (knb_fX11_odds_0b7  h_σ)
theorem kn_fX11_odds_0 {p1 : Int32} {p2 : Int32} {p3 : Int32} {σ : ST} (h : KH σ) : KH (fX11_odds_0 p1 p2 p3 σ).2 := knb_fX11_odds_0b0 h
theorem knb_fX11_show_0b40  {σ : ST} (h_σ : KH σ) : KNP (fX11_show_0b40 σ) := by
  unfold fX11_show_0b40
  refine knbd2 fun v45 _ => ?_
  refine knbd2 fun s48 e_s48 => ?_
  have h_s48 : KH s48 := by rw [e_s48]; exact h_σ.putI rfl
  refine knbd2 fun v52 _ => ?_
  exact h_s48
theorem knb_fX11_show_0b23 {K12 : Int32 → ST → (Int32 × ST)} (hK12 : ∀ (q0 : Int32) (τ : ST), KH τ → KNP (K12 q0 τ)) {l1 : Int32} {σ : ST} (h_σ : KH σ) : KNP (fX11_show_0b23 K12 l1 σ) := by
  unfold fX11_show_0b23
  refine knbd2 fun v30 _ => ?_
  refine knbd2 fun s33 e_s33 => ?_
  have h_s33 : KH s33 := by rw [e_s33]; exact h_σ.putA rfl
  refine knbd2 fun v34 _ => ?_
  exact hK12 _ _ h_s33
theorem knb_fX11_show_0b12 {K12 : Int32 → ST → (Int32 × ST)} (hK12 : ∀ (q0 : Int32) (τ : ST), KH τ → KNP (K12 q0 τ)) {l1 : Int32} {σ : ST} (h_σ : KH σ) : KNP (fX11_show_0b12 K12 l1 σ) := by
  unfold fX11_show_0b12
  refine knbd2 fun v17 _ => ?_
  exact knite2 (knb_fX11_show_0b40  h_σ) (knb_fX11_show_0b23 hK12 h_σ)
theorem knb_fX11_show_0l12  : ∀ (fu : Nat) {q0 : Int32} {τ : ST} (h : KH τ), KNP (fX11_show_0l12 fu q0 τ)
  | 0, _, _, h => h
  | fu + 1, _, _, h => knb_fX11_show_0b12 (fun _ _ q => knb_fX11_show_0l12  fu q) h
theorem knb_fX11_show_0b10  {σ : ST} (h_σ : KH σ) : KNP (fX11_show_0b10 σ) := by
  unfold fX11_show_0b10
  exact knb_fX11_show_0l12  _ h_σ
theorem knb_fX11_show_0b7  {σ : ST} (h_σ : KH σ) : KNP (fX11_show_0b7 σ) := by
  unfold fX11_show_0b7
  exact h_σ
theorem knb_fX11_show_0b0  {σ : ST} (h_σ : KH σ) : KNP (fX11_show_0b0 σ) := by
  unfold fX11_show_0b0
  refine knbp2 fun v1 s1 e_s1 => ?_
  have h_s1 : KH s1 := by rw [← e_s1]; exact kn_fX11_heapNow_0 h_σ
  exact knite2 (knb_fX11_show_0b7  h_s1) (knb_fX11_show_0b10  h_s1)
theorem kn_fX11_show_0 {σ : ST} (h : KH σ) : KH (fX11_show_0 σ).2 := knb_fX11_show_0b0 h
theorem knb_fX11_otherwise_0b15  {σ : ST} (h_σ : KH σ) : KNP (fX11_otherwise_0b15 σ) := by
  unfold fX11_otherwise_0b15
  exact h_σ
theorem knb_fX11_otherwise_0b64  {l1 : Int32} {σ : ST} (h_σ : KH σ) : KNP (fX11_otherwise_0b64 l1 σ) := by
  unfold fX11_otherwise_0b64
  exact h_σ
theorem knb_fX11_otherwise_0b58 {K22 : Int32 → Int32 → ST → (Int32 × ST)} (hK22 : ∀ (q0 : Int32) (q1 : Int32) (τ : ST), KH τ → KNP (K22 q0 q1 τ)) {l1 : Int32} {l2 : Int32} {σ : ST} (h_σ : KH σ) : KNP (fX11_otherwise_0b58 K22 l1 l2 σ) := by
  unfold fX11_otherwise_0b58
  refine knbd2 fun v58 _ => ?_
  exact hK22 _ _ _ h_σ
theorem knb_fX11_otherwise_0b55 {K22 : Int32 → Int32 → ST → (Int32 × ST)} (hK22 : ∀ (q0 : Int32) (q1 : Int32) (τ : ST), KH τ → KNP (K22 q0 q1 τ)) {l1 : Int32} {l2 : Int32} {σ : ST} (h_σ : KH σ) : KNP (fX11_otherwise_0b55 K22 l1 l2 σ) := by
  unfold fX11_otherwise_0b55
  refine knbd2 fun v55 _ => ?_
  exact knb_fX11_otherwise_0b58 hK22 h_σ
theorem knb_fX11_otherwise_0b41 {K22 : Int32 → Int32 → ST → (Int32 × ST)} (hK22 : ∀ (q0 : Int32) (q1 : Int32) (τ : ST), KH τ → KNP (K22 q0 q1 τ)) {l1 : Int32} {l2 : Int32} {σ : ST} (h_σ : KH σ) : KNP (fX11_otherwise_0b41 K22 l1 l2 σ) := by
  unfold fX11_otherwise_0b41
  refine knbd2 fun v43 _ => ?_
  refine knbd2 fun v51 _ => ?_
  exact knite2 (knb_fX11_otherwise_0b58 hK22 h_σ) (knb_fX11_otherwise_0b55 hK22 h_σ)
theorem knb_fX11_otherwise_0b30 {K22 : Int32 → Int32 → ST → (Int32 × ST)} (hK22 : ∀ (q0 : Int32) (q1 : Int32) (τ : ST), KH τ → KNP (K22 q0 q1 τ)) {l1 : Int32} {l2 : Int32} {σ : ST} (h_σ : KH σ) : KNP (fX11_otherwise_0b30 K22 l1 l2 σ) := by
  unfold fX11_otherwise_0b30
  refine knbd2 fun v35 _ => ?_
  exact knite2 (knb_fX11_otherwise_0b64  h_σ) (knb_fX11_otherwise_0b41 hK22 h_σ)
theorem knb_fX11_otherwise_0b22 {K22 : Int32 → Int32 → ST → (Int32 × ST)} (hK22 : ∀ (q0 : Int32) (q1 : Int32) (τ : ST), KH τ → KNP (K22 q0 q1 τ)) {l1 : Int32} {l2 : Int32} {σ : ST} (h_σ : KH σ) : KNP (fX11_otherwise_0b22 K22 l1 l2 σ) := by
  unfold fX11_otherwise_0b22
  refine knbd2 fun v24 _ => ?_
  exact knite2 (knb_fX11_otherwise_0b64  h_σ) (knb_fX11_otherwise_0b30 hK22 h_σ)
theorem knb_fX11_otherwise_0l22  : ∀ (fu : Nat) {q0 : Int32} {q1 : Int32} {τ : ST} (h : KH τ), KNP (fX11_otherwise_0l22 fu q0 q1 τ)
  | 0, _, _, _, h => h
  | fu + 1, _, _, _, h => knb_fX11_otherwise_0b22 (fun _ _ _ q => knb_fX11_otherwise_0l22  fu q) h
theorem knb_fX11_otherwise_0b18  {σ : ST} (h_σ : KH σ) : KNP (fX11_otherwise_0b18 σ) := by
  unfold fX11_otherwise_0b18
  exact knb_fX11_otherwise_0l22  _ h_σ
theorem knb_fX11_otherwise_0b8  {σ : ST} (h_σ : KH σ) : KNP (fX11_otherwise_0b8 σ) := by
  unfold fX11_otherwise_0b8
  refine knbp2 fun v9 s9 e_s9 => ?_
  have h_s9 : KH s9 := by rw [← e_s9]; exact kn_fX11_heapNow_0 h_σ
  exact knite2 (knb_fX11_otherwise_0b15  h_s9) (knb_fX11_otherwise_0b18  h_s9)
theorem knb_fX11_otherwise_0b0  {σ : ST} (h_σ : KH σ) : KNP (fX11_otherwise_0b0 σ) := by
  unfold fX11_otherwise_0b0
  refine knbd2 fun v1 _ => ?_
  exact knite2 (knb_fX11_otherwise_0b15  h_σ) (knb_fX11_otherwise_0b8  h_σ)
theorem kn_fX11_otherwise_0 {σ : ST} (h : KH σ) : KH (fX11_otherwise_0 σ).2 := knb_fX11_otherwise_0b0 h
theorem knb_fX11_hung_0b26  {σ : ST} (h_σ : KH σ) : KNP (fX11_hung_0b26 σ) := by
  unfold fX11_hung_0b26
  exact h_σ
theorem knb_fX11_hung_0b63  {t0 : Int32} {σ : ST} (h_σ : KH σ) : KNP (fX11_hung_0b63 t0 σ) := by
  unfold fX11_hung_0b63
  exact h_σ
theorem knb_fX11_hung_0b51  {l1 : Int32} {σ : ST} (h_σ : KH σ) : KNP (fX11_hung_0b51 l1 σ) := by
  unfold fX11_hung_0b51
  refine knbd2 fun v60 _ => ?_
  exact knb_fX11_hung_0b63  h_σ
theorem knb_fX11_hung_0b36  {l1 : Int32} {σ : ST} (h_σ : KH σ) : KNP (fX11_hung_0b36 l1 σ) := by
  unfold fX11_hung_0b36
  refine knbd2 fun v45 _ => ?_
  exact knb_fX11_hung_0b63  h_σ
theorem knb_fX11_hung_0b28  {l1 : Int32} {l2 : Int32} {σ : ST} (h_σ : KH σ) : KNP (fX11_hung_0b28 l1 l2 σ) := by
  unfold fX11_hung_0b28
  refine knbd2 fun s29 e_s29 => ?_
  have h_s29 : KH s29 := by rw [e_s29]; exact kn_fX11_cutNow_0 h_σ
  exact knite2 (knb_fX11_hung_0b36  h_s29) (knb_fX11_hung_0b51  h_s29)
theorem knb_fX11_hung_0b17  {l1 : Int32} {l2 : Int32} {σ : ST} (h_σ : KH σ) : KNP (fX11_hung_0b17 l1 l2 σ) := by
  unfold fX11_hung_0b17
  refine knbd2 fun v20 _ => ?_
  exact knite2 (knb_fX11_hung_0b26  h_σ) (knb_fX11_hung_0b28  h_σ)
theorem knb_fX11_hung_0b0  {l1 : Int32} {l2 : Int32} {σ : ST} (h_σ : KH σ) : KNP (fX11_hung_0b0 l1 l2 σ) := by
  unfold fX11_hung_0b0
  refine knbd2 fun v6 _ => ?_
  refine knbd2 fun v10 _ => ?_
  refine knbd2 fun v11 _ => ?_
  exact knite2 (knb_fX11_hung_0b26  h_σ) (knb_fX11_hung_0b17  h_σ)
theorem kn_fX11_hung_0 {p1 : Int32} {p2 : Int32} {σ : ST} (h : KH σ) : KH (fX11_hung_0 p1 p2 σ).2 := knb_fX11_hung_0b0 h
theorem knb_fX9_countTogether_0b113  {l4 : Int32} {σ : ST} (h_σ : KH σ) : KNP (fX9_countTogether_0b113 l4 σ) := by
  unfold fX9_countTogether_0b113
  exact h_σ
theorem knb_fX9_countTogether_0b107 {K33 : Int32 → Int32 → ST → (Int32 × ST)} (hK33 : ∀ (q0 : Int32) (q1 : Int32) (τ : ST), KH τ → KNP (K33 q0 q1 τ)) {l4 : Int32} {l5 : Int32} {σ : ST} (h_σ : KH σ) : KNP (fX9_countTogether_0b107 K33 l4 l5 σ) := by
  unfold fX9_countTogether_0b107
  refine knbd2 fun v107 _ => ?_
  exact hK33 _ _ _ h_σ
theorem knb_fX9_countTogether_0b85 {K33 : Int32 → Int32 → ST → (Int32 × ST)} (hK33 : ∀ (q0 : Int32) (q1 : Int32) (τ : ST), KH τ → KNP (K33 q0 q1 τ)) {l4 : Int32} {l5 : Int32} {l6 : Int32} {l7 : Int32} {σ : ST} (h_σ : KH σ) : KNP (fX9_countTogether_0b85 K33 l4 l5 l6 l7 σ) := by
  unfold fX9_countTogether_0b85
  refine knbd2 fun v95 _ => ?_
  refine knbd2 fun v96 _ => ?_
  refine knbd2 fun v100 _ => ?_
  refine knbd2 fun v102 _ => ?_
  refine knbd2 fun s103 e_s103 => ?_
  have h_s103 : KH s103 := by rw [e_s103]; exact h_σ.putG (by omega)
  refine knbd2 fun v104 _ => ?_
  exact knb_fX9_countTogether_0b107 hK33 h_s103
theorem knb_fX9_countTogether_0b79 {K33 : Int32 → Int32 → ST → (Int32 × ST)} (hK33 : ∀ (q0 : Int32) (q1 : Int32) (τ : ST), KH τ → KNP (K33 q0 q1 τ)) {l4 : Int32} {l5 : Int32} {l6 : Int32} {l7 : Int32} {σ : ST} (h_σ : KH σ) : KNP (fX9_countTogether_0b79 K33 l4 l5 l6 l7 σ) := by
  unfold fX9_countTogether_0b79
  exact knite2 (knb_fX9_countTogether_0b107 hK33 h_σ) (knb_fX9_countTogether_0b85 hK33 h_σ)
theorem knb_fX9_countTogether_0b74 {K33 : Int32 → Int32 → ST → (Int32 × ST)} (hK33 : ∀ (q0 : Int32) (q1 : Int32) (τ : ST), KH τ → KNP (K33 q0 q1 τ)) {l4 : Int32} {l5 : Int32} {l6 : Int32} {l7 : Int32} {σ : ST} (h_σ : KH σ) : KNP (fX9_countTogether_0b74 K33 l4 l5 l6 l7 σ) := by
  unfold fX9_countTogether_0b74
  exact knite2 (knb_fX9_countTogether_0b107 hK33 h_σ) (knb_fX9_countTogether_0b79 hK33 h_σ)
theorem knb_fX9_countTogether_0b67 {K33 : Int32 → Int32 → ST → (Int32 × ST)} (hK33 : ∀ (q0 : Int32) (q1 : Int32) (τ : ST), KH τ → KNP (K33 q0 q1 τ)) {l4 : Int32} {l5 : Int32} {l6 : Int32} {l7 : Int32} {σ : ST} (h_σ : KH σ) : KNP (fX9_countTogether_0b67 K33 l4 l5 l6 l7 σ) := by
  unfold fX9_countTogether_0b67
  exact knite2 (knb_fX9_countTogether_0b107 hK33 h_σ) (knb_fX9_countTogether_0b74 hK33 h_σ)
theorem knb_fX9_countTogether_0b42 {K33 : Int32 → Int32 → ST → (Int32 × ST)} (hK33 : ∀ (q0 : Int32) (q1 : Int32) (τ : ST), KH τ → KNP (K33 q0 q1 τ)) {l4 : Int32} {l5 : Int32} {σ : ST} (h_σ : KH σ) : KNP (fX9_countTogether_0b42 K33 l4 l5 σ) := by
  unfold fX9_countTogether_0b42
  refine knbd2 fun v48 _ => ?_
  refine knbd2 fun v57 _ => ?_
  refine knbd2 fun v59 _ => ?_
  exact knite2 (knb_fX9_countTogether_0b107 hK33 h_σ) (knb_fX9_countTogether_0b67 hK33 h_σ)
theorem knb_fX9_countTogether_0b33 {K33 : Int32 → Int32 → ST → (Int32 × ST)} (hK33 : ∀ (q0 : Int32) (q1 : Int32) (τ : ST), KH τ → KNP (K33 q0 q1 τ)) {l4 : Int32} {l5 : Int32} {σ : ST} (h_σ : KH σ) : KNP (fX9_countTogether_0b33 K33 l4 l5 σ) := by
  unfold fX9_countTogether_0b33
  refine knbd2 fun v36 _ => ?_
  exact knite2 (knb_fX9_countTogether_0b113  h_σ) (knb_fX9_countTogether_0b42 hK33 h_σ)
theorem knb_fX9_countTogether_0l33  : ∀ (fu : Nat) {q0 : Int32} {q1 : Int32} {τ : ST} (h : KH τ), KNP (fX9_countTogether_0l33 fu q0 q1 τ)
  | 0, _, _, _, h => h
  | fu + 1, _, _, _, h => knb_fX9_countTogether_0b33 (fun _ _ _ q => knb_fX9_countTogether_0l33  fu q) h
theorem knb_fX9_countTogether_0b27  {σ : ST} (h_σ : KH σ) : KNP (fX9_countTogether_0b27 σ) := by
  unfold fX9_countTogether_0b27
  exact knb_fX9_countTogether_0l33  _ h_σ
theorem knb_fX9_countTogether_0b10 {K3 : Int32 → ST → (Int32 × ST)} (hK3 : ∀ (q0 : Int32) (τ : ST), KH τ → KNP (K3 q0 τ)) {l4 : Int32} {σ : ST} (h_σ : KH σ) : KNP (fX9_countTogether_0b10 K3 l4 σ) := by
  unfold fX9_countTogether_0b10
  refine knbd2 fun v16 _ => ?_
  refine knbd2 fun s18 e_s18 => ?_
  have h_s18 : KH s18 := by rw [e_s18]; exact h_σ.putG (by omega)
  refine knbd2 fun v21 _ => ?_
  exact hK3 _ _ h_s18
theorem knb_fX9_countTogether_0b3 {K3 : Int32 → ST → (Int32 × ST)} (hK3 : ∀ (q0 : Int32) (τ : ST), KH τ → KNP (K3 q0 τ)) {l4 : Int32} {σ : ST} (h_σ : KH σ) : KNP (fX9_countTogether_0b3 K3 l4 σ) := by
  unfold fX9_countTogether_0b3
  exact knite2 (knb_fX9_countTogether_0b27  h_σ) (knb_fX9_countTogether_0b10 hK3 h_σ)
theorem knb_fX9_countTogether_0l3  : ∀ (fu : Nat) {q0 : Int32} {τ : ST} (h : KH τ), KNP (fX9_countTogether_0l3 fu q0 τ)
  | 0, _, _, h => h
  | fu + 1, _, _, h => knb_fX9_countTogether_0b3 (fun _ _ q => knb_fX9_countTogether_0l3  fu q) h
theorem knb_fX9_countTogether_0b0  {σ : ST} (h_σ : KH σ) : KNP (fX9_countTogether_0b0 σ) := by
  unfold fX9_countTogether_0b0
  exact knb_fX9_countTogether_0l3  _ h_σ
theorem kn_fX9_countTogether_0 {σ : ST} (h : KH σ) : KH (fX9_countTogether_0 σ).2 := knb_fX9_countTogether_0b0 h
theorem knb_fX9_wrong_0b75  {l4 : Int32} {σ : ST} (h_σ : KH σ) : KNP (fX9_wrong_0b75 l4 σ) := by
  unfold fX9_wrong_0b75
  refine knbd2 fun v87 _ => ?_
  refine knbd2 fun v88 _ => ?_
  refine knbd2 fun v89 _ => ?_
  exact h_σ
theorem knb_fX9_wrong_0b69 {K20 : Int32 → Int32 → ST → (Int32 × ST)} (hK20 : ∀ (q0 : Int32) (q1 : Int32) (τ : ST), KH τ → KNP (K20 q0 q1 τ)) {l4 : Int32} {l5 : Int32} {σ : ST} (h_σ : KH σ) : KNP (fX9_wrong_0b69 K20 l4 l5 σ) := by
  unfold fX9_wrong_0b69
  refine knbd2 fun v69 _ => ?_
  exact hK20 _ _ _ h_σ
theorem knb_fX9_wrong_0b50 {K20 : Int32 → Int32 → ST → (Int32 × ST)} (hK20 : ∀ (q0 : Int32) (q1 : Int32) (τ : ST), KH τ → KNP (K20 q0 q1 τ)) {K45 : Int32 → Int32 → Int32 → ST → (Int32 × ST)} (hK45 : ∀ (q0 : Int32) (q1 : Int32) (q2 : Int32) (τ : ST), KH τ → KNP (K45 q0 q1 q2 τ)) {l4 : Int32} {l5 : Int32} {l6 : Int32} {σ : ST} (h_σ : KH σ) : KNP (fX9_wrong_0b50 K20 K45 l4 l5 l6 σ) := by
  unfold fX9_wrong_0b50
  refine knbd2 fun v59 _ => ?_
  refine knbd2 fun s60 e_s60 => ?_
  have h_s60 : KH s60 := by rw [e_s60]; exact h_σ.fr fr_fX9_giveOne_0 rfl rfl (lq_fX9_giveOne_0 ⟨rfl, rfl⟩)
  refine knbd2 fun v63 _ => ?_
  exact hK45 _ _ _ _ h_s60
theorem knb_fX9_wrong_0b45 {K20 : Int32 → Int32 → ST → (Int32 × ST)} (hK20 : ∀ (q0 : Int32) (q1 : Int32) (τ : ST), KH τ → KNP (K20 q0 q1 τ)) {K45 : Int32 → Int32 → Int32 → ST → (Int32 × ST)} (hK45 : ∀ (q0 : Int32) (q1 : Int32) (q2 : Int32) (τ : ST), KH τ → KNP (K45 q0 q1 q2 τ)) {l4 : Int32} {l5 : Int32} {l6 : Int32} {σ : ST} (h_σ : KH σ) : KNP (fX9_wrong_0b45 K20 K45 l4 l5 l6 σ) := by
  unfold fX9_wrong_0b45
  exact knite2 (knb_fX9_wrong_0b69 hK20 h_σ) (knb_fX9_wrong_0b50 hK20 hK45 h_σ)
theorem knb_fX9_wrong_0l45 {K20 : Int32 → Int32 → ST → (Int32 × ST)} (hK20 : ∀ (q0 : Int32) (q1 : Int32) (τ : ST), KH τ → KNP (K20 q0 q1 τ)) : ∀ (fu : Nat) {q0 : Int32} {q1 : Int32} {q2 : Int32} {τ : ST} (h : KH τ), KNP (fX9_wrong_0l45 K20 fu q0 q1 q2 τ)
  | 0, _, _, _, _, h => h
  | fu + 1, _, _, _, _, h => knb_fX9_wrong_0b45 hK20 (fun _ _ _ _ q => knb_fX9_wrong_0l45 hK20 fu q) h
theorem knb_fX9_wrong_0b36 {K20 : Int32 → Int32 → ST → (Int32 × ST)} (hK20 : ∀ (q0 : Int32) (q1 : Int32) (τ : ST), KH τ → KNP (K20 q0 q1 τ)) {l4 : Int32} {l5 : Int32} {σ : ST} (h_σ : KH σ) : KNP (fX9_wrong_0b36 K20 l4 l5 σ) := by
  unfold fX9_wrong_0b36
  refine knbd2 fun v42 _ => ?_
  exact knb_fX9_wrong_0l45 hK20 _ h_σ
theorem knb_fX9_wrong_0b29 {K20 : Int32 → Int32 → ST → (Int32 × ST)} (hK20 : ∀ (q0 : Int32) (q1 : Int32) (τ : ST), KH τ → KNP (K20 q0 q1 τ)) {l4 : Int32} {l5 : Int32} {σ : ST} (h_σ : KH σ) : KNP (fX9_wrong_0b29 K20 l4 l5 σ) := by
  unfold fX9_wrong_0b29
  exact knite2 (knb_fX9_wrong_0b75  h_σ) (knb_fX9_wrong_0b36 hK20 h_σ)
theorem knb_fX9_wrong_0b20 {K20 : Int32 → Int32 → ST → (Int32 × ST)} (hK20 : ∀ (q0 : Int32) (q1 : Int32) (τ : ST), KH τ → KNP (K20 q0 q1 τ)) {l4 : Int32} {l5 : Int32} {σ : ST} (h_σ : KH σ) : KNP (fX9_wrong_0b20 K20 l4 l5 σ) := by
  unfold fX9_wrong_0b20
  refine knbd2 fun v23 _ => ?_
  exact knite2 (knb_fX9_wrong_0b75  h_σ) (knb_fX9_wrong_0b29 hK20 h_σ)
theorem knb_fX9_wrong_0l20  : ∀ (fu : Nat) {q0 : Int32} {q1 : Int32} {τ : ST} (h : KH τ), KNP (fX9_wrong_0l20 fu q0 q1 τ)
  | 0, _, _, _, h => h
  | fu + 1, _, _, _, h => knb_fX9_wrong_0b20 (fun _ _ _ q => knb_fX9_wrong_0l20  fu q) h
theorem knb_fX9_wrong_0b0  {σ : ST} (h_σ : KH σ) : KNP (fX9_wrong_0b0 σ) := by
  unfold fX9_wrong_0b0
  refine knbp2 fun v4 s4 e_s4 => ?_
  have h_s4 : KH s4 := by rw [← e_s4]; exact kn_fX9_countTogether_0 h_σ
  refine knbd2 fun s14 e_s14 => ?_
  have h_s14 : KH s14 := by rw [e_s14]; exact h_s4.putA rfl
  exact knb_fX9_wrong_0l20  _ h_s14
theorem kn_fX9_wrong_0 {σ : ST} (h : KH σ) : KH (fX9_wrong_0 σ).2 := knb_fX9_wrong_0b0 h
theorem knb_fX11_errors_0b90  {t0 : Int32} {σ : ST} (h_σ : KH σ) : KNP (fX11_errors_0b90 t0 σ) := by
  unfold fX11_errors_0b90
  exact h_σ
theorem knb_fX11_errors_0b88  {σ : ST} (h_σ : KH σ) : KNP (fX11_errors_0b88 σ) := by
  unfold fX11_errors_0b88
  exact knb_fX11_errors_0b90  h_σ
theorem knb_fX11_errors_0b63  {σ : ST} (h_σ : KH σ) : KNP (fX11_errors_0b63 σ) := by
  unfold fX11_errors_0b63
  refine knbp2 fun v82 s82 e_s82 => ?_
  have h_s82 : KH s82 := by rw [← e_s82]; exact kn_fX9_wrong_0 h_σ
  exact knb_fX11_errors_0b90  h_s82
theorem knb_fX11_errors_0b56  {σ : ST} (h_σ : KH σ) : KNP (fX11_errors_0b56 σ) := by
  unfold fX11_errors_0b56
  refine knbp2 fun v57 s57 e_s57 => ?_
  have h_s57 : KH s57 := by rw [← e_s57]; exact kn_fX11_heapNow_0 h_σ
  exact knite2 (knb_fX11_errors_0b88  h_s57) (knb_fX11_errors_0b63  h_s57)
theorem knb_fX11_errors_0b40  {σ : ST} (h_σ : KH σ) : KNP (fX11_errors_0b40 σ) := by
  unfold fX11_errors_0b40
  refine knbd2 fun v52 _ => ?_
  exact h_σ
theorem knb_fX11_errors_0b35  {l1 : Int32} {σ : ST} (h_σ : KH σ) : KNP (fX11_errors_0b35 l1 σ) := by
  unfold fX11_errors_0b35
  exact knite2 (knb_fX11_errors_0b40  h_σ) (knb_fX11_errors_0b56  h_σ)
theorem knb_fX11_errors_0b19  {σ : ST} (h_σ : KH σ) : KNP (fX11_errors_0b19 σ) := by
  unfold fX11_errors_0b19
  refine knbd2 fun v31 _ => ?_
  exact h_σ
theorem knb_fX11_errors_0b11  {l1 : Int32} {σ : ST} (h_σ : KH σ) : KNP (fX11_errors_0b11 l1 σ) := by
  unfold fX11_errors_0b11
  refine knbd2 fun s12 e_s12 => ?_
  have h_s12 : KH s12 := by rw [e_s12]; exact kn_fX11_cutNow_0 h_σ
  exact knite2 (knb_fX11_errors_0b19  h_s12) (knb_fX11_errors_0b35  h_s12)
theorem knb_fX11_errors_0b9  {σ : ST} (h_σ : KH σ) : KNP (fX11_errors_0b9 σ) := by
  unfold fX11_errors_0b9
  exact h_σ
theorem knb_fX11_errors_0b0  {l1 : Int32} {σ : ST} (h_σ : KH σ) : KNP (fX11_errors_0b0 l1 σ) := by
  unfold fX11_errors_0b0
  refine knbd2 fun v3 _ => ?_
  exact knite2 (knb_fX11_errors_0b9  h_σ) (knb_fX11_errors_0b11  h_σ)
theorem kn_fX11_errors_0 {p1 : Int32} {σ : ST} (h : KH σ) : KH (fX11_errors_0 p1 σ).2 := knb_fX11_errors_0b0 h
theorem knb_fX11_weight_0b18  {σ : ST} (h_σ : KH σ) : KNP (fX11_weight_0b18 σ) := by
  unfold fX11_weight_0b18
  exact h_σ
theorem knb_fX11_weight_0b20  {l1 : Int32} {l2 : Int32} {σ : ST} (h_σ : KH σ) : KNP (fX11_weight_0b20 l1 l2 σ) := by
  unfold fX11_weight_0b20
  refine knbd2 fun v34 _ => ?_
  refine knbp2 fun v37 s37 e_s37 => ?_
  have h_s37 : KH s37 := by rw [← e_s37]; exact h_σ.fr fr_fX6_weigh_0 rfl rfl (lq_fX6_weigh_0 ⟨rfl, rfl⟩)
  exact h_s37
theorem knb_fX11_weight_0b10  {l1 : Int32} {l2 : Int32} {σ : ST} (h_σ : KH σ) : KNP (fX11_weight_0b10 l1 l2 σ) := by
  unfold fX11_weight_0b10
  refine knbp2 fun v12 s12 e_s12 => ?_
  have h_s12 : KH s12 := by rw [← e_s12]; exact kn_fX11_isPiece_0 h_σ
  exact knite2 (knb_fX11_weight_0b18  h_s12) (knb_fX11_weight_0b20  h_s12)
theorem knb_fX11_weight_0b0  {l1 : Int32} {l2 : Int32} {σ : ST} (h_σ : KH σ) : KNP (fX11_weight_0b0 l1 l2 σ) := by
  unfold fX11_weight_0b0
  refine knbd2 fun v4 _ => ?_
  exact knite2 (knb_fX11_weight_0b18  h_σ) (knb_fX11_weight_0b10  h_σ)
theorem kn_fX11_weight_0 {p1 : Int32} {p2 : Int32} {σ : ST} (h : KH σ) : KH (fX11_weight_0 p1 p2 σ).2 := knb_fX11_weight_0b0 h
theorem kn_fX11_forget_0 {p1 : Int32} {σ : ST} (h : KH σ) : KH (fX11_forget_0 p1 σ).2 := h.fr fr_fX11_forget_0 rfl rfl (lq_fX11_forget_0 ⟨rfl, rfl⟩)
theorem kn_fX11_truth_0 {p1 : Int32} {p2 : Int32} {p3 : Int32} {σ : ST} (h : KH σ) : KH (fX11_truth_0 p1 p2 p3 σ).2 := h.fr fr_fX11_truth_0 rfl rfl (lq_fX11_truth_0 ⟨rfl, rfl⟩)
theorem kn_fX11_word_0 {p1 : Int32} {p2 : Int32} {σ : ST} (h : KH σ) : KH (fX11_word_0 p1 p2 σ).2 := h.fr fr_fX11_word_0 rfl rfl (lq_fX11_word_0 ⟨rfl, rfl⟩)
theorem kn_fX11_clear_0 {σ : ST} (h : KH σ) : KH (fX11_clear_0 σ).2 := h.fr fr_fX11_clear_0 rfl rfl (lq_fX11_clear_0 ⟨rfl, rfl⟩)
theorem kn_fX11_type_0 {p1 : Int64} {p2 : Int32} {σ : ST} (h : KH σ) : KH (fX11_type_0 p1 p2 σ).2 := h.fr fr_fX11_type_0 rfl rfl (lq_fX11_type_0 ⟨rfl, rfl⟩)
