/-! the calls of the law, one by one -/
section P64
variable {G : Ge} {μ : Mm} {K : Int32 → Mm → Prop} {i : Nat}
theorem vpi {k : Nat} (hL : gL G ≤ 3072) (hi : i + k < gL G) : vp_in (nI i + nI k) (gL G) := by
  rw [nI_add]
  exact in_nI hi (by omega)
theorem l_212 (hL : gL G ≤ 3072) (hi : i + 6 ≤ gL G) (ok : Ok G μ) (hK : ∀ μ1, Ok G μ1 → SS G m_La_law 1298 [vr 57 0, vr 6 0, vr 7 0, vi (nI i)] [] μ1 (RI K)) : SS G m_La_law 212 [vr 57 0, vr 6 0, vr 7 0, vi (nI i)] [] μ (RI K) := by
  have v1 : vp_in (nI i + 1) (gL G) := vpi (k := 1) hL (by omega)
  have v2 : vp_in (nI i + 2) (gL G) := vpi (k := 2) hL (by omega)
  refine b_La_law_212 _ ?_
  simp only [v1, v2, true_and]
  exact two_row _ _ _ _ ok fun v μ1 ok1 => iT rfl (hK μ1 ok1)
theorem l_245 (hL : gL G ≤ 3072) (hi : i + 6 ≤ gL G) (ok : Ok G μ) (hK : ∀ μ1, Ok G μ1 → SS G m_La_law 1298 [vr 57 0, vr 6 0, vr 7 0, vi (nI i)] [] μ1 (RI K)) : SS G m_La_law 245 [vr 57 0, vr 6 0, vr 7 0, vi (nI i)] [] μ (RI K) := by
  have v1 : vp_in (nI i + 1) (gL G) := vpi (k := 1) hL (by omega)
  have v2 : vp_in (nI i + 2) (gL G) := vpi (k := 2) hL (by omega)
  have v3 : vp_in (nI i + 3) (gL G) := vpi (k := 3) hL (by omega)
  refine b_La_law_245 _ ?_
  simp only [v1, v2, v3, true_and]
  exact two_lay _ _ _ _ _ ok fun v μ1 ok1 => iT rfl (hK μ1 ok1)
theorem l_288 (hL : gL G ≤ 3072) (hi : i + 6 ≤ gL G) (ok : Ok G μ) (hK : ∀ μ1, Ok G μ1 → SS G m_La_law 1298 [vr 57 0, vr 6 0, vr 7 0, vi (nI i)] [] μ1 (RI K)) : SS G m_La_law 288 [vr 57 0, vr 6 0, vr 7 0, vi (nI i)] [] μ (RI K) := by
  have v1 : vp_in (nI i + 1) (gL G) := vpi (k := 1) hL (by omega)
  have v2 : vp_in (nI i + 2) (gL G) := vpi (k := 2) hL (by omega)
  refine b_La_law_288 _ ?_
  simp only [v1, v2, true_and]
  exact two_at _ _ _ _ ok fun v μ1 ok1 => iT rfl (hK μ1 ok1)
theorem l_321 (hL : gL G ≤ 3072) (hi : i + 6 ≤ gL G) (ok : Ok G μ) (hK : ∀ μ1, Ok G μ1 → SS G m_La_law 1298 [vr 57 0, vr 6 0, vr 7 0, vi (nI i)] [] μ1 (RI K)) : SS G m_La_law 321 [vr 57 0, vr 6 0, vr 7 0, vi (nI i)] [] μ (RI K) := by
  have v1 : vp_in (nI i + 1) (gL G) := vpi (k := 1) hL (by omega)
  refine b_La_law_321 _ ?_
  simp only [v1, true_and]
  exact two_tear _ _ _ ok fun v μ1 ok1 => iT rfl (hK μ1 ok1)
theorem l_344 (hL : gL G ≤ 3072) (hi : i + 6 ≤ gL G) (ok : Ok G μ) (hK : ∀ μ1, Ok G μ1 → SS G m_La_law 1298 [vr 57 0, vr 6 0, vr 7 0, vi (nI i)] [] μ1 (RI K)) : SS G m_La_law 344 [vr 57 0, vr 6 0, vr 7 0, vi (nI i)] [] μ (RI K) := by
  have v1 : vp_in (nI i + 1) (gL G) := vpi (k := 1) hL (by omega)
  have v2 : vp_in (nI i + 2) (gL G) := vpi (k := 2) hL (by omega)
  have v3 : vp_in (nI i + 3) (gL G) := vpi (k := 3) hL (by omega)
  have v4 : vp_in (nI i + 4) (gL G) := vpi (k := 4) hL (by omega)
  have v5 : vp_in (nI i + 5) (gL G) := vpi (k := 5) hL (by omega)
  refine b_La_law_344 _ ?_
  simp only [v1, v2, v3, v4, v5, true_and]
  exact two_copy _ _ _ _ _ _ _ ok fun v μ1 ok1 => iT rfl (hK μ1 ok1)
theorem l_407 (hL : gL G ≤ 3072) (hi : i + 6 ≤ gL G) (ok : Ok G μ) (hK : ∀ μ1, Ok G μ1 → SS G m_La_law 1298 [vr 57 0, vr 6 0, vr 7 0, vi (nI i)] [] μ1 (RI K)) : SS G m_La_law 407 [vr 57 0, vr 6 0, vr 7 0, vi (nI i)] [] μ (RI K) := by
  have v1 : vp_in (nI i + 1) (gL G) := vpi (k := 1) hL (by omega)
  refine b_La_law_407 _ ?_
  simp only [v1, true_and]
  exact two_mean _ _ _ ok fun v μ1 ok1 => iT rfl (hK μ1 ok1)
theorem l_430 (hL : gL G ≤ 3072) (hi : i + 6 ≤ gL G) (ok : Ok G μ) (hK : ∀ μ1, Ok G μ1 → SS G m_La_law 1298 [vr 57 0, vr 6 0, vr 7 0, vi (nI i)] [] μ1 (RI K)) : SS G m_La_law 430 [vr 57 0, vr 6 0, vr 7 0, vi (nI i)] [] μ (RI K) := by
  have v1 : vp_in (nI i + 1) (gL G) := vpi (k := 1) hL (by omega)
  have v2 : vp_in (nI i + 2) (gL G) := vpi (k := 2) hL (by omega)
  refine b_La_law_430 _ ?_
  simp only [v1, v2, true_and]
  exact two_text _ _ _ _ ok fun v μ1 ok1 => iT rfl (hK μ1 ok1)
theorem l_463 (hL : gL G ≤ 3072) (hi : i + 6 ≤ gL G) (ok : Ok G μ) (hK : ∀ μ1, Ok G μ1 → SS G m_La_law 1298 [vr 57 0, vr 6 0, vr 7 0, vi (nI i)] [] μ1 (RI K)) : SS G m_La_law 463 [vr 57 0, vr 6 0, vr 7 0, vi (nI i)] [] μ (RI K) := by
  have v1 : vp_in (nI i + 1) (gL G) := vpi (k := 1) hL (by omega)
  have v2 : vp_in (nI i + 2) (gL G) := vpi (k := 2) hL (by omega)
  have v3 : vp_in (nI i + 3) (gL G) := vpi (k := 3) hL (by omega)
  refine b_La_law_463 _ ?_
  simp only [v1, v2, v3, true_and]
  exact two_put _ _ _ _ _ ok fun v μ1 ok1 => iT rfl (hK μ1 ok1)
theorem l_506 (hL : gL G ≤ 3072) (hi : i + 6 ≤ gL G) (ok : Ok G μ) (hK : ∀ μ1, Ok G μ1 → SS G m_La_law 1298 [vr 57 0, vr 6 0, vr 7 0, vi (nI i)] [] μ1 (RI K)) : SS G m_La_law 506 [vr 57 0, vr 6 0, vr 7 0, vi (nI i)] [] μ (RI K) := by
  have v1 : vp_in (nI i + 1) (gL G) := vpi (k := 1) hL (by omega)
  refine b_La_law_506 _ ?_
  simp only [v1, true_and]
  exact two_fault _ _ _ ok fun v μ1 ok1 => iT rfl (hK μ1 ok1)
theorem l_529 (hL : gL G ≤ 3072) (hi : i + 6 ≤ gL G) (ok : Ok G μ) (hK : ∀ μ1, Ok G μ1 → SS G m_La_law 1298 [vr 57 0, vr 6 0, vr 7 0, vi (nI i)] [] μ1 (RI K)) : SS G m_La_law 529 [vr 57 0, vr 6 0, vr 7 0, vi (nI i)] [] μ (RI K) := by
  have v1 : vp_in (nI i + 1) (gL G) := vpi (k := 1) hL (by omega)
  refine b_La_law_529 _ ?_
  simp only [v1, true_and]
  exact two_street _ _ _ ok fun v μ1 ok1 => iT rfl (hK μ1 ok1)
theorem l_552 (hL : gL G ≤ 3072) (hi : i + 6 ≤ gL G) (ok : Ok G μ) (hK : ∀ μ1, Ok G μ1 → SS G m_La_law 1298 [vr 57 0, vr 6 0, vr 7 0, vi (nI i)] [] μ1 (RI K)) : SS G m_La_law 552 [vr 57 0, vr 6 0, vr 7 0, vi (nI i)] [] μ (RI K) := by
  have v1 : vp_in (nI i + 1) (gL G) := vpi (k := 1) hL (by omega)
  have v2 : vp_in (nI i + 2) (gL G) := vpi (k := 2) hL (by omega)
  refine b_La_law_552 _ ?_
  simp only [v1, v2, true_and]
  exact two_house _ _ _ _ ok fun v μ1 ok1 => iT rfl (hK μ1 ok1)
theorem l_585 (hL : gL G ≤ 3072) (hi : i + 6 ≤ gL G) (ok : Ok G μ) (hK : ∀ μ1, Ok G μ1 → SS G m_La_law 1298 [vr 57 0, vr 6 0, vr 7 0, vi (nI i)] [] μ1 (RI K)) : SS G m_La_law 585 [vr 57 0, vr 6 0, vr 7 0, vi (nI i)] [] μ (RI K) := by
  have v1 : vp_in (nI i + 1) (gL G) := vpi (k := 1) hL (by omega)
  refine b_La_law_585 _ ?_
  simp only [v1, true_and]
  exact two_cold _ _ _ ok fun v μ1 ok1 => iT rfl (hK μ1 ok1)
theorem l_608 (hL : gL G ≤ 3072) (hi : i + 6 ≤ gL G) (ok : Ok G μ) (hK : ∀ μ1, Ok G μ1 → SS G m_La_law 1298 [vr 57 0, vr 6 0, vr 7 0, vi (nI i)] [] μ1 (RI K)) : SS G m_La_law 608 [vr 57 0, vr 6 0, vr 7 0, vi (nI i)] [] μ (RI K) := by
  have v1 : vp_in (nI i + 1) (gL G) := vpi (k := 1) hL (by omega)
  have v2 : vp_in (nI i + 2) (gL G) := vpi (k := 2) hL (by omega)
  refine b_La_law_608 _ ?_
  simp only [v1, v2, true_and]
  exact two_mark _ _ _ _ ok fun v μ1 ok1 => iT rfl (hK μ1 ok1)
theorem l_641 (hL : gL G ≤ 3072) (hi : i + 6 ≤ gL G) (ok : Ok G μ) (hK : ∀ μ1, Ok G μ1 → SS G m_La_law 1298 [vr 57 0, vr 6 0, vr 7 0, vi (nI i)] [] μ1 (RI K)) : SS G m_La_law 641 [vr 57 0, vr 6 0, vr 7 0, vi (nI i)] [] μ (RI K) := by
  have v1 : vp_in (nI i + 1) (gL G) := vpi (k := 1) hL (by omega)
  have v2 : vp_in (nI i + 2) (gL G) := vpi (k := 2) hL (by omega)
  refine b_La_law_641 _ ?_
  simp only [v1, v2, true_and]
  exact two_wind _ _ _ _ ok fun v μ1 ok1 => iT rfl (hK μ1 ok1)
theorem l_674 (hL : gL G ≤ 3072) (hi : i + 6 ≤ gL G) (ok : Ok G μ) (hK : ∀ μ1, Ok G μ1 → SS G m_La_law 1298 [vr 57 0, vr 6 0, vr 7 0, vi (nI i)] [] μ1 (RI K)) : SS G m_La_law 674 [vr 57 0, vr 6 0, vr 7 0, vi (nI i)] [] μ (RI K) := by
  have v1 : vp_in (nI i + 1) (gL G) := vpi (k := 1) hL (by omega)
  have v2 : vp_in (nI i + 2) (gL G) := vpi (k := 2) hL (by omega)
  refine b_La_law_674 _ ?_
  simp only [v1, v2, true_and]
  exact two_bear _ _ _ _ ok fun v μ1 ok1 => iT rfl (hK μ1 ok1)
theorem l_707 (hL : gL G ≤ 3072) (hi : i + 6 ≤ gL G) (ok : Ok G μ) (hK : ∀ μ1, Ok G μ1 → SS G m_La_law 1298 [vr 57 0, vr 6 0, vr 7 0, vi (nI i)] [] μ1 (RI K)) : SS G m_La_law 707 [vr 57 0, vr 6 0, vr 7 0, vi (nI i)] [] μ (RI K) := by
  have v1 : vp_in (nI i + 1) (gL G) := vpi (k := 1) hL (by omega)
  have v2 : vp_in (nI i + 2) (gL G) := vpi (k := 2) hL (by omega)
  have v3 : vp_in (nI i + 3) (gL G) := vpi (k := 3) hL (by omega)
  refine b_La_law_707 _ ?_
  simp only [v1, v2, v3, true_and]
  exact two_sell _ _ _ _ _ ok fun v μ1 ok1 => iT rfl (hK μ1 ok1)
theorem l_750 (hL : gL G ≤ 3072) (hi : i + 6 ≤ gL G) (ok : Ok G μ) (hK : ∀ μ1, Ok G μ1 → SS G m_La_law 1298 [vr 57 0, vr 6 0, vr 7 0, vi (nI i)] [] μ1 (RI K)) : SS G m_La_law 750 [vr 57 0, vr 6 0, vr 7 0, vi (nI i)] [] μ (RI K) := by
  refine b_La_law_750 _ ?_
  exact two_night _ _ ok fun v μ1 ok1 => iT rfl (hK μ1 ok1)
theorem l_763 (hL : gL G ≤ 3072) (hi : i + 6 ≤ gL G) (ok : Ok G μ) (hK : ∀ μ1, Ok G μ1 → SS G m_La_law 1298 [vr 57 0, vr 6 0, vr 7 0, vi (nI i)] [] μ1 (RI K)) : SS G m_La_law 763 [vr 57 0, vr 6 0, vr 7 0, vi (nI i)] [] μ (RI K) := by
  have v1 : vp_in (nI i + 1) (gL G) := vpi (k := 1) hL (by omega)
  refine b_La_law_763 _ ?_
  simp only [v1, true_and]
  exact two_undo _ _ _ ok fun v μ1 ok1 => iT rfl (hK μ1 ok1)
theorem l_786 (hL : gL G ≤ 3072) (hi : i + 6 ≤ gL G) (ok : Ok G μ) (hK : ∀ μ1, Ok G μ1 → SS G m_La_law 1298 [vr 57 0, vr 6 0, vr 7 0, vi (nI i)] [] μ1 (RI K)) : SS G m_La_law 786 [vr 57 0, vr 6 0, vr 7 0, vi (nI i)] [] μ (RI K) := by
  have v1 : vp_in (nI i + 1) (gL G) := vpi (k := 1) hL (by omega)
  refine b_La_law_786 _ ?_
  simp only [v1, true_and]
  exact two_keep _ _ _ ok fun v μ1 ok1 => iT rfl (hK μ1 ok1)
theorem l_809 (hL : gL G ≤ 3072) (hi : i + 6 ≤ gL G) (ok : Ok G μ) (hK : ∀ μ1, Ok G μ1 → SS G m_La_law 1298 [vr 57 0, vr 6 0, vr 7 0, vi (nI i)] [] μ1 (RI K)) : SS G m_La_law 809 [vr 57 0, vr 6 0, vr 7 0, vi (nI i)] [] μ (RI K) := by
  have v1 : vp_in (nI i + 1) (gL G) := vpi (k := 1) hL (by omega)
  refine b_La_law_809 _ ?_
  simp only [v1, true_and]
  exact two_on _ _ _ ok fun v μ1 ok1 => iT rfl (hK μ1 ok1)
theorem l_832 (hL : gL G ≤ 3072) (hi : i + 6 ≤ gL G) (ok : Ok G μ) (hK : ∀ μ1, Ok G μ1 → SS G m_La_law 1298 [vr 57 0, vr 6 0, vr 7 0, vi (nI i)] [] μ1 (RI K)) : SS G m_La_law 832 [vr 57 0, vr 6 0, vr 7 0, vi (nI i)] [] μ (RI K) := by
  have v1 : vp_in (nI i + 1) (gL G) := vpi (k := 1) hL (by omega)
  have v2 : vp_in (nI i + 2) (gL G) := vpi (k := 2) hL (by omega)
  refine b_La_law_832 _ ?_
  simp only [v1, v2, true_and]
  exact two_hurt _ _ _ _ ok fun v μ1 ok1 => iT rfl (hK μ1 ok1)
theorem l_865 (hL : gL G ≤ 3072) (hi : i + 6 ≤ gL G) (ok : Ok G μ) (hK : ∀ μ1, Ok G μ1 → SS G m_La_law 1298 [vr 57 0, vr 6 0, vr 7 0, vi (nI i)] [] μ1 (RI K)) : SS G m_La_law 865 [vr 57 0, vr 6 0, vr 7 0, vi (nI i)] [] μ (RI K) := by
  have v1 : vp_in (nI i + 1) (gL G) := vpi (k := 1) hL (by omega)
  refine b_La_law_865 _ ?_
  simp only [v1, true_and]
  exact two_most _ _ _ ok fun v μ1 ok1 => iT rfl (hK μ1 ok1)
theorem l_888 (hL : gL G ≤ 3072) (hi : i + 6 ≤ gL G) (ok : Ok G μ) (hK : ∀ μ1, Ok G μ1 → SS G m_La_law 1298 [vr 57 0, vr 6 0, vr 7 0, vi (nI i)] [] μ1 (RI K)) : SS G m_La_law 888 [vr 57 0, vr 6 0, vr 7 0, vi (nI i)] [] μ (RI K) := by
  have v1 : vp_in (nI i + 1) (gL G) := vpi (k := 1) hL (by omega)
  have v2 : vp_in (nI i + 2) (gL G) := vpi (k := 2) hL (by omega)
  refine b_La_law_888 _ ?_
  simp only [v1, v2, true_and]
  exact two_least _ _ _ _ ok fun v μ1 ok1 => iT rfl (hK μ1 ok1)
theorem l_921 (hL : gL G ≤ 3072) (hi : i + 6 ≤ gL G) (ok : Ok G μ) (hK : ∀ μ1, Ok G μ1 → SS G m_La_law 1298 [vr 57 0, vr 6 0, vr 7 0, vi (nI i)] [] μ1 (RI K)) : SS G m_La_law 921 [vr 57 0, vr 6 0, vr 7 0, vi (nI i)] [] μ (RI K) := by
  have v1 : vp_in (nI i + 1) (gL G) := vpi (k := 1) hL (by omega)
  refine b_La_law_921 _ ?_
  simp only [v1, true_and]
  exact two_price _ _ _ ok fun v μ1 ok1 => iT rfl (hK μ1 ok1)
theorem l_944 (hL : gL G ≤ 3072) (hi : i + 6 ≤ gL G) (ok : Ok G μ) (hK : ∀ μ1, Ok G μ1 → SS G m_La_law 1298 [vr 57 0, vr 6 0, vr 7 0, vi (nI i)] [] μ1 (RI K)) : SS G m_La_law 944 [vr 57 0, vr 6 0, vr 7 0, vi (nI i)] [] μ (RI K) := by
  refine b_La_law_944 _ ?_
  exact two_late _ _ ok fun v μ1 ok1 => iT rfl (hK μ1 ok1)
theorem l_957 (hL : gL G ≤ 3072) (hi : i + 6 ≤ gL G) (ok : Ok G μ) (hK : ∀ μ1, Ok G μ1 → SS G m_La_law 1298 [vr 57 0, vr 6 0, vr 7 0, vi (nI i)] [] μ1 (RI K)) : SS G m_La_law 957 [vr 57 0, vr 6 0, vr 7 0, vi (nI i)] [] μ (RI K) := by
  have v1 : vp_in (nI i + 1) (gL G) := vpi (k := 1) hL (by omega)
  have v2 : vp_in (nI i + 2) (gL G) := vpi (k := 2) hL (by omega)
  refine b_La_law_957 _ ?_
  simp only [v1, v2, true_and]
  exact two_gain _ _ _ _ ok fun v μ1 ok1 => iT rfl (hK μ1 ok1)
theorem l_990 (hL : gL G ≤ 3072) (hi : i + 6 ≤ gL G) (ok : Ok G μ) (hK : ∀ μ1, Ok G μ1 → SS G m_La_law 1298 [vr 57 0, vr 6 0, vr 7 0, vi (nI i)] [] μ1 (RI K)) : SS G m_La_law 990 [vr 57 0, vr 6 0, vr 7 0, vi (nI i)] [] μ (RI K) := by
  refine b_La_law_990 _ ?_
  exact two_sales _ _ ok fun v μ1 ok1 => iT rfl (hK μ1 ok1)
theorem l_1003 (hL : gL G ≤ 3072) (hi : i + 6 ≤ gL G) (ok : Ok G μ) (hK : ∀ μ1, Ok G μ1 → SS G m_La_law 1298 [vr 57 0, vr 6 0, vr 7 0, vi (nI i)] [] μ1 (RI K)) : SS G m_La_law 1003 [vr 57 0, vr 6 0, vr 7 0, vi (nI i)] [] μ (RI K) := by
  have v1 : vp_in (nI i + 1) (gL G) := vpi (k := 1) hL (by omega)
  refine b_La_law_1003 _ ?_
  simp only [v1, true_and]
  exact two_share _ _ _ ok fun v μ1 ok1 => iT rfl (hK μ1 ok1)
theorem l_1026 (hL : gL G ≤ 3072) (hi : i + 6 ≤ gL G) (ok : Ok G μ) (hK : ∀ μ1, Ok G μ1 → SS G m_La_law 1298 [vr 57 0, vr 6 0, vr 7 0, vi (nI i)] [] μ1 (RI K)) : SS G m_La_law 1026 [vr 57 0, vr 6 0, vr 7 0, vi (nI i)] [] μ (RI K) := by
  have v1 : vp_in (nI i + 1) (gL G) := vpi (k := 1) hL (by omega)
  refine b_La_law_1026 _ ?_
  simp only [v1, true_and]
  exact two_saves _ _ _ ok fun v μ1 ok1 => iT rfl (hK μ1 ok1)
theorem l_1049 (hL : gL G ≤ 3072) (hi : i + 6 ≤ gL G) (ok : Ok G μ) (hK : ∀ μ1, Ok G μ1 → SS G m_La_law 1298 [vr 57 0, vr 6 0, vr 7 0, vi (nI i)] [] μ1 (RI K)) : SS G m_La_law 1049 [vr 57 0, vr 6 0, vr 7 0, vi (nI i)] [] μ (RI K) := by
  have v1 : vp_in (nI i + 1) (gL G) := vpi (k := 1) hL (by omega)
  refine b_La_law_1049 _ ?_
  simp only [v1, true_and]
  exact two_part _ _ _ ok fun v μ1 ok1 => iT rfl (hK μ1 ok1)
theorem l_1072 (hL : gL G ≤ 3072) (hi : i + 6 ≤ gL G) (ok : Ok G μ) (hK : ∀ μ1, Ok G μ1 → SS G m_La_law 1298 [vr 57 0, vr 6 0, vr 7 0, vi (nI i)] [] μ1 (RI K)) : SS G m_La_law 1072 [vr 57 0, vr 6 0, vr 7 0, vi (nI i)] [] μ (RI K) := by
  have v1 : vp_in (nI i + 1) (gL G) := vpi (k := 1) hL (by omega)
  have v2 : vp_in (nI i + 2) (gL G) := vpi (k := 2) hL (by omega)
  refine b_La_law_1072 _ ?_
  simp only [v1, v2, true_and]
  exact two_ice _ _ _ _ ok fun v μ1 ok1 => iT rfl (hK μ1 ok1)
theorem l_1105 (hL : gL G ≤ 3072) (hi : i + 6 ≤ gL G) (ok : Ok G μ) (hK : ∀ μ1, Ok G μ1 → SS G m_La_law 1298 [vr 57 0, vr 6 0, vr 7 0, vi (nI i)] [] μ1 (RI K)) : SS G m_La_law 1105 [vr 57 0, vr 6 0, vr 7 0, vi (nI i)] [] μ (RI K) := by
  have v1 : vp_in (nI i + 1) (gL G) := vpi (k := 1) hL (by omega)
  refine b_La_law_1105 _ ?_
  simp only [v1, true_and]
  exact two_odds _ _ _ ok fun v μ1 ok1 => iT rfl (hK μ1 ok1)
theorem l_1128 (hL : gL G ≤ 3072) (hi : i + 6 ≤ gL G) (ok : Ok G μ) (hK : ∀ μ1, Ok G μ1 → SS G m_La_law 1298 [vr 57 0, vr 6 0, vr 7 0, vi (nI i)] [] μ1 (RI K)) : SS G m_La_law 1128 [vr 57 0, vr 6 0, vr 7 0, vi (nI i)] [] μ (RI K) := by
  have v1 : vp_in (nI i + 1) (gL G) := vpi (k := 1) hL (by omega)
  refine b_La_law_1128 _ ?_
  simp only [v1, true_and]
  exact two_risk _ _ _ ok fun v μ1 ok1 => iT rfl (hK μ1 ok1)
theorem l_1151 (hL : gL G ≤ 3072) (hi : i + 6 ≤ gL G) (ok : Ok G μ) (hK : ∀ μ1, Ok G μ1 → SS G m_La_law 1298 [vr 57 0, vr 6 0, vr 7 0, vi (nI i)] [] μ1 (RI K)) : SS G m_La_law 1151 [vr 57 0, vr 6 0, vr 7 0, vi (nI i)] [] μ (RI K) := by
  have v1 : vp_in (nI i + 1) (gL G) := vpi (k := 1) hL (by omega)
  have v2 : vp_in (nI i + 2) (gL G) := vpi (k := 2) hL (by omega)
  refine b_La_law_1151 _ ?_
  simp only [v1, v2, true_and]
  exact two_lots _ _ _ _ ok fun v μ1 ok1 => iT rfl (hK μ1 ok1)
theorem l_1184 (hL : gL G ≤ 3072) (hi : i + 6 ≤ gL G) (ok : Ok G μ) (hK : ∀ μ1, Ok G μ1 → SS G m_La_law 1298 [vr 57 0, vr 6 0, vr 7 0, vi (nI i)] [] μ1 (RI K)) : SS G m_La_law 1184 [vr 57 0, vr 6 0, vr 7 0, vi (nI i)] [] μ (RI K) := by
  refine b_La_law_1184 _ ?_
  exact two_asked _ _ ok fun v μ1 ok1 => iT rfl (hK μ1 ok1)
theorem l_1197 (hL : gL G ≤ 3072) (hi : i + 6 ≤ gL G) (ok : Ok G μ) (hK : ∀ μ1, Ok G μ1 → SS G m_La_law 1298 [vr 57 0, vr 6 0, vr 7 0, vi (nI i)] [] μ1 (RI K)) : SS G m_La_law 1197 [vr 57 0, vr 6 0, vr 7 0, vi (nI i)] [] μ (RI K) := by
  refine b_La_law_1197 _ ?_
  exact two_upper _ _ ok fun v μ1 ok1 => iT ((lg_cmp_eq _ _).mpr rfl) (hK μ1 ok1)
theorem l_1211 (hL : gL G ≤ 3072) (hi : i + 6 ≤ gL G) (ok : Ok G μ) (hK : ∀ μ1, Ok G μ1 → SS G m_La_law 1298 [vr 57 0, vr 6 0, vr 7 0, vi (nI i)] [] μ1 (RI K)) : SS G m_La_law 1211 [vr 57 0, vr 6 0, vr 7 0, vi (nI i)] [] μ (RI K) := by
  refine b_La_law_1211 _ ?_
  exact two_lower _ _ ok fun v μ1 ok1 => iT ((lg_cmp_eq _ _).mpr rfl) (hK μ1 ok1)
theorem l_1225 (hL : gL G ≤ 3072) (hi : i + 6 ≤ gL G) (ok : Ok G μ) (hK : ∀ μ1, Ok G μ1 → SS G m_La_law 1298 [vr 57 0, vr 6 0, vr 7 0, vi (nI i)] [] μ1 (RI K)) : SS G m_La_law 1225 [vr 57 0, vr 6 0, vr 7 0, vi (nI i)] [] μ (RI K) := by
  have v1 : vp_in (nI i + 1) (gL G) := vpi (k := 1) hL (by omega)
  refine b_La_law_1225 _ ?_
  simp only [v1, true_and]
  exact two_count _ _ _ ok fun v μ1 ok1 => iT rfl (hK μ1 ok1)
theorem l_1248 (hL : gL G ≤ 3072) (hi : i + 6 ≤ gL G) (ok : Ok G μ) (hK : ∀ μ1, Ok G μ1 → SS G m_La_law 1298 [vr 57 0, vr 6 0, vr 7 0, vi (nI i)] [] μ1 (RI K)) : SS G m_La_law 1248 [vr 57 0, vr 6 0, vr 7 0, vi (nI i)] [] μ (RI K) := by
  refine b_La_law_1248 _ ?_
  exact two_finding _ _ ok fun v μ1 ok1 => iT rfl (hK μ1 ok1)
theorem l_1261 (hL : gL G ≤ 3072) (hi : i + 6 ≤ gL G) (ok : Ok G μ) (hK : ∀ μ1, Ok G μ1 → SS G m_La_law 1298 [vr 57 0, vr 6 0, vr 7 0, vi (nI i)] [] μ1 (RI K)) : SS G m_La_law 1261 [vr 57 0, vr 6 0, vr 7 0, vi (nI i)] [] μ (RI K) := by
  have v1 : vp_in (nI i + 1) (gL G) := vpi (k := 1) hL (by omega)
  refine b_La_law_1261 _ ?_
  simp only [v1, true_and]
  exact two_findings _ _ _ ok fun v μ1 ok1 => iT rfl (hK μ1 ok1)
theorem l_1284 (hL : gL G ≤ 3072) (hi : i + 6 ≤ gL G) (ok : Ok G μ) (hK : ∀ μ1, Ok G μ1 → SS G m_La_law 1298 [vr 57 0, vr 6 0, vr 7 0, vi (nI i)] [] μ1 (RI K)) : SS G m_La_law 1284 [vr 57 0, vr 6 0, vr 7 0, vi (nI i)] [] μ (RI K) := by
  refine b_La_law_1284 _ ?_
  exact two_digest _ _ ok fun v μ1 ok1 => iT ((lg_cmp_eq _ _).mpr rfl) (hK μ1 ok1)
theorem law18 (hL : gL G ≤ 3072) : ∀ (n : Nat) {i : Nat} {μ : Mm}, gL G ≤ i + n → i ≤ 4000 → Ok G μ → SS G m_La_law 18 [vr 57 0, vr 6 0, vr 7 0, vi (nI i)] [] μ (RI fun v _ => v = 1)
  | n, i, μ, e, hi4, ok => by
    refine b_La_law_18 _ (iB (fun _ => ⟨z01, rfl⟩) fun z => ?_)
    have hi : i + 6 ≤ gL G := by
      rw [Int32.lt_iff_toInt_lt, show nI (gL G) - 6 = nI (gL G) - nI 6 from rfl, sub_toInt (by omega) (by decide), nI_toInt (by omega)] at z
      omega
    cases n with
    | zero => omega
    | succ n =>
      have hK : ∀ μ1, Ok G μ1 → SS G m_La_law 1298 [vr 57 0, vr 6 0, vr 7 0, vi (nI i)] [] μ1 (RI fun v _ => v = 1) := by
        intro μ1 ok1
        refine b_La_law_1298 _ ?_
        rw [show nI i + 6 = nI (i + 6) from nI_add i 6]
        exact law18 hL n (by omega) (by omega) ok1
      refine ⟨in_nI (by omega) (by omega), ?_⟩
      exact iB (fun _ => l_212 hL hi ok hK) fun _ => iB (fun _ => l_245 hL hi ok hK) fun _ => iB (fun _ => l_288 hL hi ok hK) fun _ => iB (fun _ => l_321 hL hi ok hK) fun _ => iB (fun _ => l_344 hL hi ok hK) fun _ => iB (fun _ => l_407 hL hi ok hK) fun _ => iB (fun _ => l_430 hL hi ok hK) fun _ => iB (fun _ => l_463 hL hi ok hK) fun _ => iB (fun _ => l_506 hL hi ok hK) fun _ => iB (fun _ => l_529 hL hi ok hK) fun _ => iB (fun _ => l_552 hL hi ok hK) fun _ => iB (fun _ => l_585 hL hi ok hK) fun _ => iB (fun _ => l_608 hL hi ok hK) fun _ => iB (fun _ => l_641 hL hi ok hK) fun _ => iB (fun _ => l_674 hL hi ok hK) fun _ => iB (fun _ => l_707 hL hi ok hK) fun _ => iB (fun _ => l_750 hL hi ok hK) fun _ => iB (fun _ => l_763 hL hi ok hK) fun _ => iB (fun _ => l_786 hL hi ok hK) fun _ => iB (fun _ => l_809 hL hi ok hK) fun _ => iB (fun _ => l_832 hL hi ok hK) fun _ => iB (fun _ => l_865 hL hi ok hK) fun _ => iB (fun _ => l_888 hL hi ok hK) fun _ => iB (fun _ => l_921 hL hi ok hK) fun _ => iB (fun _ => l_944 hL hi ok hK) fun _ => iB (fun _ => l_957 hL hi ok hK) fun _ => iB (fun _ => l_990 hL hi ok hK) fun _ => iB (fun _ => l_1003 hL hi ok hK) fun _ => iB (fun _ => l_1026 hL hi ok hK) fun _ => iB (fun _ => l_1049 hL hi ok hK) fun _ => iB (fun _ => l_1072 hL hi ok hK) fun _ => iB (fun _ => l_1105 hL hi ok hK) fun _ => iB (fun _ => l_1128 hL hi ok hK) fun _ => iB (fun _ => l_1151 hL hi ok hK) fun _ => iB (fun _ => l_1184 hL hi ok hK) fun _ => iB (fun _ => l_1197 hL hi ok hK) fun _ => iB (fun _ => l_1211 hL hi ok hK) fun _ => iB (fun _ => l_1225 hL hi ok hK) fun _ => iB (fun _ => l_1248 hL hi ok hK) fun _ => iB (fun _ => l_1261 hL hi ok hK) fun _ => iB (fun _ => l_1284 hL hi ok hK) fun _ => hK μ ok
end P64
