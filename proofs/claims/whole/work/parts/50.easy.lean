theorem p_fault : op_fault R := by
  intro F hF μ hR
  unfold okI f_X10_fault f_X11_fault
  simp only [T_some, T_g, T_bind, T_let, T_ite]
  refine ⟨?_, R_th hR⟩
  simp (disch := omega) only [rI_k]
  exact hR.2.2.1
theorem p_rows : op_rows R := by
  intro F hF a0 μ hR
  have hR' := R_th (v := 0) hR
  obtain ⟨h, hh, e1, e2⟩ := hR.2.2.2.2.2.1.1
  unfold okI f_X10_rows f_X11_rows f_X10_rows_9 f_X11_isIn
  simp (disch := omega) only [T_some, T_g, T_bind, T_let, T_ite, rf0, rf1, rf4, rf5, rf19, rf23, rf28, rf39, rf53, rf67, rf71, rf76, rf88, rf97, rf101, rf109, rf110, rf124, rf128, rf133, rf144, rf156, rf157, rf171, rf175, rf180, rf191, rf51, rf203, rf203b, rI_k, rI_a, e1]
  rcases pk_ix a0 (n := 3) (by decide) with h0 | h0 | ⟨j, hj, rfl⟩
  · grind
  · have h0 : (3 : Int32) ≤ a0 := h0
    grind
  · rw [pI_in_t hj (by decide), nI_clamp (by omega), e2 j hj]
    have : h = 0 ∨ h = 1 := by omega
    rcases this with rfl | rfl
    · simp [nI_0]; grind
    · sorry
