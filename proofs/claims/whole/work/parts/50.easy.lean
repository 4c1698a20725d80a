theorem isIn_eq {F : Nat} {a lo hi : Int32} {μ : aw_M} : f_X11_isIn F a lo hi μ = some (decide (lo ≤ a ∧ a ≤ hi), μ) := by
  unfold f_X11_isIn
  by_cases h : a < lo
  · rw [if_pos h]
    have : ¬ (lo ≤ a ∧ a ≤ hi) := by grind
    simp [this]
  · rw [if_neg h]
    by_cases h2 : hi < a
    · rw [if_pos h2]
      have : ¬ (lo ≤ a ∧ a ≤ hi) := by grind
      simp [this]
    · rw [if_neg h2]
      have : (lo ≤ a ∧ a ≤ hi) := by grind
      simp [this]
theorem p_fault : op_fault R := by
  intro F hF μ hR
  unfold okI f_X10_fault f_X11_fault
  simp only [T_some, T_g, T_bind, T_let, T_ite]
  refine ⟨?_, R_th hR⟩
  simp (disch := omega) only [rI_k]
  exact hR.2.2.1
theorem p_rows : op_rows R := by
  intro F hF a0 μ hR
  have hR' := R_th (v := 0) hR
  obtain ⟨h, hh, e1, e2⟩ := hR.2.2.2.2.2.1.1
  unfold okI f_X10_rows f_X11_rows f_X10_rows_9
  simp (disch := omega) only [isIn_eq, T_some, T_g, T_bind, T_let, T_ite, rf0, rf1, rf4, rf5, rf19, rf23, rf28, rf39, rf53, rf67, rf71, rf76, rf88, rf97, rf101, rf109, rf110, rf124, rf128, rf133, rf144, rf156, rf157, rf171, rf175, rf180, rf191, rf51, rf203, rf203b, rI_k, rI_a, e1, decide_eq_true_eq]
  rcases pk_ix a0 (n := 3) (by decide) with h0 | h0 | ⟨j, hj, rfl⟩
  · grind
  · have h0 : (3 : Int32) ≤ a0 := h0
    grind
  · rw [pI_in_t hj (by decide), nI_clamp (by omega), e2 j hj]
    have : h = 0 ∨ h = 1 := by omega
    have k1 : (0 : Int32) ≤ nI j := by simp (disch := omega) only [pI_lit, nI_leI]; omega
    have k2 : nI j ≤ (2 : Int32) := by simp (disch := omega) only [pI_lit, nI_leI]; omega
    have k3 : nI j < (3 : Int32) := by simp (disch := omega) only [pI_lit, nI_ltI]; omega
    rcases this with rfl | rfl
    · simp [nI_0]; grind
    · have : nI 1 = 1 := by decide
      simp [this]; grind
theorem p_end : op_end R := by
  intro F hF a0 μ hR
  have hR' := R_th (v := 0) hR
  obtain ⟨h1, ⟨n, B, h2, h3, h4, h5⟩, h6⟩ := R_iff.1 hR
  unfold okZ f_X10_end f_X11_end
  simp (disch := omega) only [T_some, T_g, T_bind, T_let, T_ite, rf0, rf1, rf4, rf5, rf19, rf23, rf28, rf39, rf53, rf67, rf71, rf76, rf88, rf97, rf101, rf109, rf110, rf124, rf128, rf133, rf144, rf156, rf157, rf171, rf175, rf180, rf191, rf51, rf203, rf203b, rI_k, rI_a, h3, h4]
  rcases pk_ix a0 (n := n + 1) (by omega) with h0 | h0 | ⟨j, hj, rfl⟩
  · grind
  · have : ¬ a0 < 0 := by
      have : nI 0 ≤ nI (n + 1) := by simp (disch := omega) only [nI_leI]; omega
      rw [nI_0] at this
      grind
    have : ¬ a0 ≤ nI n := by
      have : nI n < nI (n + 1) := by simp (disch := omega) only [nI_ltI]; omega
      grind
    grind
  · have k1 : ¬ nI j < (0 : Int32) := by simp (disch := omega) only [pI_lit, nI_ltI]; omega
    have k2 : nI j ≤ nI n := by simp (disch := omega) only [nI_leI]; omega
    refine ⟨fun h => absurd h k1, fun _ => ⟨fun _ => ⟨fun h => absurd h k1, fun _ => ⟨fun _ => ⟨trivial, ?_⟩, fun h => absurd k2 h⟩⟩, fun h => absurd k2 h⟩⟩
    have ag : ∀ {K : Nat → Nat → Bool}, K 1 1 = false → K 203 0 = false → K 203 2 = false → AgK K μ (aw_wI (aw_wI (aw_wI μ 1 1 (nI j)) 203 0 0) 203 2 (nI j)) := fun k1 k2 k3 => (((AgK.rf μ).wI k1).wI k2).wI k3
    refine R_iff.2 ⟨Rsc_ag (ag rfl rfl rfl) h1, ⟨j, B, by omega, ?_, ?_, ?_⟩, Rfa_ag (ag rfl rfl rfl) h6.1, Rkp_ag (ag rfl rfl rfl) h6.2.1, qPz_ag (ag rfl rfl rfl) h6.2.2.1, qK_ag (ag rfl rfl rfl) h6.2.2.2⟩
    · simp (disch := omega) only [rI_k, rI_a, rI_s]
    · simp (disch := omega) only [rI_k, rI_a, rI_s]
    · intro i hi
      simp (disch := omega) only [rI_k, rI_a, rI_s]
      exact h5 i (by omega)
