theorem nI_b {j n : Nat} (h : j < n) (hn : n < 2 ^ 31) : 0 ≤ nI j ∧ nI j < nI n ∧ nI j ≤ nI n - 1 := by
  have h1 : nI 0 ≤ nI j := by simp (disch := omega) only [nI_leI]; omega
  have h2 : nI j < nI n := by simp (disch := omega) only [nI_ltI]; omega
  have h3 : nI 0 = 0 := by decide
  grind
theorem p_held : op_held R := by
  intro F hF a0 μ hR
  have hR' := R_th (v := 0) hR
  obtain ⟨n, hn, e1, e2, e3⟩ := hR.2.2.2.2.2.1.2.1
  unfold okI f_X10_held f_X11_held f_X7_lawAt f_X7_lawAt_18
  simp (disch := omega) only [isIn_eq, T_some, T_g, T_bind, T_let, T_ite, rf0, rf1, rf4, rf5, rf19, rf23, rf28, rf39, rf53, rf67, rf71, rf76, rf88, rf97, rf101, rf109, rf110, rf124, rf128, rf133, rf144, rf156, rf157, rf171, rf175, rf180, rf191, rf51, rf203, rf203b, rI_k, rI_a, e1, e2, decide_eq_true_eq]
  rcases pk_ix a0 (n := min n 100) (by omega) with h0 | h0 | ⟨j, hj, rfl⟩
  · grind
  · have h1 : nI n ≤ a0 ∨ nI 100 ≤ a0 := by
      rcases Nat.le_total n 100 with h | h
      · rw [Nat.min_eq_left h] at h0; exact .inl h0
      · rw [Nat.min_eq_right h] at h0; exact .inr h0
    have h2 : ¬ a0 < 0 := by
      have : nI 0 ≤ nI (min n 100) := by simp (disch := omega) only [nI_leI]; omega
      rw [nI_0] at this
      grind
    have h3 : ¬ a0 ≤ nI (min n 100) - 1 := by
      have : nI 0 ≤ nI (min n 100) := by simp (disch := omega) only [nI_leI]; omega
      rw [nI_0] at this
      grind
    have h4 : nI 100 = 100 := by decide
    grind
  · obtain ⟨k1, k2, k3⟩ := nI_b hj (by omega)
    have k4 : nI j < nI n := by simp (disch := omega) only [nI_ltI]; omega
    have k5 : nI j < nI 100 := by simp (disch := omega) only [nI_ltI]; omega
    have h4 : nI 100 = 100 := by decide
    rw [pI_in_t (n := 100) (by omega) (by decide), nI_clamp (by omega), e3 j hj]
    grind
theorem p_comes : op_comes R := by
  intro F hF a0 μ hR
  have hR' := R_th (v := 0) hR
  obtain ⟨n, hn, e1, e2, e3⟩ := hR.2.2.2.2.2.1.2.2.1
  unfold okI f_X10_comes f_X11_comes f_X10_comes_15
  simp (disch := omega) only [isIn_eq, T_some, T_g, T_bind, T_let, T_ite, rf0, rf1, rf4, rf5, rf19, rf23, rf28, rf39, rf53, rf67, rf71, rf76, rf88, rf97, rf101, rf109, rf110, rf124, rf128, rf133, rf144, rf156, rf157, rf171, rf175, rf180, rf191, rf51, rf203, rf203b, rI_k, rI_a, e1, e2, decide_eq_true_eq]
  rcases pk_ix a0 (n := n) (by omega) with h0 | h0 | ⟨j, hj, rfl⟩
  · grind
  · have : nI 0 ≤ nI n := by simp (disch := omega) only [nI_leI]; omega
    rw [nI_0] at this
    have h3 : ¬ a0 ≤ nI n - 1 := by grind
    grind
  · obtain ⟨k1, k2, k3⟩ := nI_b hj (by omega)
    rw [pI_in_t (n := 8) (by omega) (by decide), nI_clamp (by omega), e3 j hj]
    grind
theorem p_dry : op_dry R := by
  intro F hF a0 μ hR
  have hR' := R_th (v := 0) hR
  obtain ⟨n, hn, e1, e2, e3⟩ := hR.2.2.2.2.2.1.2.2.2.1
  unfold okI f_X10_dry f_X11_dry f_X9_sandAt
  simp (disch := omega) only [isIn_eq, T_some, T_g, T_bind, T_let, T_ite, rf0, rf1, rf4, rf5, rf19, rf23, rf28, rf39, rf53, rf67, rf71, rf76, rf88, rf97, rf101, rf109, rf110, rf124, rf128, rf133, rf144, rf156, rf157, rf171, rf175, rf180, rf191, rf51, rf203, rf203b, rI_k, rI_a, rI_2, e1, e2, decide_eq_true_eq]
  rcases pk_ix a0 (n := n) (by omega) with h0 | h0 | ⟨j, hj, rfl⟩
  · grind
  · have : nI 0 ≤ nI n := by simp (disch := omega) only [nI_leI]; omega
    rw [nI_0] at this
    have h3 : ¬ a0 ≤ nI n - 1 := by grind
    grind
  · obtain ⟨k1, k2, k3⟩ := nI_b hj (by omega)
    rw [pI_in_t (n := 9) (by omega) (by decide), nI_clamp (by omega), e3 j hj]
    have : ((7 * (nI n - 1 - nI j) : Int32).toInt64 &&& 63) = Int64.ofNat (7 * (n - 1 - j)) := by
      have h1 : n = n - 1 - j + j + 1 := by omega
      have h2 : ∀ i, i < 9 → ((7 * nI i : Int32).toInt64 &&& 63) = Int64.ofNat (7 * i) := by decide
      rw [← h2 (n - 1 - j) (by omega)]
      have h3 : nI n - 1 - nI j = nI (n - 1 - j) := by
        have h4 : nI (n - 1 - j + j + 1) = nI (n - 1 - j) + nI j + nI 1 := by rw [nI_add, nI_add]
        have h5 : nI 1 = 1 := by decide
        rw [← h1] at h4
        grind
      rw [h3]
    rw [this]
    grind
theorem p_against : op_against R := by
  intro F hF a0 a1 a2 μ hR
  have hR' := R_th (v := 0) hR
  obtain ⟨n, hn, e1, e2, e3⟩ := hR.2.2.2.2.2.1.2.2.2.2
  unfold okI f_X10_against f_X11_against f_X10_against_9 f_X5_metMarks
  simp (disch := omega) only [isIn_eq, T_some, T_g, T_bind, T_let, T_ite, rf0, rf1, rf4, rf5, rf19, rf23, rf28, rf39, rf53, rf67, rf71, rf76, rf88, rf97, rf101, rf109, rf110, rf124, rf128, rf133, rf144, rf156, rf157, rf171, rf175, rf180, rf191, rf51, rf203, rf203b, rI_k, rI_a, rI_2, e1, e2, decide_eq_true_eq]
  have h2 : (a2 = 0 ∨ a2 = 1) ∨ ¬ (0 ≤ a2 ∧ a2 ≤ 1) := by grind
  have h2' : a2 = 0 → 0 ≤ a2 ∧ a2 ≤ 1 := by grind
  have h2'' : a2 = 1 → 0 ≤ a2 ∧ a2 ≤ 1 := by grind
  have hn0 : 0 ≤ nI n := by
    have : nI 0 ≤ nI n := by simp (disch := omega) only [nI_leI]; omega
    rw [nI_0] at this
    exact this
  rcases pk_ix a0 (n := n) (by omega) with h0 | h0 | ⟨i, hi, rfl⟩
  · grind
  · have h3 : ¬ a0 ≤ nI n - 1 := by grind
    grind
  · obtain ⟨k1, k2, k3⟩ := nI_b hi (by omega)
    rcases pk_ix a1 (n := n) (by omega) with h0 | h0 | ⟨j, hj, rfl⟩
    · grind
    · have h3 : ¬ a1 ≤ nI n - 1 := by grind
      grind
    · obtain ⟨m1, m2, m3⟩ := nI_b hj (by omega)
      have hw : ∀ w : Nat, w < 2 → nI w = 0 ∨ nI w = 1 := by decide
      have hx : a2 = 0 ∨ a2 = 1 → ∃ w : Nat, w < 2 ∧ a2 = nI w := by
        rintro (h | h)
        · exact ⟨0, by decide, h⟩
        · exact ⟨1, by decide, h⟩
      rcases h2 with h2 | h2
      · obtain ⟨w, hw1, rfl⟩ := hx h2
        have ex : 2 * (nI i * 6 + nI j) + nI w = nI (12 * i + 2 * j + w) := by
          have : 2 * (nI i * 6 + nI j) + nI w = 12 * nI i + 2 * nI j + nI w := by grind
          rw [this]
          simp (disch := omega) only [pI_lit, nI_add, nI_clamp, nI_leI, nI_ltI, nI_eq, pk_mul]
        have em : 12 * nI i + 2 * nI j + nI w = nI (12 * i + 2 * j + w) := by
          simp (disch := omega) only [pI_lit, nI_add, nI_clamp, nI_leI, nI_ltI, nI_eq, pk_mul]
        rw [ex, em, pI_in_t (n := 72) (by omega) (by decide), nI_clamp (by omega), e3 i j w hi hj hw1]
        grind
      · grind
def rnd (n m : Nat) : Nat := m / Nat.gcd n m
theorem rnd_t1 : ∀ n, n < 12 → ∀ m, m < 9 → rnd (n + 1) (m + 1) ≤ 9 ∧ 1 ≤ rnd (n + 1) (m + 1) := by decide +kernel
theorem rnd_t2 : ∀ m, m < 9 → nI (m + 1) ≠ 0 := by decide +kernel
theorem rnd_t3 : ∀ n, n < 12 → ∀ m, m < 9 → ∀ i, i < 9 → i + 1 < rnd (n + 1) (m + 1) → ¬ nI (m + 1) ≤ nI (i + 1) := by decide +kernel
theorem rnd_t4 : ∀ n, n < 12 → ∀ m, m < 9 → ∀ i, i < 9 → i + 1 < rnd (n + 1) (m + 1) → ¬ (nI (i + 1) * nI (n + 1) - nI (i + 1) * nI (n + 1) / nI (m + 1) * nI (m + 1)) = 0 := by decide +kernel
theorem rnd_t5 : ∀ n, n < 12 → ∀ m, m < 9 → ∀ i, i < 9 → i + 1 = rnd (n + 1) (m + 1) → (nI (i + 1) * nI (n + 1) - nI (i + 1) * nI (n + 1) / nI (m + 1) * nI (m + 1)) = 0 := by decide +kernel
theorem rnd_tab (n : Nat) (hn : n < 12) (m : Nat) (hm : m < 9) : (rnd (n + 1) (m + 1) ≤ 9 ∧ 1 ≤ rnd (n + 1) (m + 1)) ∧ nI (m + 1) ≠ 0 ∧ ∀ i, i < 9 → (i + 1 < rnd (n + 1) (m + 1) → ¬ nI (m + 1) ≤ nI (i + 1) ∧ ¬ (nI (i + 1) * nI (n + 1) - nI (i + 1) * nI (n + 1) / nI (m + 1) * nI (m + 1)) = 0) ∧ (i + 1 = rnd (n + 1) (m + 1) → (nI (i + 1) * nI (n + 1) - nI (i + 1) * nI (n + 1) / nI (m + 1) * nI (m + 1)) = 0) :=
  ⟨rnd_t1 n hn m hm, rnd_t2 m hm, fun i hi => ⟨fun h => ⟨rnd_t3 n hn m hm i hi h, rnd_t4 n hn m hm i hi h⟩, rnd_t5 n hn m hm i hi⟩⟩
theorem rnd_x {n m F : Nat} (hn : n < 12) (hm : m < 9) (hF : 100 ≤ F) {t : Nat} {μ : aw_M} : aw_loop (fun k s => f_X7_rounds_26 F t k s.1 s.2.1 s.2.2.1 s.2.2.2) F (nI (n + 1), nI (m + 1), 1, μ) = some (nI (rnd (n + 1) (m + 1)), μ) := by
  obtain ⟨⟨h1, h2⟩, h3, h4⟩ := rnd_tab n hn m hm
  have hz : aw_nz (nI (m + 1)) = true := by unfold aw_nz; simp [h3]
  refine lp_up (fun i => (nI (n + 1), nI (m + 1), nI (i + 1), μ)) (rnd (n + 1) (m + 1) - 1) _ ?_ ?_ (by omega)
  · intro i hi k
    obtain ⟨g1, g2⟩ := (h4 i (by omega)).1 (by omega)
    show f_X7_rounds_26 F t k _ _ _ _ = _
    unfold f_X7_rounds_26
    rw [if_neg g1, hz, pg_t, if_neg g2]
    show k (_, _, nI (i + 1) + nI 1, _) = _
    rw [nI_add]
  · intro k
    have g := (h4 (rnd (n + 1) (m + 1) - 1) (by omega)).2 (by omega)
    have e : rnd (n + 1) (m + 1) - 1 + 1 = rnd (n + 1) (m + 1) := by omega
    show f_X7_rounds_26 F t k _ _ _ _ = _
    unfold f_X7_rounds_26
    rw [if_pos g, hz, pg_t, e]
    split <;> rfl
theorem rnd_m {n m F : Nat} (hn : n < 12) (hm : m < 9) (hF : 100 ≤ F) {μ : aw_M} : f_X11_rounds F (nI (n + 1)) (nI (m + 1)) μ = some (nI (rnd (n + 1) (m + 1)), μ) := by
  obtain ⟨⟨h1, h2⟩, h3, h4⟩ := rnd_tab n hn m hm
  have hz : aw_nz (nI (m + 1)) = true := by unfold aw_nz; simp [h3]
  unfold f_X11_rounds
  refine lp_up (fun i => (nI (n + 1), nI (m + 1), nI (i + 1), μ)) (rnd (n + 1) (m + 1) - 1) _ ?_ ?_ (by omega)
  · intro i hi k
    obtain ⟨g1, g2⟩ := (h4 i (by omega)).1 (by omega)
    show f_X11_rounds_2 F k _ _ _ _ = _
    unfold f_X11_rounds_2
    rw [hz, pg_t, if_neg g2]
    show k (_, _, nI (i + 1) + nI 1, _) = _
    rw [nI_add]
  · intro k
    have g := (h4 (rnd (n + 1) (m + 1) - 1) (by omega)).2 (by omega)
    have e : rnd (n + 1) (m + 1) - 1 + 1 = rnd (n + 1) (m + 1) := by omega
    show f_X11_rounds_2 F k _ _ _ _ = _
    unfold f_X11_rounds_2
    rw [if_pos g, hz, pg_t, e]
theorem wk_ix (a : Int32) {n : Nat} (hn : n < 1000) : a < 1 ∨ (1 ≤ a ∧ ¬ a ≤ nI n) ∨ ∃ j, j < n ∧ a = nI (j + 1) ∧ 1 ≤ a ∧ a ≤ nI n := by
  rcases pk_ix a (n := n + 1) (by omega) with h | h | ⟨j, hj, rfl⟩
  · exact .inl (by grind)
  · obtain ⟨g1, g2, g3⟩ := nI_b (j := n) (n := n + 1) (by omega) (by omega)
    exact .inr (.inl (by grind))
  · rcases Nat.eq_zero_or_pos j with rfl | h
    · exact .inl (by rw [nI_0]; decide)
    · obtain ⟨j, rfl⟩ : ∃ i, j = i + 1 := ⟨j - 1, by omega⟩
      have : nI 1 ≤ nI (j + 1) := by simp (disch := omega) only [nI_leI]; omega
      have h1 : nI 1 = 1 := by decide
      have : nI (j + 1) ≤ nI n := by simp (disch := omega) only [nI_leI]; omega
      exact .inr (.inr ⟨j, by omega, rfl, by grind, by grind⟩)
/-- walks: both say minus one, or both count the rounds -/
theorem walks (a0 a1 : Int32) : (¬ ((1 ≤ a0 ∧ a0 ≤ 12) ∧ (1 ≤ a1 ∧ a1 ≤ 9)) ∧ ∀ F μ, f_X7_rounds F 97 a0 a1 μ = some (-1, μ)) ∨ ((1 ≤ a0 ∧ a0 ≤ 12) ∧ (1 ≤ a1 ∧ a1 ≤ 9)) ∧ ∃ r : Nat, r ≤ 9 ∧ ∀ F, 100 ≤ F → ∀ μ, f_X7_rounds F 97 a0 a1 μ = some (nI r, μ) ∧ f_X11_rounds F a0 a1 μ = some (nI r, μ) := by
  have h12 : nI 12 = 12 := by decide
  have h9 : nI 9 = 9 := by decide
  rcases wk_ix a0 (n := 12) (by decide) with h | ⟨h, g⟩ | ⟨n, hn, rfl, h, g⟩
  · exact .inl ⟨by grind, fun F μ => by unfold f_X7_rounds; rw [if_pos h]⟩
  · exact .inl ⟨by grind, fun F μ => by unfold f_X7_rounds; rw [if_neg (by grind), if_pos (by grind)]⟩
  · rcases wk_ix a1 (n := 9) (by decide) with h' | ⟨h', g'⟩ | ⟨m, hm, rfl, h', g'⟩
    · exact .inl ⟨by grind, fun F μ => by unfold f_X7_rounds; rw [if_neg (by grind), if_neg (by grind), if_pos h']⟩
    · exact .inl ⟨by grind, fun F μ => by unfold f_X7_rounds; rw [if_neg (by grind), if_neg (by grind), if_neg (by grind), if_neg (by grind)]⟩
    · rw [h12] at g
      rw [h9] at g'
      refine .inr ⟨⟨⟨h, g⟩, ⟨h', g'⟩⟩, _, (rnd_tab n hn m hm).1.1, fun F hF μ => ⟨?_, rnd_m hn hm hF⟩⟩
      unfold f_X7_rounds
      rw [if_neg (by grind), if_neg (by grind), if_neg (by grind), if_pos g']
      exact rnd_x hn hm hF
theorem areWalks_eq {F : Nat} {a0 a1 : Int32} {μ : aw_M} : f_X11_areWalks F a0 a1 μ = some (decide ((1 ≤ a0 ∧ a0 ≤ 12) ∧ (1 ≤ a1 ∧ a1 ≤ 9)), μ) := by
  unfold f_X11_areWalks
  simp only [isIn_eq, Option.bind_some, decide_eq_true_eq]
  by_cases h : 1 ≤ a0 ∧ a0 ≤ 12
  · by_cases h2 : 1 ≤ a1 ∧ a1 ≤ 9
    · simp [h, h2]
    · simp [h, h2]
  · simp [h]
theorem p_walk : op_walk R := by
  intro F hF a0 a1 μ hR
  have hR' := R_th (v := 0) hR
  unfold okI f_X10_walk f_X11_walk
  simp (disch := omega) only [areWalks_eq, T_some, T_g, T_bind, T_let, T_ite, rf0, rf1, rf4, rf5, rf19, rf23, rf28, rf39, rf53, rf67, rf71, rf76, rf88, rf97, rf101, rf109, rf110, rf124, rf128, rf133, rf144, rf156, rf157, rf171, rf175, rf180, rf191, rf51, rf203, rf203b, decide_eq_true_eq]
  rcases walks a0 a1 with ⟨h1, h2⟩ | ⟨h1, r, h2, h3⟩
  · simp only [h2, T_some, h1]
    grind
  · have h3 := h3 F (by omega)
    simp only [h3, T_some, h1]
    grind
theorem p_alike : op_alike R := by
  intro F hF a0 a1 a2 a3 μ hR
  have hR' := R_th (v := 0) hR
  unfold okI f_X10_alike f_X11_alike
  simp (disch := omega) only [isIn_eq, areWalks_eq, T_some, T_g, T_bind, T_let, T_ite, rf0, rf1, rf4, rf5, rf19, rf23, rf28, rf39, rf53, rf67, rf71, rf76, rf88, rf97, rf101, rf109, rf110, rf124, rf128, rf133, rf144, rf156, rf157, rf171, rf175, rf180, rf191, rf51, rf203, rf203b, decide_eq_true_eq]
  rcases walks a0 a1 with ⟨h1, h2⟩ | ⟨h1, r, h2, h3⟩
  · simp only [h2, T_some, h1]
    grind
  · have h3 := h3 F (by omega)
    have hz : aw_nz a1 = true := by unfold aw_nz; simp; grind
    have hr : 0 ≤ nI r ∧ nI r ≤ 9 := by
      obtain ⟨g1, g2, g3⟩ := nI_b (j := r) (n := 10) (by omega) (by decide)
      have : nI 10 = 10 := by decide
      grind
    simp only [h3, T_some, h1, hz]
    grind
