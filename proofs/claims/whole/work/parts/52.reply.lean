def bst (v : Nat → Int32) : Nat → Nat
  | 0 => 0
  | k + 1 => if v (k + 1) ≤ v (bst v k) then bst v k else k + 1
theorem bst_le (v : Nat → Int32) : ∀ k, bst v k ≤ k
  | 0 => Nat.le_refl 0
  | k + 1 => by
    unfold bst
    have := bst_le v k
    split <;> omega
theorem reply_x {F n a : Nat} {μ : aw_M} {v : Nat → Int32} (hn : n + 1 ≤ 6) (ha : a < n + 1) (hF : 100 ≤ F) (e : μ.1 88 10 = nI (n + 1)) (hv : ∀ i, i < n + 1 → μ.1 96 (12 * i + 2 * a) = v i) : f_X5_bestReply F 88 (nI a) μ = some (nI (bst v n), μ) := by
  unfold f_X5_bestReply
  obtain ⟨F, rfl⟩ : ∃ G, F = G + 1 := ⟨F - 1, by omega⟩
  show f_X5_bestReply_4 (F + 1) 88 (aw_loop _ F) (nI a) (-1) 0 μ = _
  unfold f_X5_bestReply_4 f_X5_bestReply_46 f_X5_bestReply_48
  have h1 : ¬ nI (n + 1) ≤ 0 := by rw [← nI_0]; simp (disch := omega) only [nI_leI]; omega
  have h2 := nI_b (j := a) (n := n + 1) ha (by omega)
  have h3 : ¬ nI a < 0 := by grind
  have h4 : ¬ nI (n + 1) ≤ nI a := by grind
  simp only [e, h1, h3, h4, if_false, if_true]
  refine lp_up (fun k => (nI a, nI (bst v k), nI (k + 1), μ)) n _ ?_ ?_ (by omega)
  · intro k hk g
    have hb := bst_le v k
    show f_X5_bestReply_4 _ 88 g (nI a) (nI (bst v k)) (nI (k + 1)) μ = g (nI a, nI (bst v (k + 1)), nI (k + 2), μ)
    unfold f_X5_bestReply_4 f_X5_bestReply_46 f_X5_bestReply_48 f_X5_metMarks
    have g1 : ¬ nI (n + 1) ≤ nI (k + 1) := by simp (disch := omega) only [nI_leI]; omega
    have g2 : nI (bst v k) ≠ -1 := by
      have := nI_b (j := bst v k) (n := 10) (by omega) (by decide)
      grind
    have g3 : ∀ j, j < n + 1 → ¬ nI j < 0 ∧ ¬ nI (n + 1) ≤ nI j ∧ nI j < nI (n + 1) := fun j hj => by
      have := nI_b (j := j) (n := n + 1) hj (by omega)
      grind
    have g4 : ∀ j, j < n + 1 → 2 * (nI j * 6 + nI a) + 0 = nI (12 * j + 2 * a) := fun j hj => by
      have : 2 * (nI j * 6 + nI a) + 0 = 12 * nI j + 2 * nI a := by grind
      rw [this]
      simp (disch := omega) only [pI_lit, nI_add, nI_clamp, nI_leI, nI_ltI, nI_eq, pk_mul]
    have g5 : ∀ j, j < n + 1 → aw_in (nI (12 * j + 2 * a)) 72 = true := fun j hj => pI_in_t (by omega) (by decide)
    have g6 : ∀ j, j < n + 1 → (nI (12 * j + 2 * a)).toNatClampNeg = 12 * j + 2 * a := fun j hj => nI_clamp (by omega)
    have k1 : k + 1 < n + 1 := by omega
    have k2 : bst v k < n + 1 := by omega
    have e2 : nI (k + 1) + 1 = nI (k + 2) := by show nI (k + 1) + nI 1 = _; rw [nI_add]
    have r88 : aw_rf 88 11 = 96 := by simp only [rf0, rf1, rf4, rf5, rf19, rf23, rf28, rf39, rf53, rf67, rf71, rf76, rf88, rf97, rf101, rf109, rf110, rf124, rf128, rf133, rf144, rf156, rf157, rf171, rf175, rf180, rf191, rf51]
    simp only [e, g1, h3, h4, if_false, g2, g3 _ k1, g3 _ k2, g4 _ k1, g4 _ k2, g5 _ k1, g5 _ k2, g6 _ k1, g6 _ k2, if_true, (g3 _ ha).2.2, pg_t, Option.bind_some, r88, hv _ k1, hv _ k2, e2]
    have eb : bst v (k + 1) = if v (k + 1) ≤ v (bst v k) then bst v k else k + 1 := rfl
    rw [eb]
    by_cases h : v (k + 1) ≤ v (bst v k)
    · rw [if_pos h, if_pos h]
    · rw [if_neg h, if_neg h]
  · intro g
    show f_X5_bestReply_4 _ 88 g (nI a) (nI (bst v n)) (nI (n + 1)) μ = _
    unfold f_X5_bestReply_4
    have : nI (n + 1) ≤ nI (n + 1) := by simp (disch := omega) only [nI_leI]; omega
    simp only [e, this, if_true]
theorem reply_m {F n a : Nat} {μ : aw_M} {v : Nat → Int32} (hn : n + 1 ≤ 6) (ha : a < n + 1) (hF : 100 ≤ F) (e : μ.1 203 41 = nI (n + 1)) (hv : ∀ i, i < n + 1 → μ.1 223 (12 * i + 2 * a) = v i) : aw_loop (fun k s => f_X11_reply_25 F 203 k s.1 s.2.1 s.2.2.1 s.2.2.2) F (nI a, 0, 1, μ) = some (nI (bst v n), μ) := by
  refine lp_up (fun k => (nI a, nI (bst v k), nI (k + 1), μ)) n _ ?_ ?_ (by omega)
  · intro k hk g
    have hb := bst_le v k
    show f_X11_reply_25 _ 203 g (nI a) (nI (bst v k)) (nI (k + 1)) μ = g (nI a, nI (bst v (k + 1)), nI (k + 2), μ)
    unfold f_X11_reply_25 f_X11_reply_64
    have g1 : ¬ nI (n + 1) ≤ nI (k + 1) := by simp (disch := omega) only [nI_leI]; omega
    have g4 : ∀ j, j < n + 1 → 12 * nI j + 2 * nI a = nI (12 * j + 2 * a) := fun j hj => by
      simp (disch := omega) only [pI_lit, nI_add, nI_clamp, nI_leI, nI_ltI, nI_eq, pk_mul]
    have g5 : ∀ j, j < n + 1 → aw_in (nI (12 * j + 2 * a)) 72 = true := fun j hj => pI_in_t (by omega) (by decide)
    have g6 : ∀ j, j < n + 1 → (nI (12 * j + 2 * a)).toNatClampNeg = 12 * j + 2 * a := fun j hj => nI_clamp (by omega)
    have k1 : k + 1 < n + 1 := by omega
    have k2 : bst v k < n + 1 := by omega
    have e2 : nI (k + 1) + 1 = nI (k + 2) := by show nI (k + 1) + nI 1 = _; rw [nI_add]
    have r88 : aw_rf 203 39 = 223 := by simp only [rf203, rf203b]
    simp only [e, g1, if_false, g4 _ k1, g4 _ k2, g5 _ k1, g5 _ k2, g6 _ k1, g6 _ k2, if_true, pg_t, r88, hv _ k1, hv _ k2, e2]
    have eb : bst v (k + 1) = if v (k + 1) ≤ v (bst v k) then bst v k else k + 1 := rfl
    rw [eb]
    by_cases h : v (k + 1) ≤ v (bst v k)
    · rw [if_pos h, if_pos h]
    · rw [if_neg h, if_neg h]
  · intro g
    show f_X11_reply_25 _ 203 g (nI a) (nI (bst v n)) (nI (n + 1)) μ = _
    unfold f_X11_reply_25
    have : nI (n + 1) ≤ nI (n + 1) := by simp (disch := omega) only [nI_leI]; omega
    simp only [e, this, if_true]
theorem p_reply : op_reply R := by
  intro F hF a0 μ hR
  have hR' := R_th (v := 0) hR
  obtain ⟨n, hn, e1, e2, e3⟩ := hR.2.2.2.2.2.1.2.2.2.2
  unfold okI f_X10_reply f_X11_reply
  simp (disch := omega) only [isIn_eq, T_some, T_g, T_bind, T_let, T_ite, rf0, rf1, rf4, rf5, rf19, rf23, rf28, rf39, rf53, rf67, rf71, rf76, rf88, rf97, rf101, rf109, rf110, rf124, rf128, rf133, rf144, rf156, rf157, rf171, rf175, rf180, rf191, rf51, rf203, rf203b, rI_k, rI_a, rI_2, e1, e2, decide_eq_true_eq]
  have hout : (a0 < 0 ∨ nI n ≤ a0) → T (f_X5_bestReply F 88 a0 μ) (fun r1 => T (some r1) fun r1 => (0 ≤ a0 ∧ a0 ≤ nI n - 1 → False) → r1 = (-1, μ)) := by
    intro h
    unfold f_X5_bestReply
    obtain ⟨F, rfl⟩ : ∃ G, F = G + 1 := ⟨F - 1, by omega⟩
    refine ⟨(-1, μ), ?_, ⟨_, rfl, fun _ => rfl⟩⟩
    show f_X5_bestReply_4 (F + 1) 88 (aw_loop _ F) a0 (-1) 0 μ = _
    unfold f_X5_bestReply_4
    rw [e1]
    by_cases c : nI n ≤ 0
    · rw [if_pos c]
    · rw [if_neg c]
      by_cases d : a0 < 0
      · rw [if_pos d]
      · rw [if_neg d, if_pos (h.resolve_left d)]
  have hn0 := (nI_b (j := n) (n := 10) (by omega) (by decide)).1
  have hcl : (a0 < 0 ∨ nI n ≤ a0) → T (f_X5_bestReply F 88 a0 μ) fun r => (0 ≤ a0 ∧ a0 ≤ r.2.1 203 41 - 1 → T (aw_loop (fun k s => f_X11_reply_25 F 203 k s.1 s.2.1 s.2.2.1 s.2.2.2) F (a0, 0, 1, aw_wI r.2 203 0 0)) fun r2 => r.1 = r2.1 ∧ R r2.2) ∧ (¬ (0 ≤ a0 ∧ a0 ≤ r.2.1 203 41 - 1) → r.1 = -1 ∧ R (aw_wI r.2 203 0 0)) := by
    intro h
    obtain ⟨r, g1, r', g2, g3⟩ := hout h
    cases g2
    have hno : ¬ (0 ≤ a0 ∧ a0 ≤ nI n - 1) := by grind
    have := g3 hno
    subst this
    exact ⟨_, g1, fun h => absurd (show 0 ≤ a0 ∧ a0 ≤ nI n - 1 from e2 ▸ h) hno, fun _ => ⟨rfl, hR'⟩⟩
  rcases pk_ix a0 (n := n) (by omega) with h0 | h0 | ⟨a, ha, rfl⟩
  · exact hcl (.inl h0)
  · exact hcl (.inr h0)
  · obtain ⟨n, rfl⟩ : ∃ m, n = m + 1 := ⟨n - 1, by omega⟩
    have k := nI_b ha (by omega)
    have hy : 0 ≤ nI a ∧ nI a ≤ nI (n + 1) - 1 := by grind
    refine ⟨_, reply_x (v := fun i => μ.1 96 (12 * i + 2 * a)) (by omega) ha (by omega) e1 (fun _ _ => rfl), fun _ => ⟨_, reply_m (v := fun i => μ.1 96 (12 * i + 2 * a)) (by omega) ha (by omega) ?_ ?_, ?_⟩, fun h => absurd (show 0 ≤ nI a ∧ nI a ≤ μ.1 203 41 - 1 by rw [e2]; exact hy) h⟩
    · simp (disch := omega) only [rI_k]
      exact e2
    · intro i hi
      simp (disch := omega) only [rI_a]
      exact (e3 i a 0 hi ha (by decide)).symm
    · exact ⟨rfl, hR'⟩
