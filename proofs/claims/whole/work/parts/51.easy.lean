theorem sel_lo {α : Type} {a : Int32} {os : List (Option α)} {od : Option α} (h : a < 0) : aw_sel (a.toInt - 0) os od = od := by
  unfold aw_sel
  rw [if_pos]
  have := Int32.lt_iff_toInt_lt.1 h
  have h0 : (0 : Int32).toInt = 0 := by decide
  omega
theorem sel_hi {α : Type} {a : Int32} {os : List (Option α)} {od : Option α} (h : nI os.length ≤ a) (hl : os.length < 2 ^ 31) : aw_sel (a.toInt - 0) os od = od := by
  unfold aw_sel
  have := Int32.le_iff_toInt_le.1 h
  rw [nI_toInt hl] at this
  rw [if_neg (by omega), List.getD_eq_getElem?_getD, List.getElem?_eq_none (by omega)]
  rfl
theorem sel_j {α : Type} {j : Nat} {os : List (Option α)} {od : Option α} (h : j < 2 ^ 31) : aw_sel ((nI j).toInt - 0) os od = os.getD j od := by
  unfold aw_sel
  rw [nI_toInt h, if_neg (by omega)]
  congr 1
theorem p_count : op_count R := by
  intro F hF a0 μ hR
  have hR'' : R (aw_wI μ 203 0 (nI 0)) := R_th hR
  have hR' := R_th (v := 0) hR
  obtain ⟨⟨T, W, P, Y, G, ⟨⟨hwf, ⟨hx1, hx2⟩, ⟨hm1, hm2, hm3⟩⟩, -, ⟨-, hp1, hp2⟩, -⟩, hG⟩, ⟨n, B, h2, h3, h4, h5⟩, -⟩ := R_iff.1 hR
  obtain ⟨x1, x2, x3, x4⟩ := hx1
  obtain ⟨y1, y2, y3, y4⟩ := hm1
  have z4 := hm2 0 (by decide)
  have z5 := hm2 1 (by decide)
  have z6 := hm2 2 (by decide)
  have w4 := hx2.2.2.2.1 0 (by decide)
  have w5 := hx2.2.2.2.1 1 (by decide)
  have w6 := hx2.2.2.2.1 2 (by decide)
  unfold okI f_X10_count f_X11_count
  simp (disch := omega) only [isIn_eq, T_some, T_g, T_bind, T_let, T_ite, rf0, rf1, rf4, rf5, rf19, rf23, rf28, rf39, rf53, rf67, rf71, rf76, rf88, rf97, rf101, rf109, rf110, rf124, rf128, rf133, rf144, rf156, rf157, rf171, rf175, rf180, rf191, rf51, rf203, rf203b, rI_k, rI_a, rI_2, decide_eq_true_eq]
  rcases pk_ix a0 (n := 9) (by decide) with h0 | h0 | ⟨j, hj, rfl⟩
  · rw [sel_lo h0]
    simp only [T_some]
    grind
  · rw [sel_hi h0 (by show (9 : Nat) < 2 ^ 31; decide)]
    simp only [T_some]
    have : nI 9 = 9 := by decide
    grind
  · rw [sel_j (by omega), nI_clamp (by omega)]
    have q1 := hp1.1
    have q2 := hp2.1
    clear hx2 hm2 hm3 hG hp1 hp2 h5 hwf hR hF h2
    rcases j with _ | _ | _ | _ | _ | _ | _ | _ | _ | j
    all_goals first | omega | (simp only [List.getD_cons_succ, List.getD_cons_zero, T_some, T_g, Nat.reduceAdd]; simp (disch := omega) only [pI_lit, nI_eq, nI_leI, nI_clamp, pI_in_t, rI_a, x1, x2, x3, x4, y1, y2, y3, y4, z4, z5, z6, w4, w5, w6, q1, q2, h3, h4]; clear x1 x2 x3 x4 y1 y2 y3 y4 z4 z5 z6 w4 w5 w6 q1 q2 h3 h4; simp [hR'', *])
theorem p_thrown : op_thrown R := by
  intro F hF a0 a1 μ hR
  have hR' := R_th (v := 0) hR
  obtain ⟨⟨T, W, P, Y, G, ⟨-, -, -, -, ⟨⟨⟨g0, g1, g2, g3⟩, -⟩, ⟨⟨f0, f1, f2⟩, -⟩, ⟨⟨m0, m1, m2⟩, -⟩, -, -, -, fs⟩⟩, -⟩, -⟩ := R_iff.1 hR
  unfold okI f_X10_thrown f_X11_thrown_
  have hc : (919 : Int32).toNatClampNeg = 919 := by decide
  have hin : aw_in 919 1155 = true := by decide
  simp (disch := omega) only [isIn_eq, T_some, T_g, T_bind, T_let, T_ite, rf0, rf1, rf4, rf5, rf19, rf23, rf28, rf39, rf53, rf67, rf71, rf76, rf88, rf97, rf101, rf109, rf110, rf124, rf128, rf133, rf144, rf156, rf157, rf171, rf175, rf180, rf191, rf51, rf203, rf203b, rI_k, rI_a, rI_2, decide_eq_true_eq, hc, hin, f2, m2]
  have hn0 := (nI_b (j := G 5 2) (n := 10) (by omega) (by decide)).1
  rcases pk_ix a0 (n := G 5 2) (by omega) with h0 | h0 | ⟨j, hj, rfl⟩
  · grind
  · have h3 : ¬ a0 ≤ nI (G 5 2) - 1 := by grind
    grind
  · obtain ⟨k1, k2, k3⟩ := nI_b hj (by omega)
    rcases pk_ix a1 (n := 6) (by omega) with h0 | h0 | ⟨i, hi, rfl⟩
    · grind
    · have h3 : nI 6 = 6 := by decide
      grind
    · obtain ⟨k1', k2', k3'⟩ := nI_b hi (by omega)
      have h3 : nI 6 = 6 := by decide
      have ex : nI j * 6 + nI i = nI (6 * j + i) := by
        have : nI j * 6 + nI i = 6 * nI j + nI i := by grind
        rw [this]
        simp (disch := omega) only [pI_lit, nI_add, nI_clamp, nI_leI, nI_ltI, nI_eq, pk_mul]
      have em : 920 + 6 * nI j + nI i = nI (920 + 6 * j + i) := by
        simp (disch := omega) only [pI_lit, nI_add, nI_clamp, nI_leI, nI_ltI, nI_eq, pk_mul]
      rw [ex, em, pI_in_t (n := 54) (by omega) (by decide), pI_in_t (n := 1155) (by omega) (by decide), nI_clamp (by omega), nI_clamp (by omega), fs j hj i hi]
      grind
