theorem xThere {F p q t : Nat} {μ : aw_M} (hp : p < 240) (hq : q < 2 ^ 30) : f_X1_isThere F t (nI p) (nI q) μ = some (decide (p ≤ q ∧ q < p + 4 ∧ q < 240), μ) := by
  unfold f_X1_isThere
  have e4 : nI p + 4 = nI (p + 4) := nI_add p 4
  have e240 : (240 : Int32) = nI 240 := rfl
  rw [e4, e240]
  simp (disch := omega) only [nI_leI, nI_ltI]
  by_cases h1 : q < p
  · have : ¬ (p ≤ q ∧ q < p + 4 ∧ q < 240) := by omega
    rw [if_pos h1, decide_eq_false this]
  · by_cases h2 : p + 4 ≤ q
    · have : ¬ (p ≤ q ∧ q < p + 4 ∧ q < 240) := by omega
      rw [if_neg h1, if_pos h2, decide_eq_false this]
    · by_cases h3 : 240 ≤ q
      · have : ¬ (p ≤ q ∧ q < p + 4 ∧ q < 240) := by omega
        rw [if_neg h1, if_neg h2, if_pos h3, decide_eq_false this]
      · have : (p ≤ q ∧ q < p + 4 ∧ q < 240) := by omega
        rw [if_neg h1, if_neg h2, if_neg h3, decide_eq_true this]
theorem mThere {F c p q : Nat} {μ : aw_M} (hc : c < 20) (hp : p < 240) (hq : q ≤ 1000) (e : μ.1 205 (47 + c) = nI p) : f_X11_isThere F 203 (nI c) (nI q) μ = some (decide (p ≤ q ∧ q < p + 4), μ) := by
  unfold f_X11_isThere
  rw [show (47 : Int32) + nI c = nI (47 + c) from nI_add 47 c, pI_in_t (by omega) (by decide), pg_t, rf203.2.1, nI_clamp (by omega), e, isIn_eq, Option.bind_some]
  congr 2
  rcases Nat.lt_or_ge q p with h | h
  · have h1 : ¬ (p ≤ q ∧ q < p + 4) := by omega
    have h2 : ¬ (0 ≤ nI q - nI p ∧ nI q - nI p ≤ 3) := by
      have k1 := nI_lt h (by omega)
      have k2 := nI_pos' (n := q) (by omega)
      have k3 := nI_lt (a := p) (b := 240) hp (by decide)
      have k4 : nI 240 = 240 := by decide
      grind
    rw [decide_eq_false h1, decide_eq_false h2]
  · rw [nI_sub h]
    have e0 : (0 : Int32) = nI 0 := rfl
    have e3 : (3 : Int32) = nI 3 := rfl
    rw [e0, e3]
    simp (disch := omega) only [nI_leI]
    congr 1
    apply propext
    omega
theorem cart_m {F c i : Nat} {μ : aw_M} {n : Nat} (hn : n ≤ 20) (hc : c < n) (hi : i < 6) (y3 : μ.1 205 3 = nI n) : f_X11_cart F 203 (nI c) (nI i) μ = f_X11_cart_23 F 203 (nI c) (nI i) false μ := by
  have h0 : 0 ≤ nI c ∧ nI c ≤ nI n - 1 := ⟨(nI_b hc (by omega)).1, (nI_b hc (by omega)).2.2⟩
  have h1 : 0 ≤ nI i ∧ nI i ≤ 5 := by
    have := nI_b hi (by decide)
    have e10 : nI 6 = 6 := by decide
    grind
  unfold f_X11_cart
  rw [mC y3, Option.bind_some, decide_eq_true h0, if_pos rfl, isIn_eq, Option.bind_some, decide_eq_true h1, if_pos rfl]
theorem p_cart : op_cart R := by
  intro F hF a0 a1 μ hR
  obtain ⟨⟨T, W, P, Y, G, hS, hG⟩, hr⟩ := R_iff.1 hR
  obtain ⟨⟨hwf, ⟨⟨-, -, -, x4⟩, -, -, xc, -⟩, ⟨⟨-, -, -, y4⟩, -, -, -, -, yc, -⟩⟩, -, -, -, fw, fx, fm, fs⟩ := hS
  have hn := hwf.1.2.2.2
  have hT := hwf.2.2.2.1
  have e6 : nI 6 = 6 := by decide
  by_cases h0 : 0 ≤ a0 ∧ a0 ≤ nI (T 0 3) - 1
  · by_cases h1 : 0 ≤ a1 ∧ a1 ≤ 5
    · obtain ⟨c, hc, rfl⟩ := ix_of (by omega) h0
      obtain ⟨i, hi, rfl⟩ := ix_of (n := 6) (by decide) (by rw [e6, show (6 : Int32) - 1 = 5 by decide]; exact h1)
      have hi9 : ¬ nI i < 0 ∧ nI i ≤ 5 := ⟨nI_pos (by omega), h1.2⟩
      have cq : (nI c).toNatClampNeg = c := nI_clamp (by omega)
      have iq : aw_in (nI c) 20 = true := pI_in_t (by omega) (by decide)
      have a1 := xc c hc
      have b1 := yc c hc
      have a2 := fx.2.2.1 c hc
      have b2 := fm.2.2.1 c hc
      have a3 := fs.2.2.1 c hc
      have d0 := fx.1.2.1
      have m0 := fm.1.1
      have m1 := fm.1.2.1
      have w1 := fw.1
      have ht := hT c hc
      have hin : ∀ k, k ≤ 800 → aw_in (nI (k + c)) 1155 = true := fun k hk => pI_in_t (by omega) (by decide)
      have hcl : ∀ k, k ≤ 800 → (nI (k + c)).toNatClampNeg = k + c := fun k hk => nI_clamp (by omega)
      have goal : ∀ v, f_X10_cart F 0 (nI c) (nI i) μ = some (some v, μ) → (∀ μ1 μ2 : aw_M, μ1.1 205 = μ.1 205 → μ2.1 205 = μ.1 205 → f_X11_throwsIf F 203 (aw_b false) μ1 = some (false, μ2) → f_X11_cart_23 F 203 (nI c) (nI i) false μ1 = some (v, μ2)) → okX F R (f_X10_cart F 0 (nI c) (nI i) μ) (fun μ1 => f_X11_cart F 203 (nI c) (nI i) μ1) := fun v h1 h2 => okX_v hR h1 (by
        rw [cart_m hn hc hi (show (aw_wL μ 230 0 v.toInt64).1 205 3 = _ from y4)]
        exact h2 _ _ rfl (by rw [rI_a (by decide)]; rfl) thrIf0)
      have hi' : i = 0 ∨ i = 1 ∨ i = 2 ∨ i = 3 ∨ i = 4 ∨ i = 5 := by omega
      clear hi h1
      rcases hi' with rfl | rfl | rfl | rfl | rfl | rfl
      · refine goal (nI (T 6 c)) ?_ fun μ1 μ2 h1 h h2 => ?_
        · have ex : μ.1 12 c = nI (T 6 c) := a1.2.1
          unfold f_X10_cart
          rw [xC hn x4, Option.bind_some, decide_eq_true h0, if_pos rfl, if_neg hi9.1, if_pos hi9.2]
          rw [sel_j (by decide)]
          simp only [List.getD_cons_succ, List.getD_cons_zero, List.getD_nil, iq, pg_t, Option.bind_some, cq, rf0, rf1, rf4, rf5, rf19, rf23, rf28, rf39, rf53, rf67, rf71, rf76, rf88, rf97, rf101, rf109, rf110, rf124, rf128, rf133, rf144, rf156, rf157, rf171, rf175, rf180, rf191, rf51, ex]
        · have em : μ.1 205 (67 + c) = nI (T 6 c) := b1.2.1
          unfold f_X11_cart_23
          rw [h2, Option.bind_some, if_neg Bool.false_ne_true, sel_j (by decide)]
          simp only [List.getD_cons_succ, List.getD_cons_zero, List.getD_nil, rf203.2.1, h, show (67 : Int32) + nI c = nI (67 + c) from nI_add 67 c, hin 67 (by decide), hcl 67 (by decide), pg_t, em]
      · refine goal (nI (T 5 c)) ?_ fun μ1 μ2 h1 h h2 => ?_
        · have ex : μ.1 11 c = nI (T 5 c) := a1.1
          unfold f_X10_cart
          rw [xC hn x4, Option.bind_some, decide_eq_true h0, if_pos rfl, if_neg hi9.1, if_pos hi9.2]
          rw [sel_j (by decide)]
          simp only [List.getD_cons_succ, List.getD_cons_zero, List.getD_nil, iq, pg_t, Option.bind_some, cq, rf0, rf1, rf4, rf5, rf19, rf23, rf28, rf39, rf53, rf67, rf71, rf76, rf88, rf97, rf101, rf109, rf110, rf124, rf128, rf133, rf144, rf156, rf157, rf171, rf175, rf180, rf191, rf51, ex]
        · have em : μ.1 205 (47 + c) = nI (T 5 c) := b1.1
          unfold f_X11_cart_23
          rw [h2, Option.bind_some, if_neg Bool.false_ne_true, sel_j (by decide)]
          simp only [List.getD_cons_succ, List.getD_cons_zero, List.getD_nil, rf203.2.1, h, show (47 : Int32) + nI c = nI (47 + c) from nI_add 47 c, hin 47 (by decide), hcl 47 (by decide), pg_t, em]
      · refine goal (nI (G 2 c)) ?_ fun μ1 μ2 h1 h h2 => ?_
        · have ex : μ.1 46 c = nI (G 2 c) := a2
          unfold f_X10_cart
          rw [xC hn x4, Option.bind_some, decide_eq_true h0, if_pos rfl, if_neg hi9.1, if_pos hi9.2]
          rw [sel_j (by decide)]
          simp only [List.getD_cons_succ, List.getD_cons_zero, List.getD_nil, iq, pg_t, Option.bind_some, cq, rf0, rf1, rf4, rf5, rf19, rf23, rf28, rf39, rf53, rf67, rf71, rf76, rf88, rf97, rf101, rf109, rf110, rf124, rf128, rf133, rf144, rf156, rf157, rf171, rf175, rf180, rf191, rf51, ex]
        · have em : μ.1 205 (674 + c) = nI (G 2 c) := b2
          unfold f_X11_cart_23
          rw [h2, Option.bind_some, if_neg Bool.false_ne_true, sel_j (by decide)]
          simp only [List.getD_cons_succ, List.getD_cons_zero, List.getD_nil, rf203.2.1, h, show (674 : Int32) + nI c = nI (674 + c) from nI_add 674 c, hin 674 (by decide), hcl 674 (by decide), pg_t, em]
      · refine goal (nI (T 8 c)) ?_ fun μ1 μ2 h1 h h2 => ?_
        · have ex : μ.1 14 c = nI (T 8 c) := a1.2.2.2
          unfold f_X10_cart
          rw [xC hn x4, Option.bind_some, decide_eq_true h0, if_pos rfl, if_neg hi9.1, if_pos hi9.2]
          rw [sel_j (by decide)]
          simp only [List.getD_cons_succ, List.getD_cons_zero, List.getD_nil, iq, pg_t, Option.bind_some, cq, rf0, rf1, rf4, rf5, rf19, rf23, rf28, rf39, rf53, rf67, rf71, rf76, rf88, rf97, rf101, rf109, rf110, rf124, rf128, rf133, rf144, rf156, rf157, rf171, rf175, rf180, rf191, rf51, ex]
        · have em : μ.1 205 (107 + c) = nI (T 8 c) := b1.2.2.2
          unfold f_X11_cart_23
          rw [h2, Option.bind_some, if_neg Bool.false_ne_true, sel_j (by decide)]
          simp only [List.getD_cons_succ, List.getD_cons_zero, List.getD_nil, rf203.2.1, h, show (107 : Int32) + nI c = nI (107 + c) from nI_add 107 c, hin 107 (by decide), hcl 107 (by decide), pg_t, em]
      · refine goal (μ.1 205 (694 + c)) ?_ fun μ1 μ2 h1 h h2 => ?_
        · have ex : μ.1 47 c = μ.1 205 (694 + c) := a3
          unfold f_X10_cart
          rw [xC hn x4, Option.bind_some, decide_eq_true h0, if_pos rfl, if_neg hi9.1, if_pos hi9.2]
          rw [sel_j (by decide)]
          simp only [List.getD_cons_succ, List.getD_cons_zero, List.getD_nil, iq, pg_t, Option.bind_some, cq, rf0, rf1, rf4, rf5, rf19, rf23, rf28, rf39, rf53, rf67, rf71, rf76, rf88, rf97, rf101, rf109, rf110, rf124, rf128, rf133, rf144, rf156, rf157, rf171, rf175, rf180, rf191, rf51, ex]
        · have em : μ.1 205 (694 + c) = μ.1 205 (694 + c) := rfl
          unfold f_X11_cart_23
          rw [h2, Option.bind_some, if_neg Bool.false_ne_true, sel_j (by decide)]
          simp only [List.getD_cons_succ, List.getD_cons_zero, List.getD_nil, rf203.2.1, h, show (694 : Int32) + nI c = nI (694 + c) from nI_add 694 c, hin 694 (by decide), hcl 694 (by decide), pg_t, em]
      · have ex : μ.1 11 c = nI (T 5 c) := a1.1
        have d0 : μ.1 39 4 = nI (G 5 1) := d0
        refine goal (if T 5 c ≤ G 5 1 ∧ G 5 1 < T 5 c + 4 ∧ G 5 1 < 240 then 1 else 0) ?_ fun μ1 μ2 h1 h h2 => ?_
        · unfold f_X10_cart
          rw [xC hn x4, Option.bind_some, decide_eq_true h0, if_pos rfl, if_neg hi9.1, if_pos hi9.2, sel_j (by decide)]
          simp only [List.getD_cons_succ, List.getD_cons_zero, List.getD_nil, iq, pg_t, Option.bind_some, cq, rf0, rf1, rf4, rf5, rf19, rf23, rf28, rf39, rf53, rf67, rf71, rf76, rf88, rf97, rf101, rf109, rf110, rf124, rf128, rf133, rf144, rf156, rf157, rf171, rf175, rf180, rf191, rf51, ex, d0]
          rw [xThere ht.1 (by omega), Option.bind_some]
          by_cases k : T 5 c ≤ G 5 1 ∧ G 5 1 < T 5 c + 4 ∧ G 5 1 < 240
          · rw [if_pos k, decide_eq_true k, if_pos rfl]
          · rw [if_neg k, decide_eq_false k, if_neg Bool.false_ne_true]
        · have i5 : aw_in 455 1155 = true := by decide
          have i6 : aw_in 456 1155 = true := by decide
          have c5 : (455 : Int32).toNatClampNeg = 455 := by decide
          have c6 : (456 : Int32).toNatClampNeg = 456 := by decide
          unfold f_X11_cart_23
          rw [h2, Option.bind_some, if_neg Bool.false_ne_true, sel_j (by decide)]
          simp only [List.getD_cons_succ, List.getD_cons_zero, List.getD_nil, rf203.2.1, h, i5, i6, c5, c6, pg_t, m0, m1]
          have e3 : (3 : Int32) = nI 3 := rfl
          rw [e3, mThere (by omega) ht.1 (by omega) (by rw [h]; exact b1.1), Option.bind_some]
          by_cases k3 : 3 ≤ G 5 0
          · have k : ¬ (T 5 c ≤ G 5 1 ∧ G 5 1 < T 5 c + 4 ∧ G 5 1 < 240) := by
              have : G 5 0 = 3 := by omega
              have := w1.2.2.1.2 this
              omega
            rw [if_pos (nI_le k3 (by omega)), if_neg k]
          · have k0 : G 5 1 < 240 := by
              have : ¬ G 5 1 = 240 := fun q => by
                have := w1.2.2.1.1 q
                omega
              omega
            rw [if_neg (nI_ge (by omega) (by decide))]
            by_cases k : T 5 c ≤ G 5 1 ∧ G 5 1 < T 5 c + 4
            · rw [decide_eq_true k, if_pos rfl, if_pos ⟨k.1, k.2, k0⟩]
            · rw [decide_eq_false k, if_neg Bool.false_ne_true, if_neg (fun q => k ⟨q.1, q.2.1⟩)]
    · refine okX_t hR ?_ ?_
      · unfold f_X10_cart
        rw [xC hn x4, Option.bind_some, decide_eq_true h0, if_pos rfl]
        by_cases c : a1 < 0
        · rw [if_pos c]
        · rw [if_neg c, if_neg (by grind)]
      · unfold f_X11_cart
        rw [mC y4, Option.bind_some, decide_eq_true h0, if_pos rfl, isIn_eq, Option.bind_some, decide_eq_false h1, if_neg Bool.false_ne_true]
        unfold f_X11_cart_18 f_X11_cart_23
        rw [thrIf1]
        rfl
  · refine okX_t hR ?_ ?_
    · unfold f_X10_cart
      rw [xC hn x4, Option.bind_some, decide_eq_false h0, if_neg Bool.false_ne_true]
    · unfold f_X11_cart
      rw [mC y4, Option.bind_some, decide_eq_false h0, if_neg Bool.false_ne_true]
      unfold f_X11_cart_18 f_X11_cart_23
      rw [thrIf1]
      rfl
