theorem leaf_x {F q i : Nat} {C P Y G : Nat → Nat → Nat} {S : Nat → Int32} {μ : aw_M} (hF : 300 ≤ F) (w : SdW C P Y G) (x : SdX C P Y G S μ) (hq : q < C 0 2) (hi : i < Y 0 0) (h12 : 12 ≤ Y 1 i) : f_X3_holdsLeaf F 23 39 (nI i) (nI q) μ = some (lf C P Y G S q i, μ) := by
  have wq := aQ_x hF w x (q := q) hq
  have wr := fun r (hr : r < C 0 2) => aQ_x (F := F) hF w x (q := r) hr
  obtain ⟨hwf, pw, fw, yw⟩ := w
  obtain ⟨tx, px, fx, hG, yx, xs⟩ := x
  have n9 := hwf.1.2.2.1
  have y40 := yw.1
  obtain ⟨-, k19, -, -, -, kj, kn⟩ := yw.2.2 i hi
  obtain ⟨e1, e2, e3⟩ := yx.2 i hi
  have e1 : μ.1 24 i = nI (Y 1 i) := e1
  have e2 : μ.1 25 i = nI (Y 2 i) := e2
  have e3 : μ.1 26 i = nI (Y 3 i) := e3
  have rr : (aw_rf 23 2 = 24 ∧ aw_rf 23 3 = 25 ∧ aw_rf 23 4 = 26) ∧ aw_rf (aw_rf 39 1) 3 = 22 ∧ aw_rf 39 9 = 41 ∧ aw_rf 39 10 = 42 ∧ aw_rf 39 11 = 43 ∧ aw_rf (aw_rf 39 0) 8 = 9 ∧ aw_rf (aw_rf 39 2) 1 = 30 := by simp only [rf0, rf1, rf4, rf5, rf19, rf23, rf28, rf39, rf53, rf67, rf71, rf76, rf88, rf97, rf101, rf109, rf110, rf124, rf128, rf133, rf144, rf156, rf157, rf171, rf175, rf180, rf191, rf51, and_self]
  obtain ⟨⟨r2, r3, r4⟩, r5, r6, r7, r8, r9, r10⟩ := rr
  have ne : ∀ a b, a < 1000 → b < 1000 → a ≠ b → ¬ nI a = nI b := fun a b ha hb hab h => hab ((nI_eq (by omega) (by omega)).1 h)
  unfold f_X3_holdsLeaf lf
  rw [pI_in_t (by omega) (by decide), pg_t, r2, r3, r4, nI_clamp (by omega), e1]
  by_cases c12 : Y 1 i = 12
  · rw [c12, if_pos (show nI 12 = 12 from rfl), if_pos rfl, pI_in_t (by omega) (by decide), pg_t, r5, nI_clamp (by omega)]
    have e := (px.2 q (by omega)).2.2
    have e : μ.1 22 q = if P 0 q = 0 then -1 else nI (P 2 q) := e
    have p2 := (pw q).2.2.1
    have p0 := (pw q).2.2.2.1
    rw [e]
    by_cases c0 : P 0 q = 0
    · rw [if_pos c0, if_neg (by decide), decide_eq_false (by have := (p0 c0).2; omega)]
    · rw [if_neg c0]
      by_cases c1 : P 2 q = 1
      · rw [c1, if_pos (show nI 1 = 1 from rfl)]
        rfl
      · rw [if_neg (show ¬ nI (P 2 q) = 1 from ne _ 1 (by omega) (by decide) c1), decide_eq_false c1]
  · rw [if_neg (show ¬ nI (Y 1 i) = 12 from ne _ 12 (by omega) (by decide) c12), if_neg c12, pg_t]
    by_cases c13 : Y 1 i = 13
    · have hj := kj c13
      rw [c13, if_pos (show nI 13 = 13 from rfl), if_pos rfl, pg_t, e3]
      have e4 : μ.1 39 4 = nI (G 5 1) := fx.1.2.1
      unfold f_X0_wouldJoin
      rw [e4, wq, Option.bind_some]
      dsimp only
      rw [e4, wr _ hj]
      by_cases c1 : q = Y 3 i
      · rw [if_pos (by rw [c1]), Option.bind_some, decide_eq_false (fun h => h c1)]
        rfl
      · rw [if_neg (ne _ _ (by omega) (by omega) c1), decide_eq_true c1]
        by_cases c2 : aQ C P G q = -1
        · rw [if_pos c2, Option.bind_some, decide_eq_false (fun h => h c2)]
          rfl
        · rw [if_neg c2, Option.bind_some]
          dsimp only
          rw [decide_eq_true c2]
          by_cases c3 : aQ C P G q = aQ C P G (Y 3 i)
          · rw [if_pos c3, Option.bind_some, decide_eq_true c3]
            rfl
          · rw [if_neg c3, Option.bind_some, decide_eq_false c3]
            rfl
    · rw [if_neg (show ¬ nI (Y 1 i) = 13 from ne _ 13 (by omega) (by decide) c13), if_neg c13, pg_t]
      obtain ⟨k60, k62, k999⟩ := kn (by omega)
      have hm : f_X0_measure F 39 (nI q) (nI (Y 1 i)) μ = some (mV C G S q (Y 1 i), μ) := by
        unfold f_X0_measure
        rw [r6, r7, r8, r9, r10, pI_in_t (by omega) (by decide), pI_in_t (by omega) (by decide), pg_t, pg_t, pg_t, pg_t, pg_t, nI_clamp (by omega)]
        obtain ⟨j, hj, ej⟩ : ∃ j, j < 6 ∧ Y 1 i = j + 14 := ⟨Y 1 i - 14, by omega, by omega⟩
        rw [ej]
        have := sel_k (j := j) (k := 14) (os := [some (μ.1 41 q, μ), some (μ.1 42 q, μ), some (μ.1 43 q, μ), some (μ.1 9 q, μ), some (μ.1 30 q, μ)]) (od := some (nI q, μ)) (by omega)
        refine this.trans ?_
        have h0 : j = 0 ∨ j = 1 ∨ j = 2 ∨ j = 3 ∨ j = 4 ∨ j = 5 := by omega
        rcases h0 with rfl | rfl | rfl | rfl | rfl | rfl
        · show some (μ.1 41 q, μ) = _
          rw [show μ.1 41 q = nI (G 0 q) from (fx.2.1 q hq).1]
          rfl
        · show some (μ.1 42 q, μ) = _
          rw [(xs q hq).1]
          rfl
        · show some (μ.1 43 q, μ) = _
          rw [(xs q hq).2]
          rfl
        · show some (μ.1 9 q, μ) = _
          rw [show μ.1 9 q = nI (C 3 q) from (tx.2.1 q hq).2.2]
          rfl
        · show some (μ.1 30 q, μ) = _
          rw [show μ.1 30 q = nI (jsee C (pl C q)) from (hG.1 q (by omega) (by omega)).2, show pl C q = C 1 q from if_pos (by omega)]
          rfl
        · rfl
      rw [hm, Option.bind_some]
      dsimp only
      generalize mV C G S q (Y 1 i) = v
      rw [pg_t, pg_t, pg_t, pg_t, pg_t, e2, e3]
      by_cases c60 : Y 2 i = 60
      · rw [c60, if_pos (show nI 60 = 60 from rfl), if_pos rfl]
        by_cases c : nI (Y 3 i) ≤ v
        · rw [if_pos c, decide_eq_false (by grind)]
        · rw [if_neg c, decide_eq_true (by grind)]
      · rw [if_neg (show ¬ nI (Y 2 i) = 60 from ne _ 60 (by omega) (by decide) c60), if_neg c60]
        by_cases c62 : Y 2 i = 62
        · rw [c62, if_pos (show nI 62 = 62 from rfl), if_pos rfl]
          by_cases c : v ≤ nI (Y 3 i)
          · rw [if_pos c, decide_eq_false (by grind)]
          · rw [if_neg c, decide_eq_true (by grind)]
        · rw [if_neg (show ¬ nI (Y 2 i) = 62 from ne _ 62 (by omega) (by decide) c62), if_neg c62]
          by_cases c : v = nI (Y 3 i)
          · rw [if_pos c, decide_eq_true c]
          · rw [if_neg c, decide_eq_false c]
/-- the reference's leaf -/
theorem leaf_m {F q i : Nat} {C P Y G : Nat → Nat → Nat} {S : Nat → Int32} {μ : aw_M} (hF : 300 ≤ F) (w : SdW C P Y G) (m : SdM C P Y G S) (e5 : μ.1 205 = S) (hq : q < C 0 2) (hi : i < Y 0 0) (h12 : 12 ≤ Y 1 i) : f_X11_isLeaf F 203 (nI q) (nI (ycode (Y 1 i))) (nI (Y 2 i)) (nI (Y 3 i)) μ = some (lf C P Y G S q i, μ) := by
  obtain ⟨hwf, pw, fw, yw⟩ := w
  obtain ⟨tm, pm, fm, ym⟩ := m
  have n9 := hwf.1.2.2.1
  have n20 := hwf.1.2.2.2
  have y40 := yw.1
  obtain ⟨-, k19, -, -, -, kj, kn⟩ := yw.2.2 i hi
  obtain ⟨d1, d2, d3, d4⟩ := fw.1
  have ne : ∀ a b, a < 1000 → b < 1000 → a ≠ b → ¬ nI a = nI b := fun a b ha hb hab h => hab ((nI_eq (by omega) (by omega)).1 h)
  have ec : ycode (Y 1 i) = Y 1 i - 12 := by
    unfold ycode
    rw [if_neg (by omega), if_neg (by omega), if_neg (by omega)]
  have r6 : aw_rf 203 6 = 205 := rf203.2.1
  have am : ∀ r, r < C 0 2 → G 5 1 < 240 → f_X11_aimed F 203 (nI r) (nI (G 5 1)) μ = some (aQ C P G r, μ) := fun r hr h => by
    unfold aQ
    rw [if_neg (by omega)]
    exact aimed_m (by omega) hwf pw fw (by rw [e5]; exact tm) (by rw [e5]; exact pm) (by rw [e5]; exact fm) hr h
  have ad : ∀ n : Nat, ∀ j : Nat, (OfNat.ofNat n : Int32) + nI j = nI (n + j) := fun n j => nI_add n j
  unfold f_X11_isLeaf lf
  rw [ec, r6, e5]
  obtain ⟨j, hj, ej⟩ : ∃ j, j < 8 ∧ Y 1 i = j + 12 := ⟨Y 1 i - 12, by omega, by omega⟩
  rw [ej, show j + 12 - 12 = j by omega]
  have cmp : 14 ≤ Y 1 i → ∀ v : Int32, v = mV C G S q (j + 12) → f_X11_isLeaf_190 F 203 (nI (Y 2 i)) (nI (Y 3 i)) v μ = some (if j + 12 = 12 then decide (P 2 q = 1) else if j + 12 = 13 then (decide (q ≠ Y 3 i) && (decide (aQ C P G q ≠ -1) && decide (aQ C P G q = aQ C P G (Y 3 i)))) else if Y 2 i = 60 then decide (mV C G S q (j + 12) < nI (Y 3 i)) else if Y 2 i = 62 then decide (nI (Y 3 i) < mV C G S q (j + 12)) else decide (mV C G S q (j + 12) = nI (Y 3 i)), μ) := fun h14 v hv => by
    obtain ⟨k60, k62, k999⟩ := kn h14
    rw [if_neg (by omega), if_neg (by omega), ← hv]
    unfold f_X11_isLeaf_190
    by_cases c60 : Y 2 i = 60
    · rw [c60, if_pos (show nI 60 = 60 from rfl), if_pos rfl]
      by_cases c : nI (Y 3 i) ≤ v
      · rw [if_pos c, decide_eq_false (by grind)]
      · rw [if_neg c, decide_eq_true (by grind)]
    · rw [if_neg (show ¬ nI (Y 2 i) = 60 from ne _ 60 (by omega) (by decide) c60), if_neg c60]
      by_cases c62 : Y 2 i = 62
      · rw [c62, if_neg (show ¬ nI 62 = 61 by decide), if_pos rfl]
        by_cases c : v ≤ nI (Y 3 i)
        · rw [if_pos c, decide_eq_false (by grind)]
        · rw [if_neg c, decide_eq_true (by grind)]
      · rw [show Y 2 i = 61 by omega, if_pos (show nI 61 = 61 from rfl), if_neg (show ¬ (61 : Nat) = 62 by decide)]
        by_cases c : v = nI (Y 3 i)
        · rw [if_pos c, decide_eq_true c]
        · rw [if_neg c, decide_eq_false c]
  have h0 : j = 0 ∨ j = 1 ∨ j = 2 ∨ j = 3 ∨ j = 4 ∨ j = 5 ∨ j = 6 ∨ j = 7 := by omega
  rcases h0 with rfl | rfl | rfl | rfl | rfl | rfl | rfl | rfl
  · rw [if_pos (show nI 0 = 0 from rfl), if_pos (show 0 + 12 = 12 from rfl), show (445 : Int32) + nI q = nI (445 + q) from ad 445 q, pI_in_t (by omega) (by decide), pg_t, nI_clamp (by omega), (pm.2 q (by omega)).2.2]
    have p2 := (pw q).2.2.1
    by_cases c1 : P 2 q = 1
    · rw [c1, if_pos (show nI 1 = 1 from rfl)]
      rfl
    · rw [if_neg (show ¬ nI (P 2 q) = 1 from ne _ 1 (by omega) (by decide) c1), decide_eq_false c1]
  · have hj := kj (by omega)
    rw [if_neg (show ¬ nI 1 = 0 by decide), if_pos (show nI 1 = 1 from rfl), if_neg (show ¬ 1 + 12 = 12 by decide), if_pos (show 1 + 12 = 13 from rfl), show aw_in 455 1155 = true by decide, pg_t, show (455 : Int32).toNatClampNeg = 455 by decide, fm.1.1, show aw_in 456 1155 = true by decide, pg_t, show (456 : Int32).toNatClampNeg = 456 by decide, fm.1.2.1]
    have key : ∀ v : Int32, v = aQ C P G q → f_X11_isLeaf_58 F 203 (nI q) (nI (Y 3 i)) v μ = some (decide (q ≠ Y 3 i) && (decide (aQ C P G q ≠ -1) && decide (aQ C P G q = aQ C P G (Y 3 i))), μ) := fun v hv => by
      unfold f_X11_isLeaf_58
      rw [← hv]
      by_cases c2 : v = -1
      · rw [if_pos (show v < 0 by rw [c2]; decide), decide_eq_false (show ¬ v ≠ -1 from fun h => h c2), Bool.false_and, Bool.and_false]
      · have c2n : ¬ v < 0 := fun h => by
          rw [hv] at h c2
          exact c2 ((aQ_neg n20).1 h)
        rw [if_neg c2n, decide_eq_true c2, Bool.true_and]
        by_cases c1 : q = Y 3 i
        · rw [if_pos (by rw [c1]), decide_eq_false (fun h => h c1), Bool.false_and]
        · have hm : G 5 1 < 240 := by
            have : ¬ G 5 1 = 240 := fun h => c2 (by rw [hv]; unfold aQ; rw [if_pos h])
            omega
          rw [if_neg (ne _ _ (by omega) (by omega) c1), decide_eq_true c1, Bool.true_and, show aw_in 456 1155 = true by decide, pg_t, r6, e5, show (456 : Int32).toNatClampNeg = 456 by decide, fm.1.2.1, am _ hj hm, Option.bind_some]
          dsimp only
          by_cases c3 : v = aQ C P G (Y 3 i)
          · rw [if_pos c3, decide_eq_true c3]
          · rw [if_neg c3, decide_eq_false c3]
    by_cases c3 : 3 ≤ G 5 0
    · have hm : G 5 1 = 240 := by omega
      rw [if_pos (show (3 : Int32) ≤ nI (G 5 0) from (show nI 3 ≤ nI (G 5 0) from nI_le c3 (by omega)))]
      exact key (-1) (by unfold aQ; rw [if_pos hm])
    · have hm : G 5 1 < 240 := by omega
      rw [if_neg (show ¬ (3 : Int32) ≤ nI (G 5 0) from (show ¬ nI 3 ≤ nI (G 5 0) from nI_ge (by omega) (by decide))), am q hq hm, Option.bind_some]
      exact key _ rfl
  · rw [if_neg (show ¬ nI 2 = 0 by decide), if_neg (show ¬ nI 2 = 1 by decide), if_pos (show nI 2 = 2 from rfl), show (458 : Int32) + nI q = nI (458 + q) from ad 458 q, pI_in_t (by omega) (by decide), pg_t, nI_clamp (by omega)]
    exact cmp (by omega) _ (fm.2.1 q hq).1
  · rw [if_neg (show ¬ nI 3 = 0 by decide), if_neg (show ¬ nI 3 = 1 by decide), if_neg (show ¬ nI 3 = 2 by decide), if_pos (show nI 3 = 3 from rfl), show (467 : Int32) + nI q = nI (467 + q) from ad 467 q, pI_in_t (by omega) (by decide), pg_t, nI_clamp (by omega)]
    exact cmp (by omega) _ rfl
  · rw [if_neg (show ¬ nI 4 = 0 by decide), if_neg (show ¬ nI 4 = 1 by decide), if_neg (show ¬ nI 4 = 2 by decide), if_neg (show ¬ nI 4 = 3 by decide), if_pos (show nI 4 = 4 from rfl), show (476 : Int32) + nI q = nI (476 + q) from ad 476 q, pI_in_t (by omega) (by decide), pg_t, nI_clamp (by omega)]
    exact cmp (by omega) _ rfl
  · rw [if_neg (show ¬ nI 5 = 0 by decide), if_neg (show ¬ nI 5 = 1 by decide), if_neg (show ¬ nI 5 = 2 by decide), if_neg (show ¬ nI 5 = 3 by decide), if_neg (show ¬ nI 5 = 4 by decide), if_pos (show nI 5 = 5 from rfl), show (29 : Int32) + nI q = nI (29 + q) from ad 29 q, pI_in_t (by omega) (by decide), pg_t, nI_clamp (by omega)]
    exact cmp (by omega) _ (tm.2.2.2.1 q hq).2.2
  · have c1 : C 1 q < 100 := by have := (hwf.2.1 q hq).1; have := hwf.1; unfold cellok at *; omega
    rw [if_neg (show ¬ nI 6 = 0 by decide), if_neg (show ¬ nI 6 = 1 by decide), if_neg (show ¬ nI 6 = 2 by decide), if_neg (show ¬ nI 6 = 3 by decide), if_neg (show ¬ nI 6 = 4 by decide), if_neg (show ¬ nI 6 = 5 by decide), if_pos (show nI 6 = 6 from rfl), show (11 : Int32) + nI q = nI (11 + q) from ad 11 q, pI_in_t (by omega) (by decide), pg_t, nI_clamp (by omega), (tm.2.2.2.1 q hq).1, judges_m (by omega) hwf.t0 (by rw [e5]; exact tm) c1, Option.bind_some]
    exact cmp (by omega) _ rfl
  · rw [if_neg (show ¬ nI 7 = 0 by decide), if_neg (show ¬ nI 7 = 1 by decide), if_neg (show ¬ nI 7 = 2 by decide), if_neg (show ¬ nI 7 = 3 by decide), if_neg (show ¬ nI 7 = 4 by decide), if_neg (show ¬ nI 7 = 5 by decide), if_neg (show ¬ nI 7 = 6 by decide)]
    exact cmp (by omega) _ rfl
