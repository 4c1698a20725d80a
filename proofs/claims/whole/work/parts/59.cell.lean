theorem bits_t : ∀ x, x ≤ 1 → ∀ y, y ≤ 1 → ∀ z, z ≤ 1 → ∀ w, w ≤ 1 → (((nI (x + 2 * y + 4 * z + 8 * w) >>> ((0 : Int32) &&& 31)) &&& 1) = 0 ↔ x = 0) := by decide
theorem bits_t1 : ∀ x, x ≤ 1 → ∀ y, y ≤ 1 → ∀ z, z ≤ 1 → ∀ w, w ≤ 1 → (((nI (x + 2 * y + 4 * z + 8 * w) >>> ((1 : Int32) &&& 31)) &&& 1) = 0 ↔ y = 0) := by decide
theorem bits_t2 : ∀ x, x ≤ 1 → ∀ y, y ≤ 1 → ∀ z, z ≤ 1 → ∀ w, w ≤ 1 → (((nI (x + 2 * y + 4 * z + 8 * w) >>> ((2 : Int32) &&& 31)) &&& 1) = 0 ↔ z = 0) := by decide
theorem bN_le (b : Bool) : bN b ≤ 1 := by cases b <;> decide
theorem xOn {F a j w : Nat} {s : Int32} {μ : aw_M} (ha : a < 100) (hw : w ≤ 1) {v : Int32} (e : μ.1 16 a = v) (hb : ((v >>> (s &&& 31)) &&& 1) = 0 ↔ w = 0) : f_X8_hasOn F 5 s (nI a) μ = some (decide (w = 1), μ) := by
  unfold f_X8_hasOn
  have h1 : ¬ nI a < 0 := nI_pos (by omega)
  have h2 : ¬ (100 : Int32) ≤ nI a := nI_ge (a := a) (b := 100) ha (by decide)
  have r : aw_rf 5 15 = 16 := by simp only [rf0, rf1, rf4, rf5, rf19, rf23, rf28, rf39, rf53, rf67, rf71, rf76, rf88, rf97, rf101, rf109, rf110, rf124, rf128, rf133, rf144, rf156, rf157, rf171, rf175, rf180, rf191, rf51]
  rw [if_neg h1, if_neg h2, pI_in_t ha (by decide), pg_t, r, nI_clamp (by omega), e]
  by_cases h : w = 0
  · rw [if_pos (hb.2 h), decide_eq_false (by omega)]
  · rw [if_neg (fun q => h (hb.1 q)), decide_eq_true (by omega)]
theorem cell_own {F a i n : Nat} {T : Nat → Nat → Nat} {μ : aw_M} (hF : 100 ≤ F) (hn : n ≤ 9) (ha : a < 100) (y : μ.1 205 2 = nI n) (hc : ∀ q, q < n → μ.1 205 (11 + q) = nI (T 1 q) ∧ T 1 q < 100) : aw_loop (fun k s => f_X11_cell_36 F 203 k s.1 s.2.1 s.2.2.1 s.2.2.2.1 s.2.2.2.2) F (nI a, nI i, (-1), 0, μ) = f_X11_cell_70 F 203 (nI a) (nI i) (oI (own T a n)) μ := by
  refine lp_up (fun k => (nI a, nI i, oI (own T a k), nI k, μ)) n _ ?_ ?_ (by omega)
  · intro k hk g
    show f_X11_cell_36 F 203 g (nI a) (nI i) (oI (own T a k)) (nI k) μ = g (nI a, nI i, oI (own T a (k + 1)), nI (k + 1), μ)
    unfold f_X11_cell_36 f_X11_cell_64
    have i2 : aw_in 2 1155 = true := by decide
    have c2 : (2 : Int32).toNatClampNeg = 2 := by decide
    obtain ⟨h1, h2⟩ := hc k hk
    rw [i2, pg_t, c2, rf203.2.1, y, if_neg (nI_ge hk (by omega)), show (11 : Int32) + nI k = nI (11 + k) from nI_add 11 k, pI_in_t (by omega) (by decide), pg_t, nI_clamp (by omega), h1]
    have eo : own T a (k + 1) = if T 1 k = a then some k else own T a k := rfl
    rw [eo, nI_1]
    by_cases h : T 1 k = a
    · rw [if_pos h, h, if_pos rfl]
      rfl
    · rw [if_neg h, if_neg (fun q => h ((nI_eq (by omega) (by omega)).1 q))]
  · intro g
    show f_X11_cell_36 F 203 g (nI a) (nI i) (oI (own T a n)) (nI n) μ = _
    unfold f_X11_cell_36
    have i2 : aw_in 2 1155 = true := by decide
    have c2 : (2 : Int32).toNatClampNeg = 2 := by decide
    rw [i2, pg_t, c2, rf203.2.1, y, if_pos (nI_le (Nat.le_refl n) (by omega))]
theorem p_cell : op_cell R := by
  intro F hF a0 a1 μ hR
  obtain ⟨⟨T, W, P, Y, G, hS, hG⟩, hr⟩ := R_iff.1 hR
  obtain ⟨⟨hwf, ⟨⟨x1, x2, -⟩, -, -, -, -, xa, -⟩, ⟨⟨y1, y2, y3, -⟩, -, -, yh, -, -, ya⟩⟩, -, -, -, fw, fx, fm, fs⟩ := hS
  obtain ⟨w1, w2, w3, -⟩ := hwf.1
  have hq := hwf.2.1
  have hs := hwf.2.2.2.2.1
  have e6 : nI 6 = 6 := by decide
  have r5 : aw_rf (aw_rf 0 1) 0 = 5 := by simp only [rf0, rf1, rf4, rf5, rf19, rf23, rf28, rf39, rf53, rf67, rf71, rf76, rf88, rf97, rf101, rf109, rf110, rf124, rf128, rf133, rf144, rf156, rf157, rf171, rf175, rf180, rf191, rf51]
  cases hc0 : isC T a0 with
  | true =>
    by_cases h1 : 0 ≤ a1 ∧ a1 ≤ 5
    · obtain ⟨a, ha, rfl, hc⟩ := isC_ex hc0
      obtain ⟨i, hi, rfl⟩ := ix_of (n := 6) (by decide) (by rw [e6, show (6 : Int32) - 1 = 5 by decide]; exact h1)
      have hi9 : ¬ nI i < 0 ∧ nI i ≤ 5 := ⟨nI_pos (by omega), h1.2⟩
      have cq : (nI a).toNatClampNeg = a := nI_clamp (by omega)
      have iq : aw_in (nI a) 100 = true := pI_in_t ha (by decide)
      have a1 := xa a ha
      have b1 := ya a ha
      have a2 := fx.2.2.2 a ha
      have b2 := fm.2.2.2 a ha
      have s9 := ((hs 9 (by decide) (by decide)).1 a).1
      have s10 := ((hs 10 (by decide) (by decide)).1 a).1
      have s11 := ((hs 11 (by decide) (by decide)).1 a).1
      have t9 := bits_t _ s9 _ s10 _ s11 _ (bN_le (own T a (T 0 2)).isSome)
      have t10 := bits_t1 _ s9 _ s10 _ s11 _ (bN_le (own T a (T 0 2)).isSome)
      have t11 := bits_t2 _ s9 _ s10 _ s11 _ (bN_le (own T a (T 0 2)).isSome)
      have hin : ∀ k, k ≤ 900 → aw_in (nI (k + a)) 1155 = true := fun k hk => pI_in_t (by omega) (by decide)
      have hcl : ∀ k, k ≤ 900 → (nI (k + a)).toNatClampNeg = k + a := fun k hk => nI_clamp (by omega)
      have goal : ∀ v, f_X10_cell F 0 (nI a) (nI i) μ = some (some v, μ) → (∀ μ2 : aw_M, μ2.1 205 = μ.1 205 → f_X11_cell_70 F 203 (nI a) (nI i) (oI (own T a (T 0 2))) μ2 = some (v, μ2)) → okX F R (f_X10_cell F 0 (nI a) (nI i) μ) (fun μ1 => f_X11_cell F 203 (nI a) (nI i) μ1) := fun v g1 g2 => okX_v hR g1 (by
        unfold f_X11_cell
        rw [isCell_eq (T := T) (show (aw_wL μ 230 0 v.toInt64).1 205 0 = _ from y1) (show (aw_wL μ 230 0 v.toInt64).1 205 1 = _ from y2) w1 w2, Option.bind_some, hc0, if_pos rfl, isIn_eq, Option.bind_some, decide_eq_true h1, if_pos rfl]
        unfold f_X11_cell_23
        rw [thrIf0, Option.bind_some, if_neg Bool.false_ne_true]
        have e205 : (aw_wI (aw_wL μ 230 0 v.toInt64) 203 0 0).1 205 = μ.1 205 := by rw [rI_a (by decide)]; rfl
        rw [cell_own (T := T) (n := T 0 2) (by omega) w3 ha (by rw [e205]; exact y3) (fun q hq' => ⟨by rw [e205]; exact (yh q hq').1, by have := (hq q hq').1; unfold cellok at this; omega⟩)]
        exact g2 _ e205)
      have hxc : f_X8_hasCell F 5 (nI a) μ = some (true, μ) := by rw [hasCell_eq (T := T) x1 x2 w1 w2, hc0]
      have hi' : i = 0 ∨ i = 1 ∨ i = 2 ∨ i = 3 ∨ i = 4 ∨ i = 5 := by omega
      clear hi h1
      rcases hi' with rfl | rfl | rfl | rfl | rfl | rfl
      · refine goal (nI (G 3 a)) ?_ fun μ2 h => ?_
        · have ex : μ.1 48 a = nI (G 3 a) := a2.1
          unfold f_X10_cell
          rw [r5, hxc, Option.bind_some, if_pos rfl, if_neg hi9.1, if_pos hi9.2]
          rw [sel_j (by decide)]
          simp only [List.getD_cons_succ, List.getD_cons_zero, List.getD_nil, iq, pg_t, Option.bind_some, cq, rf0, rf1, rf4, rf5, rf19, rf23, rf28, rf39, rf53, rf67, rf71, rf76, rf88, rf97, rf101, rf109, rf110, rf124, rf128, rf133, rf144, rf156, rf157, rf171, rf175, rf180, rf191, rf51, ex]
        · have em : μ.1 205 (714 + a) = nI (G 3 a) := b2.1
          unfold f_X11_cell_70
          rw [sel_j (by decide)]
          simp only [List.getD_cons_succ, List.getD_cons_zero, List.getD_nil, rf203.2.1, h, show (714 : Int32) + nI a = nI (714 + a) from nI_add 714 a, hin 714 (by decide), hcl 714 (by decide), pg_t, em]
      · refine goal (oI (own T a (T 0 2))) ?_ fun μ2 h => ?_
        · have ex : μ.1 17 a = oI (own T a (T 0 2)) := a1.2
          unfold f_X10_cell
          rw [r5, hxc, Option.bind_some, if_pos rfl, if_neg hi9.1, if_pos hi9.2]
          rw [sel_j (by decide)]
          simp only [List.getD_cons_succ, List.getD_cons_zero, List.getD_nil, iq, pg_t, Option.bind_some, cq, rf0, rf1, rf4, rf5, rf19, rf23, rf28, rf39, rf53, rf67, rf71, rf76, rf88, rf97, rf101, rf109, rf110, rf124, rf128, rf133, rf144, rf156, rf157, rf171, rf175, rf180, rf191, rf51, ex]
        · unfold f_X11_cell_70
          rw [sel_j (by decide)]
          simp only [List.getD_cons_succ, List.getD_cons_zero, List.getD_nil]
      · refine goal (nI (T 9 a)) ?_ fun μ2 h => ?_
        · unfold f_X10_cell
          rw [r5, hxc, Option.bind_some, if_pos rfl, if_neg hi9.1, if_pos hi9.2, sel_j (by decide)]
          simp only [List.getD_cons_succ, List.getD_cons_zero, List.getD_nil, r5]
          rw [xOn (j := 0) ha s9 (show μ.1 16 a = _ from a1.1) t9, Option.bind_some]
          by_cases k : T 9 a = 1
          · rw [decide_eq_true k, if_pos rfl, k]
            rfl
          · have k0 : T 9 a = 0 := by omega
            rw [decide_eq_false k, if_neg Bool.false_ne_true, k0]
            rfl
        · have em : μ.1 205 (127 + a) = nI (T 9 a) := b1.1
          unfold f_X11_cell_70
          rw [sel_j (by decide)]
          simp only [List.getD_cons_succ, List.getD_cons_zero, List.getD_nil, rf203.2.1, h, show (127 : Int32) + nI a = nI (127 + a) from nI_add 127 a, hin 127 (by decide), hcl 127 (by decide), pg_t, em]
      · refine goal (nI (T 10 a)) ?_ fun μ2 h => ?_
        · unfold f_X10_cell
          rw [r5, hxc, Option.bind_some, if_pos rfl, if_neg hi9.1, if_pos hi9.2, sel_j (by decide)]
          simp only [List.getD_cons_succ, List.getD_cons_zero, List.getD_nil, r5]
          rw [xOn (j := 0) ha s10 (show μ.1 16 a = _ from a1.1) t10, Option.bind_some]
          by_cases k : T 10 a = 1
          · rw [decide_eq_true k, if_pos rfl, k]
            rfl
          · have k0 : T 10 a = 0 := by omega
            rw [decide_eq_false k, if_neg Bool.false_ne_true, k0]
            rfl
        · have em : μ.1 205 (227 + a) = nI (T 10 a) := b1.2.1
          unfold f_X11_cell_70
          rw [sel_j (by decide)]
          simp only [List.getD_cons_succ, List.getD_cons_zero, List.getD_nil, rf203.2.1, h, show (227 : Int32) + nI a = nI (227 + a) from nI_add 227 a, hin 227 (by decide), hcl 227 (by decide), pg_t, em]
      · refine goal (nI (T 11 a)) ?_ fun μ2 h => ?_
        · unfold f_X10_cell
          rw [r5, hxc, Option.bind_some, if_pos rfl, if_neg hi9.1, if_pos hi9.2, sel_j (by decide)]
          simp only [List.getD_cons_succ, List.getD_cons_zero, List.getD_nil, r5]
          rw [xOn (j := 0) ha s11 (show μ.1 16 a = _ from a1.1) t11, Option.bind_some]
          by_cases k : T 11 a = 1
          · rw [decide_eq_true k, if_pos rfl, k]
            rfl
          · have k0 : T 11 a = 0 := by omega
            rw [decide_eq_false k, if_neg Bool.false_ne_true, k0]
            rfl
        · have em : μ.1 205 (327 + a) = nI (T 11 a) := b1.2.2
          unfold f_X11_cell_70
          rw [sel_j (by decide)]
          simp only [List.getD_cons_succ, List.getD_cons_zero, List.getD_nil, rf203.2.1, h, show (327 : Int32) + nI a = nI (327 + a) from nI_add 327 a, hin 327 (by decide), hcl 327 (by decide), pg_t, em]
      · refine goal (nI (G 4 a)) ?_ fun μ2 h => ?_
        · have ex : μ.1 49 a = nI (G 4 a) := a2.2
          unfold f_X10_cell
          rw [r5, hxc, Option.bind_some, if_pos rfl, if_neg hi9.1, if_pos hi9.2]
          rw [sel_j (by decide)]
          simp only [List.getD_cons_succ, List.getD_cons_zero, List.getD_nil, iq, pg_t, Option.bind_some, cq, rf0, rf1, rf4, rf5, rf19, rf23, rf28, rf39, rf53, rf67, rf71, rf76, rf88, rf97, rf101, rf109, rf110, rf124, rf128, rf133, rf144, rf156, rf157, rf171, rf175, rf180, rf191, rf51, ex]
        · have em : μ.1 205 (814 + a) = nI (G 4 a) := b2.2
          unfold f_X11_cell_70
          rw [sel_j (by decide)]
          simp only [List.getD_cons_succ, List.getD_cons_zero, List.getD_nil, rf203.2.1, h, show (814 : Int32) + nI a = nI (814 + a) from nI_add 814 a, hin 814 (by decide), hcl 814 (by decide), pg_t, em]
    · refine okX_t hR ?_ ?_
      · unfold f_X10_cell
        rw [r5, hasCell_eq (T := T) x1 x2 w1 w2, hc0, Option.bind_some, if_pos rfl]
        by_cases c : a1 < 0
        · rw [if_pos c]
        · rw [if_neg c, if_neg (by grind)]
      · unfold f_X11_cell
        rw [isCell_eq (T := T) y1 y2 w1 w2, Option.bind_some, hc0, if_pos rfl, isIn_eq, Option.bind_some, decide_eq_false h1, if_neg Bool.false_ne_true]
        unfold f_X11_cell_18 f_X11_cell_23
        rw [thrIf1]
        rfl
  | false =>
    refine okX_t hR ?_ ?_
    · unfold f_X10_cell
      rw [r5, hasCell_eq (T := T) x1 x2 w1 w2, hc0, Option.bind_some, if_neg Bool.false_ne_true]
    · unfold f_X11_cell
      rw [isCell_eq (T := T) y1 y2 w1 w2, Option.bind_some, hc0, if_neg Bool.false_ne_true]
      unfold f_X11_cell_18 f_X11_cell_23
      rw [thrIf1]
      rfl
