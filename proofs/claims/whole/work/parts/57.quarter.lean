theorem xQ {F : Nat} {n : Nat} {a : Int32} {μ : aw_M} (hn : n ≤ 9) (e : μ.1 5 3 = nI n) : f_X10_isQuarter F 0 a μ = some (decide (0 ≤ a ∧ a ≤ nI n - 1), μ) := by
  unfold f_X10_isQuarter
  have r1 : aw_rf (aw_rf 0 1) 0 = 5 := by simp only [rf0, rf1, rf4, rf5, rf19, rf23, rf28, rf39, rf53, rf67, rf71, rf76, rf88, rf97, rf101, rf109, rf110, rf124, rf128, rf133, rf144, rf156, rf157, rf171, rf175, rf180, rf191, rf51]
  rw [r1, e]
  by_cases h : a < 0
  · have : ¬ (0 ≤ a ∧ a ≤ nI n - 1) := by grind
    rw [if_pos h, decide_eq_false this]
  · rw [if_neg h]
    have hb := nI_b (j := n) (n := 10) (by omega) (by decide)
    have e10 : nI 10 = 10 := by decide
    by_cases h2 : nI n ≤ a
    · have : ¬ (0 ≤ a ∧ a ≤ nI n - 1) := by grind
      rw [if_pos h2, decide_eq_false this]
    · have : (0 ≤ a ∧ a ≤ nI n - 1) := by grind
      rw [if_neg h2, decide_eq_true this]
theorem mQ {F : Nat} {n : Nat} {a : Int32} {μ : aw_M} (e : μ.1 205 2 = nI n) : f_X11_isQuarter F 203 a μ = some (decide (0 ≤ a ∧ a ≤ nI n - 1), μ) := by
  unfold f_X11_isQuarter
  have h1 : aw_in 2 1155 = true := by decide
  have h2 : (2 : Int32).toNatClampNeg = 2 := by decide
  rw [h1, pg_t, h2, rf203.2.1, e, isIn_eq]
  rfl
theorem xC {F : Nat} {n : Nat} {a : Int32} {μ : aw_M} (hn : n ≤ 20) (e : μ.1 5 4 = nI n) : f_X10_isCart F 0 a μ = some (decide (0 ≤ a ∧ a ≤ nI n - 1), μ) := by
  unfold f_X10_isCart
  have r1 : aw_rf (aw_rf 0 1) 0 = 5 := by simp only [rf0, rf1, rf4, rf5, rf19, rf23, rf28, rf39, rf53, rf67, rf71, rf76, rf88, rf97, rf101, rf109, rf110, rf124, rf128, rf133, rf144, rf156, rf157, rf171, rf175, rf180, rf191, rf51]
  rw [r1, e]
  by_cases h : a < 0
  · have : ¬ (0 ≤ a ∧ a ≤ nI n - 1) := by grind
    rw [if_pos h, decide_eq_false this]
  · rw [if_neg h]
    have hb := nI_b (j := n) (n := 21) (by omega) (by decide)
    have e10 : nI 21 = 21 := by decide
    by_cases h2 : nI n ≤ a
    · have : ¬ (0 ≤ a ∧ a ≤ nI n - 1) := by grind
      rw [if_pos h2, decide_eq_false this]
    · have : (0 ≤ a ∧ a ≤ nI n - 1) := by grind
      rw [if_neg h2, decide_eq_true this]
theorem mC {F : Nat} {n : Nat} {a : Int32} {μ : aw_M} (e : μ.1 205 3 = nI n) : f_X11_isCart F 203 a μ = some (decide (0 ≤ a ∧ a ≤ nI n - 1), μ) := by
  unfold f_X11_isCart
  have h1 : aw_in 3 1155 = true := by decide
  have h2 : (3 : Int32).toNatClampNeg = 3 := by decide
  rw [h1, pg_t, h2, rf203.2.1, e, isIn_eq]
  rfl
/-- a place among n -/
theorem ix_of {a : Int32} {n : Nat} (hn : n < 2 ^ 31) (h : 0 ≤ a ∧ a ≤ nI n - 1) : ∃ j, j < n ∧ a = nI j := by
  rcases pk_ix a hn with h0 | h0 | h0
  · exfalso; grind
  · exfalso
    have := nI_pos' hn
    grind
  · exact h0
theorem thrIf0 {F : Nat} {μ : aw_M} : f_X11_throwsIf F 203 (aw_b false) μ = some (false, aw_wI μ 203 0 0) := rfl
theorem thrIf1 {F : Nat} {μ : aw_M} : f_X11_throwsIf F 203 (aw_b true) μ = some (true, aw_wI μ 203 0 1) := rfl
/-- what a throwing question needs -/
theorem okX_t {F : Nat} {o : Option ax_r} {o2 : aw_M → Option (Int32 × aw_M)} {μ : aw_M} (hR : R μ) (h1 : o = some (none, μ)) (h2 : o2 μ = some (0, aw_wI μ 203 0 1)) : okX F R o o2 := by
  refine ⟨_, h1, ⟨_, h2, ⟨(1, aw_wI μ 203 0 1), ?_, rfl, R_th hR⟩⟩⟩
  unfold f_X11_thrown
  rw [rI_s]
theorem okX_v {F : Nat} {o : Option ax_r} {o2 : aw_M → Option (Int32 × aw_M)} {μ : aw_M} {v : Int32} (hR : R μ) (h1 : o = some (some v, μ)) (h2 : o2 (aw_wL μ 230 0 v.toInt64) = some (v, aw_wI (aw_wL μ 230 0 v.toInt64) 203 0 0)) : okX F R o o2 := by
  refine ⟨_, h1, ⟨_, h2, ⟨(0, aw_wI (aw_wL μ 230 0 v.toInt64) 203 0 0), ?_, rfl, rfl, ?_, R_th (R_ag ((Ag.rf μ).wL rfl) hR)⟩⟩⟩
  · unfold f_X11_thrown
    rw [rI_s]
  · show (aw_wI (aw_wL μ 230 0 v.toInt64) 203 0 0).2 230 0 = _
    rw [rI_2, rL_s]
theorem sel_k {α : Type} {j k : Nat} {os : List (Option α)} {od : Option α} (h : j + k < 2 ^ 31) : aw_sel ((nI (j + k)).toInt - (k : Int)) os od = os.getD j od := by
  unfold aw_sel
  rw [nI_toInt h]
  have : ((j + k : Nat) : Int) - (k : Int) = (j : Int) := by omega
  rw [this, if_neg (by omega)]
  congr 1
theorem quarter_m {F q i : Nat} {μ : aw_M} {n : Nat} (hn : n ≤ 9) (hq : q < n) (hi : i < 10) (y3 : μ.1 205 2 = nI n) : f_X11_quarter F 203 (nI q) (nI i) μ = f_X11_quarter_24 F 203 (nI q) (nI i) false μ := by
  have h0 : 0 ≤ nI q ∧ nI q ≤ nI n - 1 := ⟨(nI_b hq (by omega)).1, (nI_b hq (by omega)).2.2⟩
  have h1 : 0 ≤ nI i ∧ nI i ≤ 9 := by
    have := nI_b hi (by decide)
    have e10 : nI 10 = 10 := by decide
    grind
  unfold f_X11_quarter
  rw [mQ y3, Option.bind_some, decide_eq_true h0, if_pos rfl, isIn_eq, Option.bind_some, decide_eq_true h1, if_pos rfl]
theorem quarter_24 {F q i p : Nat} {μ : aw_M} (hq : q < 9) (hp : p ≤ 19) (e : μ.1 205 (427 + q) = nI p) : f_X11_quarter_24 F 203 (nI q) (nI i) false μ = f_X11_quarter_50 F 203 (nI q) (nI i) (decide (p ≠ 0)) (aw_wI μ 203 0 0) := by
  unfold f_X11_quarter_24
  have e427 : 427 + nI q = nI (427 + q) := nI_add 427 q
  have r : (aw_wI μ 203 0 0).1 205 (427 + q) = nI p := by rw [rI_a (by decide)]; exact e
  rw [thrIf0, Option.bind_some, if_neg Bool.false_ne_true, e427, pI_in_t (by omega) (by decide), pg_t, rf203.2.1, nI_clamp (by omega), r, ← nI_0]
  by_cases h : p = 0
  · subst h
    have : ¬ ((0 : Nat) ≠ 0) := by decide
    rw [if_pos (nI_le (Nat.le_refl 0) (by decide)), decide_eq_false this]
  · rw [if_neg (fun c => h (by rw [nI_leI (by omega) (by decide)] at c; omega)), decide_eq_true h]
theorem p_quarter : op_quarter R := by
  intro F hF a0 a1 μ hR
  obtain ⟨⟨T, W, P, Y, G, hS, hG⟩, hr⟩ := R_iff.1 hR
  obtain ⟨⟨hwf, ⟨⟨-, -, x3, -⟩, xh, xs, -⟩, ⟨⟨-, -, y3, -⟩, -, -, yh, ys, -⟩⟩, -, ⟨pw, px, pm⟩, -, fw, fx, fm, fs⟩ := hS
  have hn := hwf.1.2.2.1
  have nb := nI_b (j := T 0 2) (n := 10) (by omega) (by decide)
  have e10 : nI 10 = 10 := by decide
  by_cases h0 : 0 ≤ a0 ∧ a0 ≤ nI (T 0 2) - 1
  · by_cases h1 : 0 ≤ a1 ∧ a1 ≤ 9
    · obtain ⟨q, hq, rfl⟩ := ix_of (by omega) h0
      obtain ⟨i, hi, rfl⟩ := ix_of (n := 10) (by decide) (by rw [e10, show (10 : Int32) - 1 = 9 by decide]; exact h1)
      have hi9 : ¬ nI i < 0 ∧ nI i ≤ 9 := ⟨nI_pos (by omega), h1.2⟩
      have hxx : ∀ v, (if 6 ≤ nI i then (f_X10_quarterTold F 0 (nI q) (nI i) μ).bind fun r2 => some (some r2.1, r2.2) else (f_X10_quarterNow F 0 (nI q) (nI i) μ).bind fun r3 => some (some r3.1, r3.2)) = some (some v, μ) → f_X10_quarter F 0 (nI q) (nI i) μ = some (some v, μ) := fun v h => by
        unfold f_X10_quarter
        rw [xQ hn x3, Option.bind_some, decide_eq_true h0, if_pos rfl, if_neg hi9.1, if_pos hi9.2]
        exact h
      have hmm : ∀ v, (∀ μ2 : aw_M, μ2.1 205 = μ.1 205 → f_X11_quarter_50 F 203 (nI q) (nI i) (decide (P 0 q ≠ 0)) μ2 = some (v, μ2)) → ∀ w : Int64, f_X11_quarter F 203 (nI q) (nI i) (aw_wL μ 230 0 w) = some (v, aw_wI (aw_wL μ 230 0 w) 203 0 0) := fun v h w => by
        rw [quarter_m hn hq hi (show (aw_wL μ 230 0 w).1 205 2 = _ from y3), quarter_24 (p := P 0 q) (by omega) (pw q).1 (show (aw_wL μ 230 0 w).1 205 (427 + q) = _ from (pm.2 q (by omega)).1)]
        exact h _ (by rw [rI_a (by decide)]; rfl)
      have goal : ∀ v, (if 6 ≤ nI i then (f_X10_quarterTold F 0 (nI q) (nI i) μ).bind fun r2 => some (some r2.1, r2.2) else (f_X10_quarterNow F 0 (nI q) (nI i) μ).bind fun r3 => some (some r3.1, r3.2)) = some (some v, μ) → (∀ μ2 : aw_M, μ2.1 205 = μ.1 205 → f_X11_quarter_50 F 203 (nI q) (nI i) (decide (P 0 q ≠ 0)) μ2 = some (v, μ2)) → okX F R (f_X10_quarter F 0 (nI q) (nI i) μ) (fun μ1 => f_X11_quarter F 203 (nI q) (nI i) μ1) := fun v h1 h2 => okX_v hR (hxx v h1) (hmm v h2 _)
      have cq : (nI q).toNatClampNeg = q := nI_clamp (by omega)
      have iq : aw_in (nI q) 9 = true := pI_in_t (by omega) (by decide)
      have a1 := xh q hq
      have b1 := yh q hq
      have a2 := xs q (by omega)
      have b2 := ys q (by omega)
      have a3 := px.2 q (by omega)
      have b3 := pm.2 q (by omega)
      have a4 := fx.2.1 q hq
      have b4 := fm.2.1 q hq
      have a5 := fs.2.1 q hq
      unfold f_X10_quarterTold f_X10_quarterNow f_X11_quarter_50 at goal
      have hin : ∀ k, k ≤ 500 → aw_in (nI (k + q)) 1155 = true := fun k hk => pI_in_t (by omega) (by decide)
      have hcl : ∀ k, k ≤ 500 → (nI (k + q)).toNatClampNeg = k + q := fun k hk => nI_clamp (by omega)
      have s6 : ∀ {α : Type} (os : List (Option α)) (od : Option α), aw_sel ((nI 6).toInt - 6) os od = os.getD 0 od := fun os od => sel_k (j := 0) (k := 6) (by decide)
      have s7 : ∀ {α : Type} (os : List (Option α)) (od : Option α), aw_sel ((nI 7).toInt - 6) os od = os.getD 1 od := fun os od => sel_k (j := 1) (k := 6) (by decide)
      have s8 : ∀ {α : Type} (os : List (Option α)) (od : Option α), aw_sel ((nI 8).toInt - 6) os od = os.getD 2 od := fun os od => sel_k (j := 2) (k := 6) (by decide)
      have s9 : ∀ {α : Type} (os : List (Option α)) (od : Option α), aw_sel ((nI 9).toInt - 6) os od = os.getD 3 od := fun os od => sel_k (j := 3) (k := 6) (by decide)
      have hi' : i = 0 ∨ i = 1 ∨ i = 2 ∨ i = 3 ∨ i = 4 ∨ i = 5 ∨ i = 6 ∨ i = 7 ∨ i = 8 ∨ i = 9 := by omega
      clear hxx hmm hi hi9 h1
      rcases hi' with rfl | rfl | rfl | rfl | rfl | rfl | rfl | rfl | rfl | rfl
      · refine goal (nI (T 1 q)) ?_ fun μ2 h => ?_
        · have ex : μ.1 7 q = nI (T 1 q) := a1.1
          rw [if_neg (show ¬ (6 : Int32) ≤ nI 0 by decide), sel_j (by decide)]
          simp only [List.getD_cons_succ, List.getD_cons_zero, List.getD_nil, iq, pg_t, Option.bind_some, cq, rf0, rf1, rf4, rf5, rf19, rf23, rf28, rf39, rf53, rf67, rf71, rf76, rf88, rf97, rf101, rf109, rf110, rf124, rf128, rf133, rf144, rf156, rf157, rf171, rf175, rf180, rf191, rf51, ex]
        · have em : μ.1 205 (11 + q) = nI (T 1 q) := b1.1
          rw [sel_j (by decide)]
          simp only [List.getD_cons_succ, List.getD_cons_zero, List.getD_nil, rf203.2.1, h, show (11 : Int32) + nI q = nI (11 + q) from nI_add 11 q, hin 11 (by decide), hcl 11 (by decide), pg_t, em]
      · refine goal (nI (T 3 q)) ?_ fun μ2 h => ?_
        · have ex : μ.1 9 q = nI (T 3 q) := a1.2.2
          rw [if_neg (show ¬ (6 : Int32) ≤ nI 1 by decide), sel_j (by decide)]
          simp only [List.getD_cons_succ, List.getD_cons_zero, List.getD_nil, iq, pg_t, Option.bind_some, cq, rf0, rf1, rf4, rf5, rf19, rf23, rf28, rf39, rf53, rf67, rf71, rf76, rf88, rf97, rf101, rf109, rf110, rf124, rf128, rf133, rf144, rf156, rf157, rf171, rf175, rf180, rf191, rf51, ex]
        · have em : μ.1 205 (29 + q) = nI (T 3 q) := b1.2.2
          rw [sel_j (by decide)]
          simp only [List.getD_cons_succ, List.getD_cons_zero, List.getD_nil, rf203.2.1, h, show (29 : Int32) + nI q = nI (29 + q) from nI_add 29 q, hin 29 (by decide), hcl 29 (by decide), pg_t, em]
      · refine goal (nI (G 0 q)) ?_ fun μ2 h => ?_
        · have ex : μ.1 41 q = nI (G 0 q) := a4.1
          rw [if_neg (show ¬ (6 : Int32) ≤ nI 2 by decide), sel_j (by decide)]
          simp only [List.getD_cons_succ, List.getD_cons_zero, List.getD_nil, iq, pg_t, Option.bind_some, cq, rf0, rf1, rf4, rf5, rf19, rf23, rf28, rf39, rf53, rf67, rf71, rf76, rf88, rf97, rf101, rf109, rf110, rf124, rf128, rf133, rf144, rf156, rf157, rf171, rf175, rf180, rf191, rf51, ex]
        · have em : μ.1 205 (458 + q) = nI (G 0 q) := b4.1
          rw [sel_j (by decide)]
          simp only [List.getD_cons_succ, List.getD_cons_zero, List.getD_nil, rf203.2.1, h, show (458 : Int32) + nI q = nI (458 + q) from nI_add 458 q, hin 458 (by decide), hcl 458 (by decide), pg_t, em]
      · refine goal (μ.1 205 (467 + q)) ?_ fun μ2 h => ?_
        · have ex : μ.1 42 q = μ.1 205 (467 + q) := a5.1
          rw [if_neg (show ¬ (6 : Int32) ≤ nI 3 by decide), sel_j (by decide)]
          simp only [List.getD_cons_succ, List.getD_cons_zero, List.getD_nil, iq, pg_t, Option.bind_some, cq, rf0, rf1, rf4, rf5, rf19, rf23, rf28, rf39, rf53, rf67, rf71, rf76, rf88, rf97, rf101, rf109, rf110, rf124, rf128, rf133, rf144, rf156, rf157, rf171, rf175, rf180, rf191, rf51, ex]
        · have em : μ.1 205 (467 + q) = μ.1 205 (467 + q) := rfl
          rw [sel_j (by decide)]
          simp only [List.getD_cons_succ, List.getD_cons_zero, List.getD_nil, rf203.2.1, h, show (467 : Int32) + nI q = nI (467 + q) from nI_add 467 q, hin 467 (by decide), hcl 467 (by decide), pg_t, em]
      · refine goal (μ.1 205 (476 + q)) ?_ fun μ2 h => ?_
        · have ex : μ.1 43 q = μ.1 205 (476 + q) := a5.2
          rw [if_neg (show ¬ (6 : Int32) ≤ nI 4 by decide), sel_j (by decide)]
          simp only [List.getD_cons_succ, List.getD_cons_zero, List.getD_nil, iq, pg_t, Option.bind_some, cq, rf0, rf1, rf4, rf5, rf19, rf23, rf28, rf39, rf53, rf67, rf71, rf76, rf88, rf97, rf101, rf109, rf110, rf124, rf128, rf133, rf144, rf156, rf157, rf171, rf175, rf180, rf191, rf51, ex]
        · have em : μ.1 205 (476 + q) = μ.1 205 (476 + q) := rfl
          rw [sel_j (by decide)]
          simp only [List.getD_cons_succ, List.getD_cons_zero, List.getD_nil, rf203.2.1, h, show (476 : Int32) + nI q = nI (476 + q) from nI_add 476 q, hin 476 (by decide), hcl 476 (by decide), pg_t, em]
      · refine goal (nI (G 6 q)) ?_ fun μ2 h => ?_
        · have ex : μ.1 44 q = nI (G 6 q) := a4.2.1
          rw [if_neg (show ¬ (6 : Int32) ≤ nI 5 by decide), sel_j (by decide)]
          simp only [List.getD_cons_succ, List.getD_cons_zero, List.getD_nil, iq, pg_t, Option.bind_some, cq, rf0, rf1, rf4, rf5, rf19, rf23, rf28, rf39, rf53, rf67, rf71, rf76, rf88, rf97, rf101, rf109, rf110, rf124, rf128, rf133, rf144, rf156, rf157, rf171, rf175, rf180, rf191, rf51, ex]
        · have em : μ.1 205 (485 + q) = nI (G 6 q) := b4.2.1
          rw [sel_j (by decide)]
          simp only [List.getD_cons_succ, List.getD_cons_zero, List.getD_nil, rf203.2.1, h, show (485 : Int32) + nI q = nI (485 + q) from nI_add 485 q, hin 485 (by decide), hcl 485 (by decide), pg_t, em]
      · refine goal (nI (P 0 q) - 1) ?_ fun μ2 h => ?_
        · have ex : μ.1 20 q = nI (P 0 q) - 1 := a3.1
          rw [if_pos (show (6 : Int32) ≤ nI 6 by decide), s6]
          simp only [List.getD_cons_succ, List.getD_cons_zero, List.getD_nil, iq, pg_t, Option.bind_some, cq, rf0, rf1, rf4, rf5, rf19, rf23, rf28, rf39, rf53, rf67, rf71, rf76, rf88, rf97, rf101, rf109, rf110, rf124, rf128, rf133, rf144, rf156, rf157, rf171, rf175, rf180, rf191, rf51, ex]
        · have em : μ.1 205 (427 + q) = nI (P 0 q) := b3.1
          rw [sel_j (by decide)]
          simp only [List.getD_cons_succ, List.getD_cons_zero, List.getD_nil, rf203.2.1, h, show (427 : Int32) + nI q = nI (427 + q) from nI_add 427 q, hin 427 (by decide), hcl 427 (by decide), pg_t, em]
      · refine goal (if P 0 q = 0 then -1 else nI (P 1 q)) ?_ fun μ2 h => ?_
        · have ex : μ.1 21 q = if P 0 q = 0 then -1 else nI (P 1 q) := a3.2.1
          rw [if_pos (show (6 : Int32) ≤ nI 7 by decide), s7]
          simp only [List.getD_cons_succ, List.getD_cons_zero, List.getD_nil, iq, pg_t, Option.bind_some, cq, rf0, rf1, rf4, rf5, rf19, rf23, rf28, rf39, rf53, rf67, rf71, rf76, rf88, rf97, rf101, rf109, rf110, rf124, rf128, rf133, rf144, rf156, rf157, rf171, rf175, rf180, rf191, rf51, ex]
        · have em : μ.1 205 (436 + q) = nI (P 1 q) := b3.2.1
          rw [sel_j (by decide)]
          simp only [List.getD_cons_succ, List.getD_cons_zero, List.getD_nil, rf203.2.1, h, show (436 : Int32) + nI q = nI (436 + q) from nI_add 436 q, hin 436 (by decide), hcl 436 (by decide), pg_t, em]
          by_cases hp : P 0 q = 0
          · rw [if_pos hp, decide_eq_false (fun c => c hp), if_neg Bool.false_ne_true]
          · rw [if_neg hp, decide_eq_true hp, if_pos rfl]
      · refine goal (if P 0 q = 0 then -1 else nI (P 2 q)) ?_ fun μ2 h => ?_
        · have ex : μ.1 22 q = if P 0 q = 0 then -1 else nI (P 2 q) := a3.2.2
          rw [if_pos (show (6 : Int32) ≤ nI 8 by decide), s8]
          simp only [List.getD_cons_succ, List.getD_cons_zero, List.getD_nil, iq, pg_t, Option.bind_some, cq, rf0, rf1, rf4, rf5, rf19, rf23, rf28, rf39, rf53, rf67, rf71, rf76, rf88, rf97, rf101, rf109, rf110, rf124, rf128, rf133, rf144, rf156, rf157, rf171, rf175, rf180, rf191, rf51, ex]
        · have em : μ.1 205 (445 + q) = nI (P 2 q) := b3.2.2
          rw [sel_j (by decide)]
          simp only [List.getD_cons_succ, List.getD_cons_zero, List.getD_nil, rf203.2.1, h, show (445 : Int32) + nI q = nI (445 + q) from nI_add 445 q, hin 445 (by decide), hcl 445 (by decide), pg_t, em]
          by_cases hp : P 0 q = 0
          · rw [if_pos hp, decide_eq_false (fun c => c hp), if_neg Bool.false_ne_true]
          · rw [if_neg hp, decide_eq_true hp, if_pos rfl]
      · refine goal (nI (T 4 q) - 1) ?_ fun μ2 h => ?_
        · have ex : μ.1 10 q = nI (T 4 q) - 1 := a2
          rw [if_pos (show (6 : Int32) ≤ nI 9 by decide), s9]
          simp only [List.getD_cons_succ, List.getD_cons_zero, List.getD_nil, iq, pg_t, Option.bind_some, cq, rf0, rf1, rf4, rf5, rf19, rf23, rf28, rf39, rf53, rf67, rf71, rf76, rf88, rf97, rf101, rf109, rf110, rf124, rf128, rf133, rf144, rf156, rf157, rf171, rf175, rf180, rf191, rf51, ex]
        · have em : μ.1 205 (38 + q) = nI (T 4 q) := b2
          rw [sel_j (by decide)]
          simp only [List.getD_cons_succ, List.getD_cons_zero, List.getD_nil, rf203.2.1, h, show (38 : Int32) + nI q = nI (38 + q) from nI_add 38 q, hin 38 (by decide), hcl 38 (by decide), pg_t, em]
    · refine okX_t hR ?_ ?_
      · unfold f_X10_quarter
        rw [xQ hn x3, Option.bind_some, decide_eq_true h0, if_pos rfl]
        by_cases c : a1 < 0
        · rw [if_pos c]
        · rw [if_neg c, if_neg (by grind)]
      · unfold f_X11_quarter
        rw [mQ y3, Option.bind_some, decide_eq_true h0, if_pos rfl, isIn_eq, Option.bind_some, decide_eq_false h1, if_neg Bool.false_ne_true]
        unfold f_X11_quarter_19 f_X11_quarter_24
        rw [thrIf1]
        rfl
  · refine okX_t hR ?_ ?_
    · unfold f_X10_quarter
      rw [xQ hn x3, Option.bind_some, decide_eq_false h0, if_neg Bool.false_ne_true]
    · unfold f_X11_quarter
      rw [mQ y3, Option.bind_some, decide_eq_false h0, if_neg Bool.false_ne_true]
      unfold f_X11_quarter_19 f_X11_quarter_24
      rw [thrIf1]
      rfl
