theorem aimedAt_x {F q m : Nat} {T P G : Nat → Nat → Nat} {μ : aw_M} (hF : 100 ≤ F) (hwf : qTWF T) (pw : qPWF P (T 0 2)) (fw : qFWF T G) (px : qPX P μ 19) (fx : qFX T G μ 39) (hG : qGX T μ 28) (hq : q < T 0 2) (hm : m < 240) : f_X0_aimedAt F 39 (nI q) (nI m) μ = some (if P 0 q = 0 then -1 else if G 0 q = 0 then -1 else oI (aimo T P G q m (T 0 3)), μ) := by
  have hnq := hwf.1.2.2.1
  have hnc := hwf.1.2.2.2
  have r2 : aw_rf 39 2 = 28 := by simp only [rf0, rf1, rf4, rf5, rf19, rf23, rf28, rf39, rf53, rf67, rf71, rf76, rf88, rf97, rf101, rf109, rf110, rf124, rf128, rf133, rf144, rf156, rf157, rf171, rf175, rf180, rf191, rf51]
  have r8 : aw_rf 28 8 = 35 := by simp only [rf0, rf1, rf4, rf5, rf19, rf23, rf28, rf39, rf53, rf67, rf71, rf76, rf88, rf97, rf101, rf109, rf110, rf124, rf128, rf133, rf144, rf156, rf157, rf171, rf175, rf180, rf191, rf51]
  have r11 : aw_rf 28 11 = 38 := by simp only [rf0, rf1, rf4, rf5, rf19, rf23, rf28, rf39, rf53, rf67, rf71, rf76, rf88, rf97, rf101, rf109, rf110, rf124, rf128, rf133, rf144, rf156, rf157, rf171, rf175, rf180, rf191, rf51]
  obtain ⟨g1, g2⟩ := hG.2.2.2.2 m hm
  have c1 : (nI m).toNatClampNeg = m := nI_clamp (by omega)
  unfold f_X0_aimedAt
  rw [if_neg (nI_pos (by omega)), if_neg (show ¬ (240 : Int32) ≤ nI m from nI_ge (a := m) (b := 240) hm (by decide)), pI_in_t hm (by decide), pg_t, pg_t, r2, r8, c1]
  by_cases hv : vis T m = []
  · rw [if_pos (show μ.1 35 m = -1 from g1 hv)]
    have : aimo T P G q m (T 0 3) = (vis T m).foldl (stp T P G q) none := rfl
    rw [this, hv]
    show _ = some (if P 0 q = 0 then -1 else if G 0 q = 0 then -1 else -1, μ)
    split
    · rfl
    · split <;> rfl
  · obtain ⟨e1, -, -, -, e5⟩ := g2 hv
    have e1 : μ.1 35 m = nI (nbz T m) := e1
    have b1 := nbz_le T m
    have b2 := cntv_le T m
    have b3 := cntv_le T (m + 1)
    have b4 := cntv_succ T m
    have hn1 : nI (nbz T m) ≠ -1 := by
      have := nI_pos' (n := nbz T m) (by omega)
      grind
    rw [e1, if_neg hn1, aimedVisit_x hF hwf pw fw px fx hG hq hm hv, Option.bind_some]
    by_cases k0 : P 0 q = 0
    · rw [if_pos k0, if_pos k0, if_pos rfl]
    rw [if_neg k0, if_neg k0]
    by_cases k1 : G 0 q = 0
    · rw [if_pos k1, if_pos k1, if_pos rfl]
    rw [if_neg k1, if_neg k1, aim_fold (by omega)]
    cases hx : xi (fun c => dst (pl T q) (T 6 c)) (fun c => G 1 (20 * q + c)) (P 0 q) (P 1 q) (fun k => (vis T m).getD k 0) (vis T m).length with
    | none =>
      rw [if_pos (show xiI (cntv T m) none = -1 from rfl)]
      rfl
    | some i =>
      have hi := (xi_lt _ _ hx).1
      have e2 : xiI (cntv T m) (some i) = nI (cntv T m + i) := rfl
      have e3 : nI (cntv T m + i) ≠ -1 := by
        have := nI_pos' (n := cntv T m + i) (by omega)
        grind
      rw [e2, if_neg e3, pI_in_t (by omega) (by decide), pg_t, r11, nI_clamp (by omega)]
      have : μ.1 38 (cntv T m + i) = nI ((vis T m).getD i 0) := e5 i hi
      rw [this]
      rfl
theorem p_aims : op_aims R := by
  intro F hF a0 a1 μ hR
  have hR' := R_th (v := 0) hR
  obtain ⟨⟨C, W, P, Y, G, hS, hG⟩, hr⟩ := R_iff.1 hR
  obtain ⟨⟨hwf, ⟨⟨-, -, x3, -⟩, -⟩, tm⟩, -, ⟨pw, px, pm⟩, -, fw, fx, fm, -⟩ := hS
  have hnq := hwf.1.2.2.1
  unfold okI f_X10_aims f_X11_aims
  rw [xQ hnq x3, Option.bind_some]
  have r : aw_rf (aw_rf 0 1) 4 = 39 := by simp only [rf0, rf1, rf4, rf5, rf19, rf23, rf28, rf39, rf53, rf67, rf71, rf76, rf88, rf97, rf101, rf109, rf110, rf124, rf128, rf133, rf144, rf156, rf157, rf171, rf175, rf180, rf191, rf51]
  have y3 : (aw_wI μ 203 0 0).1 205 2 = nI (C 0 2) := by rw [rI_a (by decide)]; exact tm.1.2.2.1
  by_cases h0 : 0 ≤ a0 ∧ a0 ≤ nI (C 0 2) - 1
  · obtain ⟨q, hq, rfl⟩ := ix_of (by omega) h0
    rw [decide_eq_true h0, if_pos rfl, r]
    have hm : T (f_X0_aimedAt F 39 (nI q) a1 μ) fun r => r.2 = μ ∧ T (f_X11_aims F 203 (nI q) a1 μ) fun r2 => r.1 = r2.1 ∧ R r2.2 := by
      unfold f_X11_aims
      rw [plet, mQ y3, Option.bind_some, decide_eq_true h0, if_pos rfl, isIn_eq, Option.bind_some]
      rcases pk_ix a1 (n := 240) (by decide) with h1 | h1 | ⟨m, hm, rfl⟩
      · have k : ¬ (0 ≤ a1 ∧ a1 ≤ 239) := by grind
        rw [decide_eq_false k, if_neg Bool.false_ne_true]
        refine ⟨(-1, μ), ?_, rfl, ⟨_, rfl, rfl, hR'⟩⟩
        unfold f_X0_aimedAt
        rw [if_pos h1]
      · have e240 : nI 240 = 240 := by decide
        rw [e240] at h1
        have k : ¬ (0 ≤ a1 ∧ a1 ≤ 239) := by grind
        rw [decide_eq_false k, if_neg Bool.false_ne_true]
        refine ⟨(-1, μ), ?_, rfl, ⟨_, rfl, rfl, hR'⟩⟩
        unfold f_X0_aimedAt
        rw [if_neg (by grind), if_pos h1]
      · have k : 0 ≤ nI m ∧ nI m ≤ 239 := by
          have := nI_b hm (by decide)
          have e240 : nI 240 = 240 := by decide
          grind
        have e205 : (aw_wI μ 203 0 0).1 205 = μ.1 205 := by rw [rI_a (by decide)]
        rw [decide_eq_true k, if_pos rfl, aimed_m (T := C) (P := P) (G := G) (by omega) hwf pw fw (by rw [e205]; exact tm) (by rw [e205]; exact pm) (by rw [e205]; exact fm) hq hm, Option.bind_some]
        exact ⟨_, aimedAt_x (by omega) hwf pw fw px fx hG hq hm, rfl, ⟨_, rfl, rfl, hR'⟩⟩
    obtain ⟨r1, g1, g2, r2, g3, g4⟩ := hm
    refine ⟨(r1.1, r1.2), by rw [g1]; rfl, ?_⟩
    show T (f_X11_aims F 203 (nI q) a1 r1.2) _
    rw [g2]
    exact ⟨r2, g3, g4⟩
  · rw [decide_eq_false h0, if_neg Bool.false_ne_true]
    refine ⟨_, rfl, ?_⟩
    show T (f_X11_aims F 203 a0 a1 μ) _
    unfold f_X11_aims
    rw [plet, mQ y3, Option.bind_some, decide_eq_false h0, if_neg Bool.false_ne_true]
    exact ⟨_, rfl, rfl, hR'⟩
