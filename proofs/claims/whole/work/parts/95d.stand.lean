theorem haveSpots_x {F s : Nat} {C P : Nat → Nat → Nat} {μ : aw_M} (hF : 100 ≤ F) (hc : ctx C P μ) (hs : s < 2 ^ 31) : T (f_X5_haveSpots F 88 (nI s) μ) fun r => r.2 = μ ∧ (r.1 = true ↔ spOK C s) := by
  have hwf := hc.1
  have hnq := hwf.1.2.2.1
  have r0 : aw_rf 88 0 = 5 := by simp only [rf0, rf1, rf4, rf5, rf19, rf23, rf28, rf39, rf53, rf67, rf71, rf76, rf88, rf97, rf101, rf109, rf110, rf124, rf128, rf133, rf144, rf156, rf157, rf171, rf175, rf180, rf191, rf51]
  have t9 : aw_rf 5 9 = 10 := by simp only [rf0, rf1, rf4, rf5, rf19, rf23, rf28, rf39, rf53, rf67, rf71, rf76, rf88, rf97, rf101, rf109, rf110, rf124, rf128, rf133, rf144, rf156, rf157, rf171, rf175, rf180, rf191, rf51]
  have x3 : μ.1 5 3 = nI (C 0 2) := hc.2.2.1.1.1.2.2.1
  have hsh : nI s >>> (nI (C 0 2) &&& 31) = nI (s / 2 ^ C 0 2) := pk_shrN hs _ _ (sh31 _ (by omega))
  have hdl : s / 2 ^ C 0 2 < 2 ^ 31 := Nat.lt_of_le_of_lt (Nat.div_le_self _ _) hs
  unfold f_X5_haveSpots
  rw [if_neg (nI_pos hs), r0, x3, hsh]
  by_cases h0 : s / 2 ^ C 0 2 = 0
  · have hlt : s < 2 ^ C 0 2 := by
      rcases Nat.div_eq_zero_iff.1 h0 with h | h
      · have := Nat.two_pow_pos (C 0 2); omega
      · exact h
    rw [if_pos (show nI (s / 2 ^ C 0 2) = 0 by rw [h0]; rfl)]
    refine T_lp (fun i t => t = (nI s, nI i, μ) ∧ ∀ q, q < i → bitN s q = 1 → C 4 q ≠ 0) (C 0 2) (by omega) ⟨rfl, fun q hq => absurd hq (Nat.not_lt_zero _)⟩ ?_ ?_
    · rintro i hi _ ⟨rfl, h⟩ k hk
      show T (f_X5_haveSpots_20 F 88 k (nI s) (nI i) μ) _
      have t4 : μ.1 10 i = nI (C 4 i) - 1 := hc.2.2.1.1.2.2.1 i (by omega)
      unfold f_X5_haveSpots_20 f_X5_haveSpots_54
      rw [r0, x3, if_neg (nI_ge hi (by omega)), bit_I hs (by omega), nI_1]
      have hb := bitN_lt s i
      by_cases k1 : bitN s i = 0
      · rw [if_pos (show nI (bitN s i) = 0 by rw [k1]; rfl)]
        refine hk _ ⟨rfl, fun q hq h1 => ?_⟩
        by_cases e : q = i
        · subst e; omega
        · exact h q (by omega) h1
      · have h4b : C 4 i ≤ 100 := by
          rcases (hwf.2.1 i hi).2.2.2.2 with h | h
          · omega
          · have := hc.2.1.cell h
            omega
        rw [if_neg (nI_ne0 (by omega) (by omega)), pI_in_t (by omega) (by decide), pg_t, t9, nI_clamp (by omega), t4]
        by_cases k2 : C 4 i = 0
        · rw [if_pos (show nI (C 4 i) - 1 = -1 by rw [k2]; decide), T_some]
          exact ⟨rfl, fun h => absurd h Bool.false_ne_true, fun h => absurd k2 (h i (by omega)).2⟩
        · have : ¬ nI (C 4 i) - 1 = -1 := by
            have h1 := nI_ne0 (n := C 4 i) (by omega) (by omega)
            grind
          rw [if_neg this]
          refine hk _ ⟨rfl, fun q hq h1 => ?_⟩
          by_cases e : q = i
          · subst e; exact k2
          · exact h q (by omega) h1
    · rintro _ ⟨rfl, h⟩ k
      show T (f_X5_haveSpots_20 F 88 k (nI s) (nI (C 0 2)) μ) _
      unfold f_X5_haveSpots_20
      rw [r0, x3, if_pos (nI_le (Nat.le_refl _) (by omega)), T_some]
      refine ⟨rfl, fun _ i hi => ?_, fun _ => rfl⟩
      by_cases e : i < C 0 2
      · exact ⟨e, h i e hi⟩
      · have : s < 2 ^ i := Nat.lt_of_lt_of_le hlt (Nat.pow_le_pow_right (n := 2) (by decide) (by omega))
        have h1 := (bit_tb s i).2 hi
        rw [Nat.testBit_lt_two_pow this] at h1
        cases h1
  · rw [if_neg (nI_ne0 (Nat.pos_of_ne_zero h0) hdl), T_some]
    refine ⟨rfl, fun h => absurd h Bool.false_ne_true, fun h => absurd ?_ h0⟩
    exact Nat.div_eq_of_lt (spOK_lt h)
theorem standing_x {F q s : Nat} {C P : Nat → Nat → Nat} {μ : aw_M} (hF : 2000 ≤ F) (hc : ctx C P μ) (hs : s < 2 ^ 31) (hq : q < C 0 2) : T (f_X5_marksStanding F 88 (nI q) (nI s) μ) fun r => r.1 = tv C (μ.1 205) (pfS s) (rW C P) q ∧ AgK kSD μ r.2 := by
  have hwf := hc.1
  have hnq := hwf.1.2.2.1
  have r0 : aw_rf 88 0 = 5 := by simp only [rf0, rf1, rf4, rf5, rf19, rf23, rf28, rf39, rf53, rf67, rf71, rf76, rf88, rf97, rf101, rf109, rf110, rf124, rf128, rf133, rf144, rf156, rf157, rf171, rf175, rf180, rf191, rf51]
  unfold f_X5_marksStanding
  refine T_call (playAll_x hF hwf hc.2.1.2.1 hc.2.2.1) ?_
  rintro μ1 ⟨g1, ag1⟩
  refine T_lp (fun i t => ∃ μ' pf wf, t = (nI q, nI s, nI i, μ') ∧ SDC C (C 0 2) pf wf μ' ∧ (∀ k, k < C 0 2 → pf k = (if k < i then pfS s k else k) ∧ wf k = rW C P k) ∧ AgK kSD μ μ') (C 0 2) (by omega) ⟨μ1, _, _, rfl, g1, fun k _ => ⟨by rw [if_neg (Nat.not_lt_zero k)], rfl⟩, ag1⟩ ?_ ?_
  · rintro i hi _ ⟨μ', pf, wf, rfl, g2, g3, ag2⟩ k hk
    have ev' := hc.2.2.1.sd ag2
    show T (f_X5_marksStanding_6 F 88 k (nI q) (nI s) (nI i) μ') _
    unfold f_X5_marksStanding_6
    rw [r0, show μ'.1 5 3 = nI (C 0 2) from ev'.1.1.2.2.1, if_neg (nI_ge hi (by omega)), bit_I hs (by omega), nI_1]
    refine T_call (standAt_x (b := bitN s i) hF hwf hc.2.1.2.1 ev' g2 hi (bitN_lt s i) (.inl ⟨hi, rfl⟩)) ?_
    rintro μ2 ⟨g4, ag4⟩
    refine hk _ ⟨μ2, _, _, rfl, g4, fun k hk => ⟨?_, ?_⟩, ag2.tr ag4⟩
    · show (if k = i then 9 * bitN s i + i else pf k) = _
      by_cases e : k = i
      · rw [if_pos e, if_pos (by omega), e]
        rfl
      · rw [if_neg e, (g3 k hk).1]
        by_cases e2 : k < i
        · rw [if_pos e2, if_pos (by omega)]
        · rw [if_neg e2, if_neg (by omega)]
    · show (if k = i then rW C P i else wf k) = _
      by_cases e : k = i
      · rw [if_pos e, e]
      · rw [if_neg e, (g3 k hk).2]
  · rintro _ ⟨μ', pf, wf, rfl, g2, g3, ag2⟩ k
    have hc' := hc.sc (sd_scr ag2)
    have ev' := hc.2.2.1.sd ag2
    have e205 : μ'.1 205 = μ.1 205 := ag2.a fun k => decide_eq_true (by omega)
    show T (f_X5_marksStanding_6 F 88 k (nI q) (nI s) (nI (C 0 2)) μ') _
    unfold f_X5_marksStanding_6 f_X5_marksStanding_33
    rw [r0, show μ'.1 5 3 = nI (C 0 2) from ev'.1.1.2.2.1, if_pos (nI_le (Nat.le_refl _) (by omega)), marksOf_c hF hc' g2 hq, Option.bind_some, T_some]
    refine ⟨?_, ag2⟩
    show tv C (μ'.1 205) pf wf q = _
    rw [e205]
    exact tv_ext (fun k hk => ⟨by rw [(g3 k hk).1, if_pos hk], (g3 k hk).2⟩) (fun _ _ => rfl) hq
theorem p_stand : op_stand R := by
  intro F hF a0 a1 μ hR
  obtain ⟨C, P, hc⟩ := ctx_of hR
  have hwf := hc.1
  have hnq := hwf.1.2.2.1
  have r8 : aw_rf 0 8 = 88 := by simp only [rf0, rf1, rf4, rf5, rf19, rf23, rf28, rf39, rf53, rf67, rf71, rf76, rf88, rf97, rf101, rf109, rf110, rf124, rf128, rf133, rf144, rf156, rf157, rf171, rf175, rf180, rf191, rf51]
  have r23 : aw_rf 203 23 = 211 := by simp only [rf203, rf203b]
  have x3 : μ.1 5 3 = nI (C 0 2) := hc.2.2.1.1.1.2.2.1
  have hc0 := hc.sc ((AgK.rf μ).wI (v := 0) kScr_3)
  have y0 : (aw_wI μ 203 0 0).1 205 2 = nI (C 0 2) := hc0.2.1.2.2.1.1.2.2.1
  unfold okI f_X10_stand f_X11_stand
  rw [xQ hnq x3, Option.bind_some]
  by_cases h0 : 0 ≤ a0 ∧ a0 ≤ nI (C 0 2) - 1
  · obtain ⟨q, hq, rfl⟩ := ix_of (by omega) h0
    rw [decide_eq_true h0, if_pos rfl, r8]
    by_cases hn : a1 < 0
    · have : f_X5_haveSpots F 88 a1 μ = some (false, μ) := by
        unfold f_X5_haveSpots
        rw [if_pos hn]
      rw [this, Option.bind_some, if_neg Bool.false_ne_true]
      refine ⟨_, rfl, ?_⟩
      show T (aw_let (aw_wI μ 203 0 0) _) _
      rw [plet, mQ y0, Option.bind_some, decide_eq_true h0, if_pos rfl, if_pos hn]
      exact ⟨_, rfl, rfl, R_th hR⟩
    · obtain ⟨s, hs, rfl⟩ := nI_of hn
      obtain ⟨⟨r1, r2⟩, e1, e2, e3⟩ := haveSpots_x (F := F) (by omega) hc hs
      have e2 : r2 = μ := e2
      subst e2
      rw [e1, Option.bind_some]
      by_cases hp : spOK C s
      · have e3 : r1 = true := e3.2 hp
        subst e3
        rw [if_pos rfl]
        obtain ⟨r3, f1, f2, f3⟩ := standing_x (F := F) (by omega) hc hs hq
        refine ⟨(r3.1, r3.2), by rw [f1]; rfl, ?_⟩
        have ag2 := (sd_scr f3).wI (v := 0) kScr_3
        have hc2 := hc.sc ag2
        have y2 : (aw_wI r3.2 203 0 0).1 205 2 = nI (C 0 2) := hc2.2.1.2.2.1.1.2.2.1
        have e205 : (aw_wI r3.2 203 0 0).1 205 = r2.1 205 := by
          rw [rI_a (by decide)]
          exact f3.a fun k => decide_eq_true (by omega)
        show T (aw_let (aw_wI r3.2 203 0 0) _) _
        rw [plet, mQ y2, Option.bind_some, decide_eq_true h0, if_pos rfl, if_neg hn, spotters_m (by omega) hc2, Option.bind_some, if_pos ((spOK_m hs).2 hp)]
        refine T_call (stands_m (by omega) hc2 hs hp) ?_
        rintro μ4 ⟨d1, d2, -⟩
        rw [pI_in_t (by omega) (by decide), pg_t, T_some, r23, nI_clamp (by omega), d2 q hq, e205]
        exact ⟨f2, R_scr (ag2.tr d1) hR⟩
      · have e3 : r1 = false := by
          cases r1 with
          | false => rfl
          | true => exact absurd (e3.1 rfl) hp
        subst e3
        rw [if_neg Bool.false_ne_true]
        refine ⟨_, rfl, ?_⟩
        show T (aw_let (aw_wI r2 203 0 0) _) _
        rw [plet, mQ y0, Option.bind_some, decide_eq_true h0, if_pos rfl, if_neg hn, spotters_m (by omega) hc0, Option.bind_some, if_neg (fun h => hp ((spOK_m hs).1 h))]
        exact ⟨_, rfl, rfl, R_th hR⟩
  · rw [decide_eq_false h0, if_neg Bool.false_ne_true]
    refine ⟨_, rfl, ?_⟩
    show T (aw_let (aw_wI μ 203 0 0) _) _
    rw [plet, mQ y0, Option.bind_some, decide_eq_false h0, if_neg Bool.false_ne_true]
    exact ⟨_, rfl, rfl, R_th hR⟩
