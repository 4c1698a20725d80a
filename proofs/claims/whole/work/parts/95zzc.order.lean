/-! order: both sides -/
theorem p_order : op_order R := by
  intro F hF μ hR
  obtain ⟨⟨C, W, P, Y, G, hS, hG⟩, htp, hfa, hkp, hpz, hK⟩ := R_iff.1 hR
  obtain ⟨⟨hwf, tx, tm⟩, -⟩ := id hS
  have n9 := hwf.1.2.2.1
  have rr : aw_rf 0 10 = 101 ∧ aw_rf (aw_rf 0 1) 0 = 5 ∧ aw_rf (aw_rf 0 1) 3 = 28 := by simp only [rf0, rf1, rf4, rf5, rf19, rf23, rf28, rf39, rf53, rf67, rf71, rf76, rf88, rf97, rf101, rf109, rf110, rf124, rf128, rf133, rf144, rf156, rf157, rf171, rf175, rf180, rf191, rf51, and_self]
  unfold okI f_X10_order
  rw [rr.1, rr.2.1, rr.2.2, T_bind]
  by_cases hin : 1 ≤ C 0 3 ∧ C 0 3 ≤ 8
  · have gx : ∀ q c, q < C 0 2 → c < C 0 3 → μ.1 29 (20 * q + c) = nI (dst (C 1 q) (C 6 c)) := fun q c hq hc => by
      have h := (hG.1 q (by omega) (by rw [Nat.mod_eq_of_lt (by omega)]; exact hq)).1 c hc
      unfold pl at h
      rw [if_pos (show q < 9 by omega)] at h
      exact h
    refine T_mono (findOrder_x (F := F) (by omega) hwf tx gx hin.1 hin.2) ?_
    rintro ⟨r1, μ1⟩ ⟨ag1, e1, e2⟩
    dsimp only at ag1 e1 e2
    rw [T_some]
    dsimp only
    have h205 : μ1.1 205 = μ.1 205 := ag1.a fun k => decide_eq_true (by omega)
    refine T_mono (order_m (F := F) (C := C) hF hwf (by rw [h205]; exact tm) hin.1 hin.2) ?_
    rintro ⟨r2, μ2⟩ ⟨ag2, f1, f35, f2⟩
    dsimp only at ag2 f1 f35 f2 ⊢
    have hg := PL_go (C 0 3) (List.range (C 0 3)) List.length_range List.pairwise_lt_range
    have hlt := WtO_lt (C := C) hin.1
    have eb := fold_first hg (w := Wt (rcO C) (msO C (C 0 3))) (8, []) (1000000000, []) (by show _ < 8; omega) (by show _ < 1000000000; omega)
    have hb8 : ((PL (C 0 3) (List.range (C 0 3))).foldl (stO (Wt (rcO C) (msO C (C 0 3)))) (8, [])).1 < 8 := by
      obtain ⟨L', hL'⟩ := Gon_hd hg
      rw [hL']
      show (L'.foldl (stO (Wt (rcO C) (msO C (C 0 3)))) (stO (Wt (rcO C) (msO C (C 0 3))) (8, []) (List.range (C 0 3)))).1 < 8
      have h1 := stO_le (w := Wt (rcO C) (msO C (C 0 3))) L' (stO (Wt (rcO C) (msO C (C 0 3))) (8, []) (List.range (C 0 3)))
      have h2 : (stO (Wt (rcO C) (msO C (C 0 3))) (8, []) (List.range (C 0 3))).1 = Wt (rcO C) (msO C (C 0 3)) (List.range (C 0 3)) := by
        unfold stO
        rw [if_pos (show Wt (rcO C) (msO C (C 0 3)) (List.range (C 0 3)) < 8 by omega)]
      omega
    rw [← eb] at f1 f2
    have e2 := e2 hb8
    have f2 := f2 (by omega)
    have ag : AgK (fun a k => decide (¬ (102 ≤ a ∧ a ≤ 105) ∧ ¬ (a = 101 ∧ (k = 0 ∨ k = 2 ∨ k = 3 ∨ k = 4)) ∧ ¬ (218 ≤ a ∧ a ≤ 220) ∧ ¬ (a = 203 ∧ (k = 0 ∨ k = 35)))) μ μ2 := (ag1.sub fun a k h => decide_eq_true (by have := of_decide_eq_true h; omega)).tr (ag2.sub fun a k h => decide_eq_true (by have := of_decide_eq_true h; omega))
    refine ⟨e1.trans f1.symm, R_iff.2 ⟨Rsc_ag (ag.sub fun a k h => ?_) ⟨C, W, P, Y, G, hS, hG⟩, Rtp_ag (ag.sub fun a k h => ?_) htp, Rfa_ag (ag.sub fun a k h => ?_) hfa, Rkp_ag (ag.sub fun a k h => ?_) hkp, ?_, qK_ag (ag.sub fun a k h => ?_) hK⟩⟩
    · exact decide_eq_true (by have := of_decide_eq_true h; omega)
    · exact decide_eq_true (by have := of_decide_eq_true h; omega)
    · exact decide_eq_true (by have := of_decide_eq_true h; omega)
    · exact decide_eq_true (by have := of_decide_eq_true h; omega)
    · obtain ⟨z1, z2, z3, z4, z5⟩ := hpz
      have fa : ∀ a, (a ≠ 102 ∧ a ≠ 101 ∧ a ≠ 219 ∧ a ≠ 203 ∧ (a = 98 ∨ a = 212 ∨ a = 97 ∨ a = 100 ∨ a = 217 ∨ a = 222 ∨ a = 88 ∨ a = 96 ∨ a = 223)) → μ2.1 a = μ.1 a := fun a h => ag.a fun k => decide_eq_true (by omega)
      have f3 : ∀ k, k ≠ 0 → k ≠ 35 → μ2.1 203 k = μ.1 203 k := fun k h1 h2 => (ag 203 k (decide_eq_true (by omega))).1
      have f8 : μ2.1 101 8 = μ.1 101 8 := (ag 101 8 (decide_eq_true (by omega))).1
      have f9 : μ2.2 101 9 = μ.2 101 9 := (ag 101 9 (decide_eq_true (by omega))).2
      refine ⟨?_, ?_, ⟨C 0 3, hin.2, ?_, f35, fun i hi => ?_⟩, ?_, ?_⟩
      · rw [f3 26 (by decide) (by decide), fa 98 (by decide), fa 212 (by decide)]
        exact z1
      · rw [fa 97 (by decide), f3 31 (by decide) (by decide), fa 100 (by decide), fa 217 (by decide)]
        exact z2
      · rw [(ag2 101 0 (decide_eq_true (by omega))).1]
        exact e2.1
      · rw [(ag2 102 i (decide_eq_true (by omega))).1, e2.2 i hi, f2 i hi]
      · rw [f8, f9, f3 38 (by decide) (by decide), fa 222 (by decide)]
        exact z4
      · rw [fa 88 (by decide), f3 41 (by decide) (by decide), fa 96 (by decide), fa 223 (by decide)]
        exact z5
    · exact decide_eq_true (by have := of_decide_eq_true h; omega)
  · have n20 := hwf.1.2.2.2
    have ex : f_X9_findOrder F 101 5 28 μ = some (-1, μ) := by
      unfold f_X9_findOrder
      rw [tx.1.2.2.2]
      by_cases c : C 0 3 < 1
      · rw [if_pos (show nI (C 0 3) < 1 from (show nI (C 0 3) < nI 1 from nI_lt c (by decide)))]
      · rw [if_neg (show ¬ nI (C 0 3) < 1 from (show ¬ nI (C 0 3) < nI 1 from nI_nlt (by omega) (by omega))), if_neg (show ¬ nI (C 0 3) ≤ 8 from (show ¬ nI (C 0 3) ≤ nI 8 from nI_ge (by omega) (by omega)))]
    have em : f_X11_order F 203 μ = some (-1, aw_wI μ 203 0 0) := by
      unfold f_X11_order
      rw [plet, show aw_in 3 1155 = true by decide, pg_t, rf203.2.1, show (3 : Int32).toNatClampNeg = 3 by decide, rI_a (by decide), tm.1.2.2.2, plet, isIn_eq, Option.bind_some]
      dsimp only
      rw [if_neg]
      rw [decide_eq_true_eq]
      rintro ⟨h1, h2⟩
      by_cases c : C 0 3 < 1
      · exact nI_ge (a := C 0 3) (b := 1) c (by decide) h1
      · exact nI_ge (a := 8) (b := C 0 3) (by omega) (by omega) h2
    rw [ex]
    refine ⟨_, rfl, ?_⟩
    dsimp only
    rw [T_some]
    dsimp only
    rw [em]
    refine ⟨_, rfl, rfl, ?_⟩
    have ag : AgK (fun a k => decide (¬ (a = 203 ∧ k = 0))) μ (aw_wI μ 203 0 0) := (AgK.rf μ).wI (decide_eq_false (by omega))
    refine R_iff.2 ⟨Rsc_ag (ag.sub fun a k h => ?_) ⟨C, W, P, Y, G, hS, hG⟩, Rtp_ag (ag.sub fun a k h => ?_) htp, Rfa_ag (ag.sub fun a k h => ?_) hfa, Rkp_ag (ag.sub fun a k h => ?_) hkp, qPz_ag (ag.sub fun a k h => ?_) hpz, qK_ag (ag.sub fun a k h => ?_) hK⟩
    all_goals exact decide_eq_true (by have := of_decide_eq_true h; omega)
