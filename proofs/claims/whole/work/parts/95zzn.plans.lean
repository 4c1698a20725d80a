/-! plans: the state behind it -/
theorem qSC_swap {C : Nat → Nat → Nat} {W : Nat → List Nat} {P Y G P' Y' : Nat → Nat → Nat} {μ μ' : aw_M} {S S' : Nat → Int32} {N N' : Nat → Int64} (h : qSC C W P Y G μ 4 S N) (hx : ∀ a, (5 ≤ a ∧ a ≤ 18) ∨ (39 ≤ a ∧ a ≤ 50) → μ'.1 a = μ.1 a) (h6 : μ'.2 6 = μ.2 6) (hN : ∀ q, q < 9 → N' q = N q) (hs : ∀ i, i < 427 ∨ (455 ≤ i ∧ i < 974) → S' i = S i) (hp : qPWF P' (C 0 2) ∧ qPX P' μ' 19 ∧ qPM P' S') (hy : qYWF Y' (C 0 2) ∧ qYX Y' μ' 23 ∧ qYM Y' S') : qSC C W P' Y' G μ' 4 S' N' := by
  obtain ⟨⟨hwf, tx, tm⟩, ⟨w1, w2, w3⟩, -, -, f1, f2, f3, f4⟩ := h
  have n9 := hwf.1.2.2.1
  have f4' : qFS C G μ' 39 S := by
    unfold qFS at f4 ⊢
    simp (disch := omega) only [hx]
    exact f4
  obtain ⟨g3, g4⟩ := qF_s hwf f1 (fun i h1 h2 => hs i (.inr ⟨h1, h2⟩)) f3 f4'
  refine ⟨⟨hwf, qTX_ag (fun a h1 h2 => hx a (.inl (by omega))) tx, qTM_s hwf (fun i hi => hs i (.inl hi)) tm⟩, ⟨fun q hq => ?_, w2, w3⟩, hp, hy, f1, ?_, g3, g4⟩
  · obtain ⟨g1, g2, g3⟩ := w1 q hq
    refine ⟨g1, ?_, ?_⟩
    · show μ'.2 6 q = _
      rw [h6]; exact g2
    · rw [hN q (by omega)]; exact g3
  · unfold qFX at f2 ⊢
    simp (disch := omega) only [hx]
    exact f2
theorem closeT {F : Nat} {b : Bool} {told : Int32} {μ : aw_M} : f_X10_closeText F 0 (aw_b b) told μ = some (if b = true then told else -1 - μ.1 1 12, aw_wI (aw_wI μ 0 11 (if b = true then 0 else μ.1 1 11)) 1 1 0) := by
  have r0 : aw_rf 0 0 = 1 := by simp only [rf0, rf1, rf4, rf5, rf19, rf23, rf28, rf39, rf53, rf67, rf71, rf76, rf88, rf97, rf101, rf109, rf110, rf124, rf128, rf133, rf144, rf156, rf157, rf171, rf175, rf180, rf191, rf51]
  unfold f_X10_closeText f_X10_closeText_16
  rw [r0]
  cases b with
  | true =>
    rw [if_neg (show ¬ aw_b true = 0 by decide), plet, plet, if_neg (show ¬ aw_b true = 0 by decide), if_pos rfl, if_pos rfl]
  | false =>
    rw [if_pos (show aw_b false = 0 by decide), plet, plet, if_pos (show aw_b false = 0 by decide), if_neg Bool.false_ne_true, if_neg Bool.false_ne_true, rI_k (by decide), rI_a (by decide)]
theorem R_stX {n : Nat} {B : Nat → Nat} {μ : aw_M} (h : qTape n B μ) (hK : qK μ) : StX n B μ ∧ StM n B μ := ⟨⟨h.1, h.2.1, fun i hi => ⟨(h.2.2.2 i hi).1, (h.2.2.2 i hi).2.1⟩, fun i hi => (hK.1 i hi).1⟩, ⟨h.1, h.2.2.1, fun i hi => ⟨(h.2.2.2 i hi).1, (h.2.2.2 i hi).2.2⟩, fun i hi => (hK.1 i hi).2⟩⟩
theorem StM_ag {n : Nat} {B : Nat → Nat} {μ μ' : aw_M} {K : Nat → Nat → Bool} (ag : AgK K μ μ') (hK : ∀ a k, (a = 203 ∧ k = 2) ∨ a = 204 ∨ a = 209 → K a k = true) (h : StM n B μ) : StM n B μ' := ⟨h.1, by rw [(ag 203 2 (hK _ _ (by omega))).1]; exact h.2.1, fun i hi => ⟨(h.2.2.1 i hi).1, by rw [(ag 204 i (hK _ _ (by omega))).1]; exact (h.2.2.1 i hi).2⟩, fun i hi => by rw [(ag 209 i (hK _ _ (by omega))).2]; exact h.2.2.2 i hi⟩
theorem p_plans : op_plans R := by
  intro F hF μ hR
  obtain ⟨⟨C, W, P, Y, G, hS, hG⟩, ⟨n, B, htp⟩, hfa, hkp, hpz, hK⟩ := R_iff.1 hR
  obtain ⟨⟨hwf, tx, tm⟩, ⟨w1, w2, w3⟩, ⟨p1, p2, p3⟩, ⟨y1, y2, y3⟩, -⟩ := id hS
  have n9 := hwf.1.2.2.1
  obtain ⟨sx, sm⟩ := R_stX htp hK
  have nx : NmX (C 0 2) W μ := ⟨n9, tx.1.2.2.1, fun q hq => ⟨(w1 q hq).1, (w1 q hq).2.1⟩⟩
  have nm : NmM (C 0 2) W μ := ⟨tm.1.2.2.1, fun q hq => ⟨(w1 q hq).1, (w1 q hq).2.2⟩⟩
  obtain ⟨⟨b, μ1⟩, ea, hb⟩ := RT_all (S := fun ν => StM n B ν ∧ NmM (C 0 2) W ν) (Q := fun ν => PlEnd (C 0 2) n μ ν) (fun ν h => plans_t hF sx h.1 nx h.2 w2) (ν0 := μ) ⟨sm, nm⟩
  obtain ⟨_, -, fx, -⟩ := hb μ ⟨sm, nm⟩
  dsimp only at fx
  have rr : aw_rf 0 5 = 67 ∧ aw_rf 0 0 = 1 ∧ aw_rf (aw_rf 0 1) 0 = 5 ∧ aw_rf (aw_rf 0 1) 1 = 19 := by simp only [rf0, rf1, rf4, rf5, rf19, rf23, rf28, rf39, rf53, rf67, rf71, rf76, rf88, rf97, rf101, rf109, rf110, rf124, rf128, rf133, rf144, rf156, rf157, rf171, rf175, rf180, rf191, rf51, and_self]
  have fin : ∀ μ2 : aw_M, AgK (fun a k => decide (¬ (a = 1 ∧ 3 ≤ k ∧ k ≤ 12) ∧ ¬ (67 ≤ a ∧ a ≤ 70) ∧ ¬ (19 ≤ a ∧ a ≤ 22))) μ μ2 → μ2.1 1 = μ1.1 1 → μ2.1 67 = μ1.1 67 → (b = true → μ2.1 19 0 = μ1.1 67 0 ∧ ∀ q, q < 9 → μ2.1 20 q = μ1.1 68 q ∧ μ2.1 21 q = μ1.1 69 q ∧ μ2.1 22 q = μ1.1 70 q) → (b = false → ∀ a, 19 ≤ a → a ≤ 22 → μ2.1 a = μ.1 a) → T (f_X10_plans_37 F 0 b μ2) fun r1 => T (f_X11_plans F 203 r1.2) fun r2 => r1.1 = r2.1 ∧ R r2.2 := fun μ2 ag2 e1 e67 et ef => by
    unfold f_X10_plans_37
    rw [rr.1, closeT, Option.bind_some, T_some]
    dsimp only
    have ag3 : AgK (fun a k => decide (¬ (a = 1 ∧ (k = 1 ∨ (3 ≤ k ∧ k ≤ 12))) ∧ ¬ (67 ≤ a ∧ a ≤ 70) ∧ ¬ (19 ≤ a ∧ a ≤ 22) ∧ ¬ (a = 0 ∧ k = 11))) μ (aw_wI (aw_wI μ2 0 11 (if b = true then 0 else μ2.1 1 11)) 1 1 0) := ((ag2.sub fun a k h => decide_eq_true (by have := of_decide_eq_true h; omega)).wI (decide_eq_false (by omega))).wI (decide_eq_false (by omega))
    have s1 : (aw_wI (aw_wI μ2 0 11 (if b = true then 0 else μ2.1 1 11)) 1 1 0).1 1 1 = 0 := rI_s
    have s11 : (aw_wI (aw_wI μ2 0 11 (if b = true then 0 else μ2.1 1 11)) 1 1 0).1 0 11 = if b = true then 0 else μ1.1 1 11 := by rw [rI_a (by decide), rI_s, e1]
    have so : ∀ a, 19 ≤ a → a ≤ 22 → (aw_wI (aw_wI μ2 0 11 (if b = true then 0 else μ2.1 1 11)) 1 1 0).1 a = μ2.1 a := fun a h1 h2 => by rw [rI_a (by omega), rI_a (by omega)]
    rw [e1, e67]
    rw [e1] at ag3 s1 s11 so
    generalize aw_wI (aw_wI μ2 0 11 (if b = true then 0 else μ1.1 1 11)) 1 1 0 = μ3 at ag3 s1 s11 so ⊢
    have sm3 : StM n B μ3 := StM_ag ag3 (fun a k h => decide_eq_true (by omega)) sm
    have nm3 : NmM (C 0 2) W μ3 := NmM_ag ag3 (fun a k h => decide_eq_true (by omega)) nm
    refine T_mono (hb μ3 ⟨sm3, nm3⟩) ?_
    rintro ⟨r2, ν⟩ ⟨-, fm, e2, h⟩
    dsimp only at fm e2 h ⊢
    have ag : AgK (fun a k => decide (¬ (a = 1 ∧ (k = 1 ∨ (3 ≤ k ∧ k ≤ 12))) ∧ ¬ (67 ≤ a ∧ a ≤ 70) ∧ ¬ (19 ≤ a ∧ a ≤ 22) ∧ ¬ (a = 0 ∧ k = 11) ∧ ¬ (a = 203 ∧ (k = 0 ∨ (2 ≤ k ∧ k ≤ 5) ∨ (11 ≤ k ∧ k ≤ 18))) ∧ a ≠ 207 ∧ ¬ (a = 205 ∧ 427 ≤ k ∧ k ≤ 454))) μ ν := (ag3.sub fun a k h => decide_eq_true (by have := of_decide_eq_true h; omega)).tr (fm.sub fun a k h => decide_eq_true (by have := of_decide_eq_true h; omega))
    have h011 : ν.1 0 11 = if b = true then 0 else μ1.1 1 11 := by rw [(fm 0 11 (decide_eq_true (by omega))).1]; exact s11
    have htp' : Rtp ν := ⟨0, B, by decide, by rw [(fm 1 1 (decide_eq_true (by omega))).1]; exact s1, e2, fun i hi => absurd hi (Nat.not_lt_zero i)⟩
    have hkp' : Rkp ν := Rkp_ag (ag.sub fun a k h => decide_eq_true (by have := of_decide_eq_true h; omega)) hkp
    have hpz' : qPz ν := qPz_ag (ag.sub fun a k h => decide_eq_true (by have := of_decide_eq_true h; omega)) hpz
    have hK' : qK ν := qK_ag (ag.sub fun a k h => decide_eq_true (by have := of_decide_eq_true h; omega)) hK
    have fo : ∀ a, 19 ≤ a → a ≤ 22 → ν.1 a = μ2.1 a := fun a h1 h2 => (fm.a fun k => decide_eq_true (by omega)).trans (so a h1 h2)
    rcases h with ⟨rfl, P', c, hc, h3, hP', m67, mr, er, e15, hm⟩ | ⟨rfl, e205, v, a, v1, v2, va, t1, t2, t3, t4⟩
    · obtain ⟨i0, ir⟩ := et rfl
      refine ⟨by rw [if_pos rfl, er]; exact m67, R_iff.2 ⟨⟨C, W, P', Y, G, qSC_swap hS (fun a h => ag.a fun k => decide_eq_true (by omega)) (ag.b fun k => decide_eq_true (by omega)) (fun q hq => (ag 208 q (decide_eq_true (by omega))).2) (fun i hi => (ag 205 i (decide_eq_true (by omega))).1) ⟨hP', ⟨?_, fun q hq => ?_⟩, hm⟩ ⟨y1, ?_, qYM_s y1 (fun i h1 h2 => (ag 205 i (decide_eq_true (by omega))).1) y3⟩, qGX_ag (fun a h1 h2 => ag.a fun k => decide_eq_true (by omega)) hG⟩, htp', ?_, hkp', hpz', hK'⟩⟩
      · rw [fo 19 (by decide) (by decide), i0, m67, h3]
      · obtain ⟨j1, j2, j3⟩ := ir q hq
        obtain ⟨k1, k2, k3⟩ := mr q hq
        show ν.1 20 q = _ ∧ ν.1 21 q = _ ∧ ν.1 22 q = _
        rw [fo 20 (by decide) (by decide), fo 21 (by decide) (by decide), fo 22 (by decide) (by decide), j1, j2, j3]
        exact ⟨k1, k2, k3⟩
      · have hy : ∀ a, 23 ≤ a → a ≤ 26 → ν.1 a = μ.1 a := fun a h1 h2 => ag.a fun k => decide_eq_true (by omega)
        unfold qYX at y2 ⊢
        simp (disch := omega) only [hy]
        exact y2
      · show ν.1 0 11 = ν.1 203 15
        rw [h011, e15, if_pos rfl]
    · refine ⟨by rw [if_neg Bool.false_ne_true, t2, t3], R_iff.2 ⟨?_, htp', ?_, hkp', hpz', hK'⟩⟩
      · have h205 : ν.1 205 = μ.1 205 := e205.trans (ag3.a fun k => decide_eq_true (by omega))
        have hpl : ∀ a, 19 ≤ a → a ≤ 22 → ν.1 a = μ.1 a := fun a h1 h2 => (fo a h1 h2).trans (ef rfl a h1 h2)
        have hy : ∀ a, 23 ≤ a → a ≤ 26 → ν.1 a = μ.1 a := fun a h1 h2 => ag.a fun k => decide_eq_true (by omega)
        refine ⟨C, W, P, Y, G, qSC_swap hS (fun a h => ag.a fun k => decide_eq_true (by omega)) (ag.b fun k => decide_eq_true (by omega)) (fun q hq => (ag 208 q (decide_eq_true (by omega))).2) (fun i hi => by rw [h205]) ⟨p1, ?_, by rw [h205]; exact p3⟩ ⟨y1, ?_, by rw [h205]; exact y3⟩, qGX_ag (fun a h1 h2 => ag.a fun k => decide_eq_true (by omega)) hG⟩
        · unfold qPX at p2 ⊢
          simp (disch := omega) only [hpl]
          exact p2
        · unfold qYX at y2 ⊢
          simp (disch := omega) only [hy]
          exact y2
      · show ν.1 0 11 = ν.1 203 15
        rw [h011, t4, if_neg Bool.false_ne_true, t1]
  unfold okI f_X10_plans
  rw [rr.1, rr.2.1, rr.2.2.1, rr.2.2.2, ea, Option.bind_some]
  cases b with
  | true =>
    dsimp only
    rw [if_pos rfl]
    have q1 : pRf 67 := by
      unfold pRf
      simp only [rf0, rf1, rf4, rf5, rf19, rf23, rf28, rf39, rf53, rf67, rf71, rf76, rf88, rf97, rf101, rf109, rf110, rf124, rf128, rf133, rf144, rf156, rf157, rf171, rf175, rf180, rf191, rf51, and_self]
    have q2 : pSh 67 := by
      unfold pSh
      decide
    refine T_call (takeP (a := 67) (b := 19) (by decide) q1 sOb_4.2.2.2.1 q2 sOb_4.2.2.2.2.1) ?_
    rintro μ2 ⟨⟨t0, t1⟩, t2, t3⟩
    refine fin μ2 (fun a k h => ?_) (t3 1 (by omega)) (t3 67 (by omega)) (fun _ => ⟨t0, fun q hq => ⟨t1 1 9 (by decide) q hq, t1 2 9 (by decide) q hq, t1 3 9 (by decide) q hq⟩⟩) (fun h => by cases h)
    have h := of_decide_eq_true h
    rw [t3 a (fun k hk => by omega), t2]
    exact fx a k (decide_eq_true (by omega))
  | false =>
    dsimp only
    rw [if_neg Bool.false_ne_true]
    exact fin μ1 (fx.sub fun a k h => decide_eq_true (by have := of_decide_eq_true h; omega)) rfl rfl (fun h => by cases h) (fun _ a h1 h2 => fx.a fun k => decide_eq_true (by omega))
