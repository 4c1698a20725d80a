/-! the sentence: the state behind it -/
def YE (E : List (Nat × Nat × Nat)) (f i : Nat) : Nat := if f = 0 then E.length else if f = 1 then (E.getD i (0, 0, 0)).1 else if f = 2 then (E.getD i (0, 0, 0)).2.1 else (E.getD i (0, 0, 0)).2.2
theorem takeE_s (E : List (Nat × Nat × Nat)) (j : Nat) (h : j < E.length) : E.take (j + 1) = E.take j ++ [E.getD j (0, 0, 0)] := by
  rw [List.take_succ, List.getD_eq_getElem?_getD, List.getElem?_eq_getElem h]
  rfl
theorem yh_E (E : List (Nat × Nat × Nat)) : ∀ i, i ≤ E.length → yh (YE E) i = htE (E.take i)
  | 0, _ => rfl
  | i + 1, h => by
    rw [takeE_s E i (by omega), htE_s]
    have ih := yh_E E i (by omega)
    unfold yh nxh
    rw [ih]
    rfl
theorem YE_wf {nq : Nat} {E : List (Nat × Nat × Nat)} (hl : E.length ≤ 39) (hok : okE nq E) (hht : htE E = 1) : qYWF (YE E) nq := by
  refine ⟨hl, .inr ?_, fun i hi => ?_⟩
  · show yh (YE E) E.length = 1
    rw [yh_E E _ (Nat.le_refl _), List.take_length]
    exact hht
  · have hi : i < E.length := hi
    obtain ⟨c1, c2, c3, c4, c5, c6, c7⟩ := hok i hi
    rw [yh_E E i (by omega), yh_E E (i + 1) (by omega), takeE_s E i hi, htE_s]
    exact ⟨c1, c2, c3, c4, c5, c6, c7⟩
theorem p_sentence : op_sentence R := by
  intro F hF μ hR
  obtain ⟨⟨C, W, P, Y, G, hS, hG⟩, ⟨n, B, htp⟩, hfa, hkp, hpz, hK⟩ := R_iff.1 hR
  obtain ⟨⟨hwf, tx, tm⟩, ⟨w1, w2, w3⟩, ⟨p1, p2, p3⟩, ⟨y1, y2, y3⟩, -⟩ := id hS
  have n9 := hwf.1.2.2.1
  obtain ⟨sx, sm⟩ := R_stX htp hK
  have nx : NmX (C 0 2) W μ := ⟨n9, tx.1.2.2.1, fun q hq => ⟨(w1 q hq).1, (w1 q hq).2.1⟩⟩
  have nm : NmM (C 0 2) W μ := ⟨tm.1.2.2.1, fun q hq => ⟨(w1 q hq).1, (w1 q hq).2.2⟩⟩
  obtain ⟨⟨b, μ1⟩, ea, hb⟩ := RT_all (S := fun ν => StM n B ν ∧ NmM (C 0 2) W ν) (Q := fun ν => SnEnd n (C 0 2) μ ν) (fun ν h => sent_t hF sx h.1 nx h.2 w2) (ν0 := μ) ⟨sm, nm⟩
  obtain ⟨_, -, fx, -⟩ := hb μ ⟨sm, nm⟩
  dsimp only at fx
  have rr : aw_rf 0 6 = 71 ∧ aw_rf 0 0 = 1 ∧ aw_rf (aw_rf 0 1) 0 = 5 ∧ aw_rf (aw_rf 0 1) 2 = 23 := by simp only [rf0, rf1, rf4, rf5, rf19, rf23, rf28, rf39, rf53, rf67, rf71, rf76, rf88, rf97, rf101, rf109, rf110, rf124, rf128, rf133, rf144, rf156, rf157, rf171, rf175, rf180, rf191, rf51, and_self]
  have fin : ∀ μ2 : aw_M, AgK (fun a k => decide (¬ (a = 1 ∧ 3 ≤ k ∧ k ≤ 12) ∧ ¬ (71 ≤ a ∧ a ≤ 74) ∧ ¬ (23 ≤ a ∧ a ≤ 26))) μ μ2 → μ2.1 1 = μ1.1 1 → μ2.1 71 = μ1.1 71 → (b = true → μ2.1 23 1 = μ1.1 71 1 ∧ ∀ i, i < 40 → μ2.1 24 i = μ1.1 72 i ∧ μ2.1 25 i = μ1.1 73 i ∧ μ2.1 26 i = μ1.1 74 i) → (b = false → ∀ a, 23 ≤ a → a ≤ 26 → μ2.1 a = μ.1 a) → T (f_X10_sentence_37 F 0 b μ2) fun r1 => T (f_X11_sentence F 203 r1.2) fun r2 => r1.1 = r2.1 ∧ R r2.2 := fun μ2 ag2 e1 e71 et ef => by
    unfold f_X10_sentence_37
    rw [rr.1, closeT, Option.bind_some, T_some]
    dsimp only
    have ag3 : AgK (fun a k => decide (¬ (a = 1 ∧ (k = 1 ∨ (3 ≤ k ∧ k ≤ 12))) ∧ ¬ (71 ≤ a ∧ a ≤ 74) ∧ ¬ (23 ≤ a ∧ a ≤ 26) ∧ ¬ (a = 0 ∧ k = 11))) μ (aw_wI (aw_wI μ2 0 11 (if b = true then 0 else μ2.1 1 11)) 1 1 0) := ((ag2.sub fun a k h => decide_eq_true (by have := of_decide_eq_true h; omega)).wI (decide_eq_false (by omega))).wI (decide_eq_false (by omega))
    have s1 : (aw_wI (aw_wI μ2 0 11 (if b = true then 0 else μ2.1 1 11)) 1 1 0).1 1 1 = 0 := rI_s
    have s11 : (aw_wI (aw_wI μ2 0 11 (if b = true then 0 else μ2.1 1 11)) 1 1 0).1 0 11 = if b = true then 0 else μ1.1 1 11 := by rw [rI_a (by decide), rI_s, e1]
    have so : ∀ a, 23 ≤ a → a ≤ 26 → (aw_wI (aw_wI μ2 0 11 (if b = true then 0 else μ2.1 1 11)) 1 1 0).1 a = μ2.1 a := fun a h1 h2 => by rw [rI_a (by omega), rI_a (by omega)]
    rw [e1, e71]
    rw [e1] at ag3 s1 s11 so
    generalize aw_wI (aw_wI μ2 0 11 (if b = true then 0 else μ1.1 1 11)) 1 1 0 = μ3 at ag3 s1 s11 so ⊢
    have sm3 : StM n B μ3 := StM_ag ag3 (fun a k h => decide_eq_true (by omega)) sm
    have nm3 : NmM (C 0 2) W μ3 := NmM_ag ag3 (fun a k h => decide_eq_true (by omega)) nm
    refine T_mono (hb μ3 ⟨sm3, nm3⟩) ?_
    rintro ⟨r2, ν⟩ ⟨-, fm, e2, h⟩
    dsimp only at fm e2 h ⊢
    have ag : AgK (fun a k => decide (¬ (a = 1 ∧ (k = 1 ∨ (3 ≤ k ∧ k ≤ 12))) ∧ ¬ (71 ≤ a ∧ a ≤ 74) ∧ ¬ (23 ≤ a ∧ a ≤ 26) ∧ ¬ (a = 0 ∧ k = 11) ∧ ¬ (a = 203 ∧ (k = 0 ∨ (2 ≤ k ∧ k ≤ 5) ∨ (11 ≤ k ∧ k ≤ 18) ∨ (43 ≤ k ∧ k ≤ 47))) ∧ a ≠ 207 ∧ a ≠ 225 ∧ ¬ (a = 205 ∧ 974 ≤ k ∧ k < 1155))) μ ν := (ag3.sub fun a k h => decide_eq_true (by have := of_decide_eq_true h; omega)).tr (fm.sub fun a k h => decide_eq_true (by have := of_decide_eq_true h; omega))
    have h011 : ν.1 0 11 = if b = true then 0 else μ1.1 1 11 := by rw [(fm 0 11 (decide_eq_true (by omega))).1]; exact s11
    have htp' : Rtp ν := ⟨0, B, by decide, by rw [(fm 1 1 (decide_eq_true (by omega))).1]; exact s1, e2, fun i hi => absurd hi (Nat.not_lt_zero i)⟩
    have hkp' : Rkp ν := Rkp_ag (ag.sub fun a k h => decide_eq_true (by have := of_decide_eq_true h; omega)) hkp
    have hpz' : qPz ν := qPz_ag (ag.sub fun a k h => decide_eq_true (by have := of_decide_eq_true h; omega)) hpz
    have hK' : qK ν := qK_ag (ag.sub fun a k h => decide_eq_true (by have := of_decide_eq_true h; omega)) hK
    have fo : ∀ a, 23 ≤ a → a ≤ 26 → ν.1 a = μ2.1 a := fun a h1 h2 => (fm.a fun k => decide_eq_true (by omega)).trans (so a h1 h2)
    have hp2 : qPX P ν 19 := by
      have hp : ∀ a, 19 ≤ a → a ≤ 22 → ν.1 a = μ.1 a := fun a h1 h2 => ag.a fun k => decide_eq_true (by omega)
      unfold qPX at p2 ⊢
      simp (disch := omega) only [hp]
      exact p2
    have hp3 : qPM P (ν.1 205) := by
      have hs : ∀ i, i < 974 → ν.1 205 i = μ.1 205 i := fun i hi => (ag 205 i (decide_eq_true (by omega))).1
      refine ⟨by rw [hs 454 (by decide)]; exact p3.1, fun q hq => ?_⟩
      rw [hs _ (by omega), hs (436 + q) (by omega), hs (445 + q) (by omega)]
      exact p3.2 q hq
    rcases h with ⟨rfl, E, o, hl, hok, hht, xe, x0, er, e15, m974, mE⟩ | ⟨rfl, e205, v, a, v1, v2, va, t1, t2, t3, t4⟩
    · obtain ⟨i0, ir⟩ := et rfl
      refine ⟨by rw [if_pos rfl, er]; exact x0, R_iff.2 ⟨⟨C, W, P, YE E, G, qSC_swap hS (fun a h => ag.a fun k => decide_eq_true (by omega)) (ag.b fun k => decide_eq_true (by omega)) (fun q hq => (ag 208 q (decide_eq_true (by omega))).2) (fun i hi => (ag 205 i (decide_eq_true (by omega))).1) ⟨p1, hp2, hp3⟩ ⟨YE_wf hl hok hht, ⟨?_, fun i hi => ?_⟩, ⟨m974, fun i hi => mE i hi⟩⟩, qGX_ag (fun a h1 h2 => ag.a fun k => decide_eq_true (by omega)) hG⟩, htp', ?_, hkp', hpz', hK'⟩⟩
      · rw [fo 23 (by decide) (by decide), i0]
        exact xe.1
      · have hi : i < E.length := hi
        obtain ⟨j1, j2, j3⟩ := ir i (by omega)
        obtain ⟨k1, k2, k3⟩ := xe.2 i hi
        show ν.1 24 i = _ ∧ ν.1 25 i = _ ∧ ν.1 26 i = _
        rw [fo 24 (by decide) (by decide), fo 25 (by decide) (by decide), fo 26 (by decide) (by decide), j1, j2, j3]
        exact ⟨k1, k2, k3⟩
      · show ν.1 0 11 = ν.1 203 15
        rw [h011, e15, if_pos rfl]
    · have h205 : ν.1 205 = μ.1 205 := e205.trans (ag3.a fun k => decide_eq_true (by omega))
      refine ⟨by rw [if_neg Bool.false_ne_true, t2, t3], R_iff.2 ⟨⟨C, W, P, Y, G, qSC_swap hS (fun a h => ag.a fun k => decide_eq_true (by omega)) (ag.b fun k => decide_eq_true (by omega)) (fun q hq => (ag 208 q (decide_eq_true (by omega))).2) (fun i hi => by rw [h205]) ⟨p1, hp2, hp3⟩ ⟨y1, ?_, by rw [h205]; exact y3⟩, qGX_ag (fun a h1 h2 => ag.a fun k => decide_eq_true (by omega)) hG⟩, htp', ?_, hkp', hpz', hK'⟩⟩
      · have hy : ∀ a, 23 ≤ a → a ≤ 26 → ν.1 a = μ.1 a := fun a h1 h2 => (fo a h1 h2).trans (ef rfl a h1 h2)
        unfold qYX at y2 ⊢
        simp (disch := omega) only [hy]
        exact y2
      · show ν.1 0 11 = ν.1 203 15
        rw [h011, t4, if_neg Bool.false_ne_true, t1]
  unfold okI f_X10_sentence
  rw [rr.1, rr.2.1, rr.2.2.1, rr.2.2.2, ea, Option.bind_some]
  cases b with
  | true =>
    dsimp only
    rw [if_pos rfl]
    have q1 : yRf 71 := by
      unfold yRf
      simp only [rf0, rf1, rf4, rf5, rf19, rf23, rf28, rf39, rf53, rf67, rf71, rf76, rf88, rf97, rf101, rf109, rf110, rf124, rf128, rf133, rf144, rf156, rf157, rf171, rf175, rf180, rf191, rf51, and_self]
    have q2 : ySh 71 := by
      unfold ySh
      decide
    refine T_call (takeY (a := 71) (b := 23) (by decide) q1 sOb_4.2.2.2.2.2.1 q2 sOb_4.2.2.2.2.2.2.1) ?_
    rintro μ2 ⟨⟨t0, t1⟩, t2, t3⟩
    refine fin μ2 (fun a k h => ?_) (t3 1 (by omega)) (t3 71 (by omega)) (fun _ => ⟨t0, fun q hq => ⟨t1 1 40 (by decide) q hq, t1 2 40 (by decide) q hq, t1 3 40 (by decide) q hq⟩⟩) (fun h => by cases h)
    have h := of_decide_eq_true h
    rw [t3 a (fun k hk => by omega), t2]
    exact fx a k (decide_eq_true (by omega))
  | false =>
    dsimp only
    rw [if_neg Bool.false_ne_true]
    exact fin μ1 (fx.sub fun a k h => decide_eq_true (by have := of_decide_eq_true h; omega)) rfl rfl (fun h => by cases h) (fun _ a h1 h2 => fx.a fun k => decide_eq_true (by omega))
