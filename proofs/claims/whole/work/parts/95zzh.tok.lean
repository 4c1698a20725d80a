/-! tokens: the reference's step -/
theorem next_m {F n lim p : Nat} {B : Nat → Nat} {μ : aw_M} (hF : 2000 ≤ F) (hl : lim ≤ 900) (mc : MC B n lim μ) (h4 : μ.1 203 4 = nI p) (hp : p ≤ n) : T (f_X11_next F 203 μ) fun μ' => AgK kXm μ μ' ∧ MTk B n lim p μ' := by
  have n9 := mc.1
  obtain ⟨a1, a2, a3, a4⟩ := tA_p (B := B) hp
  obtain ⟨e1, e2, e3, e4⟩ := tE_p (B := B) hp
  unfold f_X11_next
  refine T_lp (fun i μ' => AgK kXm μ μ' ∧ μ'.1 203 4 = nI (p + i)) (tA B n p - p) (by omega) ⟨AgK.rf μ, h4⟩ ?_ ?_
  · rintro i hi μ' ⟨ag, g4⟩ k hk
    have mc' : MC B n lim μ' := MC_ag ag (fun a k h => decide_eq_true (by omega)) mc
    obtain ⟨b1, b2⟩ := mc'.2.2.2.1 (p + i) (by omega)
    have hb := of_decide_eq_true (a3 (p + i) (by omega) (by omega))
    have f18 : T (f_X11_next_18 F 203 k μ') fun μ' => AgK kXm μ μ' ∧ MTk B n lim p μ' := by
      unfold f_X11_next_18
      rw [plet]
      exact hk _ ⟨ag.wI (decide_eq_false (by omega)), by rw [rI_s, g4, nI_1]; rfl⟩
    show T (f_X11_next_0 F 203 k μ') _
    unfold f_X11_next_0
    rw [peek_m mc' g4 (by omega), if_pos (by omega), Option.bind_some]
    dsimp only
    by_cases c : B (p + i) = 32
    · rw [if_pos (show nI (B (p + i)) = 32 by rw [c]; rfl)]
      exact f18
    · rw [if_neg (show ¬ nI (B (p + i)) = 32 from fun h => c ((nI_eq (b := 32) (by omega) (by decide)).1 h)), peek_m mc' g4 (by omega), if_pos (by omega), Option.bind_some]
      dsimp only
      rw [if_pos (show nI (B (p + i)) = 10 by rw [show B (p + i) = 10 by omega]; rfl)]
      exact f18
  rintro μ1 ⟨ag1, g4⟩ k
  have mc1 : MC B n lim μ1 := MC_ag ag1 (fun a k h => decide_eq_true (by omega)) mc
  rw [show p + (tA B n p - p) = tA B n p by omega] at g4
  have f31 : T (f_X11_next_31 F 203 μ1) fun μ' => AgK kXm μ μ' ∧ MTk B n lim p μ' := by
    unfold f_X11_next_31
    rw [plet, plet]
    have ag2 : AgK kXm μ (aw_wI (aw_wI μ1 203 12 (μ1.1 203 4)) 203 13 0) := (ag1.wI (decide_eq_false (by omega))).wI (decide_eq_false (by omega))
    have s4 : (aw_wI (aw_wI μ1 203 12 (μ1.1 203 4)) 203 13 0).1 203 4 = nI (tA B n p) := by
      rw [rI_k (by decide), rI_k (by decide)]; exact g4
    have s12 : (aw_wI (aw_wI μ1 203 12 (μ1.1 203 4)) 203 13 0).1 203 12 = nI (tA B n p) := by
      rw [rI_k (by decide), rI_s]; exact g4
    have s13 : (aw_wI (aw_wI μ1 203 12 (μ1.1 203 4)) 203 13 0).1 203 13 = 0 := rI_s
    generalize aw_wI (aw_wI μ1 203 12 (μ1.1 203 4)) 203 13 0 = μ2 at ag2 s4 s12 s13 ⊢
    have mc2 : MC B n lim μ2 := MC_ag ag2 (fun a k h => decide_eq_true (by omega)) mc
    have f80 : ¬ (lim < n ∧ lim ≤ tA B n p) → T (f_X11_next_80 F 203 μ2) fun μ' => AgK kXm μ μ' ∧ MTk B n lim p μ' := fun hlim => by
      unfold f_X11_next_80
      rw [peek_m mc2 s4 a2, Option.bind_some]
      dsimp only
      have hS : tSt B n lim p = tA B n p := if_neg hlim
      by_cases ha : tA B n p < n
      · obtain ⟨b1, -⟩ := mc2.2.2.2.1 (tA B n p) ha
        rw [if_pos ha, if_pos (nI_pos' (by omega)), isSmall_m b1, Option.bind_some]
        dsimp only
        by_cases ee : tE B n p = tA B n p
        · have hno : (sml (B (tA B n p)) || dgt (B (tA B n p))) = false := by
            cases e5 : (sml (B (tA B n p)) || dgt (B (tA B n p))) with
            | false => rfl
            | true =>
              rw [ee] at e4
              exact absurd ⟨ha, e5⟩ e4
          rw [Bool.or_eq_false_iff] at hno
          have hN : tN B n lim p = tA B n p + 1 := by
            unfold tN
            rw [if_neg hlim, if_neg (by omega), if_pos ee]
          have hK2 : tK B n lim p = if sgn (B (tA B n p)) = true then 3 else 5 := by
            unfold tK
            rw [if_neg hlim, if_neg (by omega), if_pos ee]
          have hV2 : tVl B n p = B (tA B n p) := if_pos ee
          rw [hno.1, if_neg Bool.false_ne_true, isDigit_m b1, Option.bind_some]
          dsimp only
          rw [hno.2, if_neg Bool.false_ne_true]
          have fin : ∀ v, nI v = nI (km (tK B n lim p)) → T (f_X11_next_145 F 203 (nI (B (tA B n p))) (nI v) μ2) fun μ' => AgK kXm μ μ' ∧ MTk B n lim p μ' := fun v hv => by
            unfold f_X11_next_145
            rw [plet, plet, plet, T_some]
            refine ⟨((ag2.wI (decide_eq_false (by omega))).wI (decide_eq_false (by omega))).wI (decide_eq_false (by omega)), ?_, ?_, ?_, fun h => ?_, fun _ => ?_⟩
            · rw [rI_s, rI_k (by decide), rI_k (by decide), s4, hN, nI_1]
            · rw [rI_k (by decide), rI_k (by decide), rI_k (by decide), s12, hS]
            · rw [rI_k (by decide), rI_k (by decide), rI_s, hv]
            · rw [hK2] at h
              split at h <;> cases h
            · rw [rI_k (by decide), rI_s, hV2]
          have f140 : sgn (B (tA B n p)) = true → T (f_X11_next_140 F 203 (nI (B (tA B n p))) μ2) fun μ' => AgK kXm μ μ' ∧ MTk B n lim p μ' := fun h => by
            unfold f_X11_next_140
            exact fin 3 (by rw [hK2, if_pos h]; rfl)
          have f144 : ¬ sgn (B (tA B n p)) = true → T (f_X11_next_144 F 203 (nI (B (tA B n p))) μ2) fun μ' => AgK kXm μ μ' ∧ MTk B n lim p μ' := fun h => by
            unfold f_X11_next_144
            exact fin 4 (by rw [hK2, if_neg h]; rfl)
          generalize B (tA B n p) = b at b1 f140 f144 ⊢
          have ne : ∀ c, c < 256 → b ≠ c → ¬ nI b = nI c := fun c hc h h2 => h ((nI_eq (by omega) (by omega)).1 h2)
          by_cases c1 : b = 59
          · rw [if_pos (show nI b = 59 by rw [c1]; rfl)]
            exact f140 (decide_eq_true (by omega))
          · rw [if_neg (show ¬ nI b = 59 from ne 59 (by decide) c1)]
            by_cases c2 : b = 40
            · rw [if_pos (show nI b = 40 by rw [c2]; rfl)]
              exact f140 (decide_eq_true (by omega))
            · rw [if_neg (show ¬ nI b = 40 from ne 40 (by decide) c2)]
              by_cases c3 : b = 41
              · rw [if_pos (show nI b = 41 by rw [c3]; rfl)]
                exact f140 (decide_eq_true (by omega))
              · rw [if_neg (show ¬ nI b = 41 from ne 41 (by decide) c3)]
                by_cases c4 : b < 60
                · rw [if_pos (show nI b < 60 from (show nI b < nI 60 from nI_lt c4 (by decide)))]
                  exact f144 fun h => by have := of_decide_eq_true h; omega
                · rw [if_neg (show ¬ nI b < 60 from (show ¬ nI b < nI 60 from nI_nlt (by omega) (by omega)))]
                  by_cases c5 : 62 < b
                  · rw [if_pos (show (62 : Int32) < nI b from (show nI 62 < nI b from nI_lt c5 (by omega)))]
                    exact f144 fun h => by have := of_decide_eq_true h; omega
                  · rw [if_neg (show ¬ (62 : Int32) < nI b from (show ¬ nI 62 < nI b from nI_nlt (by omega) (by omega)))]
                    exact f140 (decide_eq_true (by omega))
        · have hN : tN B n lim p = tE B n p := by
            unfold tN
            rw [if_neg hlim, if_neg (by omega), if_neg ee]
          have hK : tK B n lim p = tR B (tA B n p) (tE B n p) := by
            unfold tK
            rw [if_neg hlim, if_neg (by omega), if_neg ee]
          have hV : tVl B n p = nmv B (tA B n p) (tE B n p - tA B n p) := if_neg ee
          have hR5 : tR B (tA B n p) (tE B n p) = 1 ∨ tR B (tA B n p) (tE B n p) = 2 ∨ tR B (tA B n p) (tE B n p) = 5 := by
            unfold tR
            split
            · exact .inl rfl
            · split
              · exact .inr (.inl rfl)
              · exact .inr (.inr rfl)
          have go : T (f_X11_next_164 F 203 (nI (B (tA B n p))) μ2) fun μ' => AgK kXm μ μ' ∧ MTk B n lim p μ' := by
            refine T_mono (mrun hF mc2 s4 s13 (by omega) e2 e3 e4) ?_
            rintro μ3 ⟨ag3, t4, t11, t17, t14⟩
            refine ⟨ag2.tr (ag3.sub fun a k h => decide_eq_true (by have := of_decide_eq_true h; omega)), by rw [t4, hN], ?_, by rw [t11, hK], fun h => ?_, fun h => ?_⟩
            · rw [(ag3 203 12 (decide_eq_true (by omega))).1, s12, hS]
            · rw [hK] at h
              exact t17 h
            · rw [hK] at h
              rw [t14 (by omega), hV]
          have h3' := e3 (tA B n p) (Nat.le_refl _) (by omega)
          by_cases hs : sml (B (tA B n p)) = true
          · rw [if_pos hs]
            exact go
          · have hd : dgt (B (tA B n p)) = true := by
              cases e5 : sml (B (tA B n p)) with
              | true => exact absurd e5 hs
              | false => rw [e5, Bool.false_or] at h3'; exact h3'
            rw [if_neg hs, isDigit_m b1, Option.bind_some]
            dsimp only
            rw [if_pos hd]
            exact go
      · have hK : tK B n lim p = 4 := by
          unfold tK
          rw [if_neg hlim, if_pos (by omega)]
        have hN : tN B n lim p = tA B n p := by
          unfold tN
          rw [if_neg hlim, if_pos (by omega)]
        rw [if_neg ha, if_neg (show ¬ (0 : Int32) ≤ -1 by decide), plet, T_some]
        refine ⟨ag2.wI (decide_eq_false (by omega)), ?_, ?_, ?_, fun h => by omega, fun h => by omega⟩
        · rw [rI_k (by decide), s4, hN]
        · rw [rI_k (by decide), s12, hS]
        · rw [rI_s, hK]; rfl
    rw [mc2.2.1, mc2.2.2.1, s4]
    by_cases c1 : n ≤ lim
    · rw [if_pos (nI_le c1 (by omega))]
      exact f80 (by omega)
    · rw [if_neg (nI_ge (by omega) (by omega))]
      by_cases c2 : tA B n p < lim
      · rw [if_pos (nI_lt c2 (by omega))]
        exact f80 (by omega)
      · have hlim : lim < n ∧ lim ≤ tA B n p := by omega
        have hK : tK B n lim p = 5 := if_pos hlim
        rw [if_neg (nI_nlt (by omega) (by omega)), plet, plet, T_some]
        refine ⟨(ag2.wI (decide_eq_false (by omega))).wI (decide_eq_false (by omega)), ?_, ?_, ?_, fun h => by omega, fun h => by omega⟩
        · rw [rI_k (by decide), rI_k (by decide), s4, show tN B n lim p = tA B n p from if_pos hlim]
        · rw [rI_k (by decide), rI_s, show tSt B n lim p = lim from if_pos hlim]
        · rw [rI_s, hK]; rfl
  show T (f_X11_next_0 F 203 k μ1) _
  unfold f_X11_next_0
  rw [peek_m mc1 g4 a2, Option.bind_some]
  dsimp only
  by_cases ha : tA B n p < n
  · obtain ⟨b1, b2⟩ := mc1.2.2.2.1 (tA B n p) ha
    have hb : ¬ (B (tA B n p) = 32 ∨ B (tA B n p) = 10) := fun h => a4 ⟨ha, decide_eq_true h⟩
    rw [if_pos ha, if_neg (show ¬ nI (B (tA B n p)) = 32 from fun h => hb (.inl ((nI_eq (b := 32) (by omega) (by decide)).1 h))), peek_m mc1 g4 a2, Option.bind_some]
    dsimp only
    rw [if_pos ha, if_neg (show ¬ nI (B (tA B n p)) = 10 from fun h => hb (.inr ((nI_eq (b := 10) (by omega) (by decide)).1 h)))]
    exact f31
  · rw [if_neg ha, if_neg (show ¬ (-1 : Int32) = 32 by decide), peek_m mc1 g4 a2, Option.bind_some]
    dsimp only
    rw [if_neg ha, if_neg (show ¬ (-1 : Int32) = 10 by decide)]
    exact f31
