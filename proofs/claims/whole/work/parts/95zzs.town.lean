theorem square_t {F n lim p : Nat} {B : Nat → Nat} {T : Nat → Nat → Nat} {W : Nat → List Nat} {μ ν : aw_M} (hF : 2000 ≤ F) (px : PXk B n lim p μ) (pm : PMk B n lim p ν) (hK : tK B n lim p = 1) (h01 : T 0 0 = 0 → T 0 1 = 0) (dt : DT T W μ ν) : RT (f_X8_readSquare F 53 1 μ) (if ν.1 203 20 = 0 then aw_let (aw_wI ν 203 20 1) fun μ62 => (f_X11_next F 203 μ62).bind fun r63 => aw_loop (fun k s => f_X11_line_34 F 203 k s.1 s.2) F (0, r63) else (f_X11_bad F 203 3 ν).bind fun r66 => some (r66.1, r66.2)) (After B n lim 1 p kTX kTM (fun μ' ν' => ∃ T' W', 0 < T' 0 0 ∧ DT T' W' μ' ν') μ ν) := by
  have r7 : aw_rf 203 7 = 206 := by simp only [rf203, rf203b]
  obtain ⟨hwf, tx, tm, hW, s20, hlw⟩ := id dt
  have w10 := hwf.1.1
  unfold f_X8_readSquare
  rw [tx.1.1, s20]
  by_cases c : T 0 0 = 0
  · rw [if_pos (show nI (T 0 0) ≤ 0 from (show nI (T 0 0) ≤ nI 0 from nI_le (by omega) (by decide))), if_pos (by rw [decide_eq_false (by omega)]; rfl), plet]
    have b0 : AgK (fun x i => decide (¬ (x = 203 ∧ i = 20))) ν (aw_wI ν 203 20 1) := (AgK.rf ν).wI (decide_eq_false (by omega))
    have e20 : (aw_wI ν 203 20 1).1 203 20 = nI 1 := by rw [rI_s]; rfl
    generalize aw_wI ν 203 20 1 = ν0 at b0 e20 ⊢
    refine RT_call (rstep hF px (PMk_ag b0 (fun a k h => decide_eq_true (by omega)) pm) (by rw [hK]; decide)) ?_
    rintro μ1 ν1 ⟨a1, b1, hp1, px1, pm1⟩
    generalize tN B n lim p = p1 at hp1 px1 pm1
    have fx1 : AgK kTX μ μ1 := a1.sub fun a k h => decide_eq_true (by have := of_decide_eq_true h; omega)
    have fm1 : AgK kTM ν ν1 := (b0.sub fun a k h => decide_eq_true (by have := of_decide_eq_true h; omega)).tr (b1.sub fun a k h => decide_eq_true (by have := of_decide_eq_true h; omega))
    have e201 : ν1.1 203 20 = nI 1 := by rw [(b1 203 20 (decide_eq_true (by omega))).1]; exact e20
    have y1 : ν1.1 203 15 = ν.1 203 15 := by rw [(b1 203 15 (decide_eq_true (by omega))).1, (b0 203 15 (decide_eq_true (by omega))).1]
    rw [lp_F (show 0 < F by omega)]
    show RT _ (f_X11_line_34 F 203 (aw_loop (fun k s => f_X11_line_34 F 203 k s.1 s.2) (F - 1)) 0 ν1) _
    unfold f_X11_line_34
    rw [if_neg (show ¬ (2 : Int32) ≤ 0 by decide)]
    refine RT_l (see_x (lo := 2) (hi := 11) px1 (by decide) (by decide)) ?_
    rintro ⟨r1, μ2⟩ g
    refine RT_r (takes_m (lo := 2) (hi := 11) hF pm1 (by decide) (by decide)) ?_
    rintro ⟨r2, ν2⟩ g'
    have hn := nu_le B n lim p1 2 11
    rcases g with ⟨h0, g⟩ | ⟨h0, g1, g2, g3, g4⟩
    rotate_left
    · rcases g' with ⟨h0', -⟩ | ⟨-, b1, b2, b3, b4⟩
      · exact absurd h0' h0
      · dsimp only at g1 g2 g3 g4 b1 b2 b3 b4 ⊢
        subst g1
        subst b1
        rw [if_neg Bool.false_ne_true, if_neg Bool.false_ne_true, RT_some]
        exact ⟨fx1.tr (g2.sub fun a k h => decide_eq_true (by have := of_decide_eq_true h; omega)), fm1.tr (b2.sub fun a k h => decide_eq_true (by have := of_decide_eq_true h; omega)), .inr ⟨rfl, rfl, _, _, by omega, by omega, tS_le px1.1, g3, g4, b3, b4⟩⟩
    cases g
    rcases g' with ⟨-, c1, b2, pm2, m18, c15⟩ | ⟨h0', -⟩
    rotate_left
    · exact absurd h0 h0'
    obtain ⟨nK, n2, n3⟩ := nu_0 h0
    dsimp only at c1 b2 pm2 m18 c15 ⊢
    subst c1
    rw [if_pos rfl, if_pos rfl, plet, px1.2.2.2.2.2.2.2.1 nK, show (0 : Int32) + 0 = nI 0 from rfl, pI_in_t (by decide) (by decide), pg_t, plet, r7, nI_clamp (by decide), m18]
    have hp2 := (tN_p px1.1 (show tK B n lim p1 ≠ 4 ∧ tK B n lim p1 ≠ 5 by rw [nK]; decide)).1
    generalize tVl B n p1 = v at n2 n3 ⊢
    have a3 : AgK (fun x i => decide (¬ (x = 53 ∧ i = 1))) μ1 (aw_wI μ1 53 1 (nI v)) := (AgK.rf μ1).wI (decide_eq_false (by omega))
    have e3 : (aw_wI μ1 53 1 (nI v)).1 53 1 = nI v := rI_s
    generalize aw_wI μ1 53 1 (nI v) = μ3 at a3 e3 ⊢
    have b3 : AgK (fun x i => decide (¬ (x = 206 ∧ i = 0))) ν2 (aw_wI ν2 206 0 (nI v)) := (AgK.rf ν2).wI (decide_eq_false (by omega))
    have m3 : (aw_wI ν2 206 0 (nI v)).1 206 0 = nI v := rI_s
    generalize aw_wI ν2 206 0 (nI v) = ν3 at b3 m3 ⊢
    refine RT_l (pstep_x hF (PXk_ag a3 (fun a k h => decide_eq_true (by omega)) px1) (by rw [nK]; decide)) ?_
    rintro μ4 ⟨a4, px4⟩
    have pm3 : PMk B n lim (tN B n lim p1) ν3 := PMk_ag b3 (fun a k h => decide_eq_true (by omega)) pm2
    generalize tN B n lim p1 = p4 at hp2 px4 pm3
    have fx4 : AgK kTX μ μ4 := (fx1.tr (a3.sub fun a k h => decide_eq_true (by have := of_decide_eq_true h; omega))).tr (a4.sub fun a k h => decide_eq_true (by have := of_decide_eq_true h; omega))
    have fm3 : AgK kTM ν ν3 := (fm1.tr (b2.sub fun a k h => decide_eq_true (by have := of_decide_eq_true h; omega))).tr (b3.sub fun a k h => decide_eq_true (by have := of_decide_eq_true h; omega))
    have hxx : AgK (fun a k => decide (¬ (a = 1) ∧ ¬ (a = 53 ∧ k = 1))) μ μ4 := ((a1.sub fun a k h => decide_eq_true (by have := of_decide_eq_true h; omega)).tr (a3.sub fun a k h => decide_eq_true (by have := of_decide_eq_true h; omega))).tr (a4.sub fun a k h => decide_eq_true (by have := of_decide_eq_true h; omega))
    have hmm : AgK (fun a k => decide (¬ (a = 203 ∧ (k ≤ 18 ∨ k = 20)) ∧ ¬ (a = 206 ∧ k = 0))) ν ν3 := (((b0.sub fun a k h => decide_eq_true (by have := of_decide_eq_true h; omega)).tr (b1.sub fun a k h => decide_eq_true (by have := of_decide_eq_true h; omega))).tr (b2.sub fun a k h => decide_eq_true (by have := of_decide_eq_true h; omega))).tr (b3.sub fun a k h => decide_eq_true (by have := of_decide_eq_true h; omega))
    have e203 : ν3.1 203 20 = nI 1 := by rw [(b3 203 20 (decide_eq_true (by omega))).1, (b2 203 20 (decide_eq_true (by omega))).1]; exact e201
    have y3 : ν3.1 203 15 = ν.1 203 15 := by rw [(b3 203 15 (decide_eq_true (by omega))).1, c15, y1]
    have dt4 : DT (tu T 0 0 v) W μ4 ν3 := DT_1 (x := 53) (a := 1) (y := 0) (.inl ⟨rfl, rfl, rfl, rfl, rfl⟩) (by omega) (fun h => by omega) (fun _ _ => ⟨by omega, by omega⟩) (fun _ h => by omega) hxx (fun b k h1 h2 => decide_eq_true (by omega)) hmm (fun b k h1 h2 h3 => decide_eq_true (by omega)) (by rw [(a4 53 1 (decide_eq_true (by omega))).1]; exact e3) m3 (fun _ _ => e203) (fun _ h => by omega) dt
    have hv0 : 0 < v := by omega
    clear a1 b1 px1 pm1 fx1 fm1 e201 y1 b2 pm2 m18 c15 a3 e3 b3 m3 a4 hxx hmm b0 e20 h0 hn nK n2 n3
    rw [show (0 : Int32) + 1 = nI 1 from rfl, lp_F (show 0 < F - 1 by omega)]
    show RT _ (f_X11_line_34 F 203 (aw_loop (fun k s => f_X11_line_34 F 203 k s.1 s.2) (F - 1 - 1)) (nI 1) ν3) _
    unfold f_X11_line_34
    rw [if_neg (show ¬ (2 : Int32) ≤ nI 1 by decide)]
    refine RT_l (see_x (lo := 2) (hi := 11) px4 (by decide) (by decide)) ?_
    rintro ⟨r1, μ5⟩ g
    refine RT_r (takes_m (lo := 2) (hi := 11) hF pm3 (by decide) (by decide)) ?_
    rintro ⟨r2, ν5⟩ g'
    have hn := nu_le B n lim p4 2 11
    rcases g with ⟨h0, g⟩ | ⟨h0, g1, g2, g3, g4⟩
    rotate_left
    · rcases g' with ⟨h0', -⟩ | ⟨-, b1, b2, b3, b4⟩
      · exact absurd h0' h0
      · dsimp only at g1 g2 g3 g4 b1 b2 b3 b4 ⊢
        subst g1
        subst b1
        rw [if_neg Bool.false_ne_true, if_neg Bool.false_ne_true, RT_some]
        exact ⟨fx4.tr (g2.sub fun a k h => decide_eq_true (by have := of_decide_eq_true h; omega)), fm3.tr (b2.sub fun a k h => decide_eq_true (by have := of_decide_eq_true h; omega)), .inr ⟨rfl, rfl, _, _, by omega, by omega, tS_le px4.1, g3, g4, b3, b4⟩⟩
    cases g
    rcases g' with ⟨-, c1, b2, pm5, m18, c15⟩ | ⟨h0', -⟩
    rotate_left
    · exact absurd h0 h0'
    obtain ⟨nK, n2, n3⟩ := nu_0 h0
    dsimp only at c1 b2 pm5 m18 c15 ⊢
    subst c1
    rw [if_pos rfl, if_pos rfl, plet, px4.2.2.2.2.2.2.2.1 nK, show (0 : Int32) + nI 1 = nI 1 from rfl, pI_in_t (by decide) (by decide), pg_t, plet, r7, nI_clamp (by decide), m18]
    have hp6 := (tN_p px4.1 (show tK B n lim p4 ≠ 4 ∧ tK B n lim p4 ≠ 5 by rw [nK]; decide)).1
    generalize tVl B n p4 = u at n2 n3 ⊢
    have a6 : AgK (fun x i => decide (¬ (x = 53 ∧ i = 2))) μ4 (aw_wI μ4 53 2 (nI u)) := (AgK.rf μ4).wI (decide_eq_false (by omega))
    have e6 : (aw_wI μ4 53 2 (nI u)).1 53 2 = nI u := rI_s
    generalize aw_wI μ4 53 2 (nI u) = μ6 at a6 e6 ⊢
    have b6 : AgK (fun x i => decide (¬ (x = 206 ∧ i = 1))) ν5 (aw_wI ν5 206 1 (nI u)) := (AgK.rf ν5).wI (decide_eq_false (by omega))
    have m6 : (aw_wI ν5 206 1 (nI u)).1 206 1 = nI u := rI_s
    generalize aw_wI ν5 206 1 (nI u) = ν6 at b6 m6 ⊢
    refine RT_l (pstep_x hF (PXk_ag a6 (fun a k h => decide_eq_true (by omega)) px4) (by rw [nK]; decide)) ?_
    rintro μ7 ⟨a7, px7⟩
    have pm6 : PMk B n lim (tN B n lim p4) ν6 := PMk_ag b6 (fun a k h => decide_eq_true (by omega)) pm5
    rw [show nI 1 + 1 = nI 2 from rfl, lp_F (show 0 < F - 1 - 1 by omega)]
    show RT (some (true, μ7)) (f_X11_line_34 F 203 (aw_loop (fun k s => f_X11_line_34 F 203 k s.1 s.2) (F - 1 - 1 - 1)) (nI 2) ν6) _
    unfold f_X11_line_34
    rw [if_pos (show (2 : Int32) ≤ nI 2 by decide), RT_some]
    have hxx : AgK (fun a k => decide (¬ (a = 1) ∧ ¬ (a = 53 ∧ k = 2))) μ4 μ7 := (a6.sub fun a k h => decide_eq_true (by have := of_decide_eq_true h; omega)).tr (a7.sub fun a k h => decide_eq_true (by have := of_decide_eq_true h; omega))
    have hmm : AgK (fun a k => decide (¬ (a = 203 ∧ (k ≤ 18)) ∧ ¬ (a = 206 ∧ k = 1))) ν3 ν6 := (b2.sub fun a k h => decide_eq_true (by have := of_decide_eq_true h; omega)).tr (b6.sub fun a k h => decide_eq_true (by have := of_decide_eq_true h; omega))
    refine ⟨(fx4.tr (a6.sub fun a k h => decide_eq_true (by have := of_decide_eq_true h; omega))).tr (a7.sub fun a k h => decide_eq_true (by have := of_decide_eq_true h; omega)), (fm3.tr (b2.sub fun a k h => decide_eq_true (by have := of_decide_eq_true h; omega))).tr (b6.sub fun a k h => decide_eq_true (by have := of_decide_eq_true h; omega)), .inl ⟨rfl, rfl, _, by omega, px7, pm6, ?_, tu (tu T 0 0 v) 0 1 u, W, ?_, ?_⟩⟩
    · show ν6.1 203 15 = ν.1 203 15
      rw [(b6 203 15 (decide_eq_true (by omega))).1, c15]; exact y3
    · rw [tu_i (by decide), tu_s]
      exact hv0
    · refine DT_1 (x := 53) (a := 2) (y := 1) (.inr (.inl ⟨rfl, rfl, rfl, rfl, rfl⟩)) (by omega) (fun h => by omega) (fun _ h => by omega) (fun _ _ => ?_) hxx (fun b k h1 h2 => decide_eq_true (by omega)) hmm (fun b k h1 h2 h3 => decide_eq_true (by omega)) (by rw [(a7 53 2 (decide_eq_true (by omega))).1]; exact e6) m6 (fun _ h => by omega) (fun _ _ => ?_) dt4
      · rw [tu_i (by decide), h01 c]
        exact Nat.zero_le _
      · exact (hmm 203 20 (decide_eq_true (by omega))).1
  · rw [if_neg (show ¬ nI (T 0 0) ≤ 0 from (show ¬ nI (T 0 0) ≤ nI 0 from nI_ge (by omega) (by omega))), if_neg (show ¬ nI (bN (decide (0 < T 0 0))) = 0 by rw [decide_eq_true (by omega)]; decide)]
    refine RT_call (rfail (v := 3) (by decide) px pm) ?_
    rintro ⟨r1, μ'⟩ ⟨r2, ν'⟩ ⟨a1, a2, a3, a4, a5⟩
    rw [RT_some]
    exact ⟨a1.sub fun a k h => decide_eq_true (by have := of_decide_eq_true h; omega), a2.sub fun a k h => decide_eq_true (by have := of_decide_eq_true h; omega), .inr ⟨a3, a4, a5⟩⟩
