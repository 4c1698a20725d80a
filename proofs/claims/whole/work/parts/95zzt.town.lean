theorem DT_lw {T : Nat → Nat → Nat} {W : Nat → List Nat} {μ μ' ν ν' : aw_M} {K K' : Nat → Nat → Bool} (ag : AgK K μ μ') (hK : ∀ a k, (a = 53 ∧ k ≠ 0 ∧ k ≠ 19 ∧ k ≠ 18) ∨ (54 ≤ a ∧ a ≤ 66) → K a k = true) (ag' : AgK K' ν ν') (hK' : ∀ a k, a = 206 ∨ (a = 208 ∧ 9 ≤ k) ∨ (a = 203 ∧ k = 20) → K' a k = true) (e : μ'.1 53 18 = nI 1) (e' : ν'.1 203 21 = nI 1) (h : DT T W μ ν) : DT T W μ' ν' := by
  obtain ⟨hwf, tx, tm, ⟨w1, w2, w3⟩, s20, lw, l1, l2, l3⟩ := h
  have fa : ∀ a, 54 ≤ a → a ≤ 66 → μ'.1 a = μ.1 a := fun a h1 h2 => ag.a fun k => hK a k (by omega)
  have ff : ∀ k, k ≠ 0 → k ≠ 19 → k ≠ 18 → μ'.1 53 k = μ.1 53 k := fun k h1 h2 h3 => (ag 53 k (hK 53 k (by omega))).1
  have hh : ν'.1 206 = ν.1 206 := ag'.a fun k => hK' 206 k (by omega)
  refine ⟨hwf, ?_, by rw [hh]; exact tm, ⟨fun q hq => ?_, w2, w3⟩, ?_, 1, Nat.le_refl 1, e, e'⟩
  · unfold qTX at tx ⊢
    simp (disch := omega) only [fa, ff]
    exact tx
  · obtain ⟨h1, h2, h3⟩ := w1 q hq
    refine ⟨h1, ?_, ?_⟩
    · rw [(ag 54 q (hK 54 q (by omega))).2]; exact h2
    · rw [(ag' 208 (9 + q) (hK' _ _ (by omega))).2]; exact h3
  · rw [(ag' 203 20 (hK' _ _ (by omega))).1]; exact s20
theorem law_t {F n lim p : Nat} {B : Nat → Nat} {T : Nat → Nat → Nat} {W : Nat → List Nat} {μ ν : aw_M} (hF : 2000 ≤ F) (px : PXk B n lim p μ) (pm : PMk B n lim p ν) (hK : tK B n lim p = 1) (dt : DT T W μ ν) : RT (f_X8_readLaw F 53 1 μ) (if ν.1 203 21 = 0 then aw_let (aw_wI ν 203 21 1) fun μ42 => (f_X11_next F 203 μ42).bind fun r43 => aw_loop (fun k s => f_X11_line_294 F 203 k s.1 s.2) F (0, r43) else (f_X11_bad F 203 3 ν).bind fun r46 => some (r46.1, r46.2)) (After B n lim 1 p kTX kTM (D0 T) μ ν) := by
  have r7 : aw_rf 203 7 = 206 := by simp only [rf203, rf203b]
  have r17 : aw_rf 53 17 = 66 := by simp only [rf0, rf1, rf4, rf5, rf19, rf23, rf28, rf39, rf53, rf67, rf71, rf76, rf88, rf97, rf101, rf109, rf110, rf124, rf128, rf133, rf144, rf156, rf157, rf171, rf175, rf180, rf191, rf51]
  obtain ⟨hwf, tx, tm, hW, s20, lw, l1, l2, l3⟩ := id dt
  unfold f_X8_readLaw
  rw [l2, l3]
  by_cases c : lw = 0
  · rw [if_pos (by rw [c]; rfl), if_pos (by rw [c]; rfl), plet]
    have b0 : AgK (fun x i => decide (¬ (x = 203 ∧ i = 21))) ν (aw_wI ν 203 21 1) := (AgK.rf ν).wI (decide_eq_false (by omega))
    have e21 : (aw_wI ν 203 21 1).1 203 21 = nI 1 := by rw [rI_s]; rfl
    generalize aw_wI ν 203 21 1 = ν0 at b0 e21 ⊢
    refine RT_call (rstep hF px (PMk_ag b0 (fun a k h => decide_eq_true (by omega)) pm) (by rw [hK]; decide)) ?_
    rintro μ1 ν1 ⟨a1, b1, hp1, px1, pm1⟩
    generalize tN B n lim p = p1 at hp1 px1 pm1
    rw [plet]
    have a2 : AgK (fun x i => decide (¬ (x = 53 ∧ i = 18))) μ1 (aw_wI μ1 53 18 1) := (AgK.rf μ1).wI (decide_eq_false (by omega))
    have e18 : (aw_wI μ1 53 18 1).1 53 18 = nI 1 := by rw [rI_s]; rfl
    generalize aw_wI μ1 53 18 1 = μ2 at a2 e18 ⊢
    have fx2 : AgK kTX μ μ2 := (a1.sub fun a k h => decide_eq_true (by have := of_decide_eq_true h; omega)).tr (a2.sub fun a k h => decide_eq_true (by have := of_decide_eq_true h; omega))
    have fm1 : AgK kTM ν ν1 := (b0.sub fun a k h => decide_eq_true (by have := of_decide_eq_true h; omega)).tr (b1.sub fun a k h => decide_eq_true (by have := of_decide_eq_true h; omega))
    have dt2 : DT T W μ2 ν1 := by
      refine DT_lw (K := fun a k => decide (a ≠ 1 ∧ ¬ (a = 53 ∧ k = 18))) (K' := fun a k => decide (¬ (a = 203 ∧ k ≤ 18) ∧ ¬ (a = 203 ∧ k = 21))) ((a1.sub fun a k h => decide_eq_true (by have := of_decide_eq_true h; omega)).tr (a2.sub fun a k h => decide_eq_true (by have := of_decide_eq_true h; omega))) (fun a k h => decide_eq_true (by omega)) ((b0.sub fun a k h => decide_eq_true (by have := of_decide_eq_true h; omega)).tr (b1.sub fun a k h => decide_eq_true (by have := of_decide_eq_true h; omega))) (fun a k h => decide_eq_true (by omega)) e18 ?_ dt
      rw [(b1 203 21 (decide_eq_true (by omega))).1]
      exact e21
    have y1 : ν1.1 203 15 = ν.1 203 15 := by rw [(b1 203 15 (decide_eq_true (by omega))).1, (b0 203 15 (decide_eq_true (by omega))).1]
    have px2 : PXk B n lim p1 μ2 := PXk_ag a2 (fun a k h => decide_eq_true (by omega)) px1
    clear b0 e21 a1 b1 a2 e18
    refine RT_lp (fun i s t => ∃ x T1 p3 μ' ν', i = 4 - x ∧ x ≤ 4 ∧ s = (nI x, μ') ∧ t = (nI x, ν') ∧ p < p3 ∧ PXk B n lim p3 μ' ∧ PMk B n lim p3 ν' ∧ AgK kTX μ μ' ∧ AgK kTM ν ν' ∧ ν'.1 203 15 = ν.1 203 15 ∧ (T1 0 0 = T 0 0 ∧ T1 0 1 = T 0 1) ∧ DT T1 W μ' ν') ?_ 4 (by omega) (by omega) ⟨0, T, p1, μ2, ν1, rfl, by decide, rfl, rfl, hp1, px2, pm1, fx2, fm1, y1, ⟨rfl, rfl⟩, dt2⟩
    rintro i s t ⟨x, T1, p3, μ', ν', rfl, hx, rfl, rfl, hp3, px3, pm3, fx, fm, y15, hT1, dt3⟩ k k' hk
    show RT (f_X8_readLaw_24 F 53 1 k (nI x) μ') (f_X11_line_294 F 203 k' (nI x) ν') _
    unfold f_X8_readLaw_24 f_X11_line_294
    by_cases c4 : x = 4
    · rw [if_pos (show (4 : Int32) ≤ nI x by rw [c4]; decide), if_pos (show (4 : Int32) ≤ nI x by rw [c4]; decide), RT_some]
      exact ⟨fx, fm, .inl ⟨rfl, rfl, p3, by omega, px3, pm3, y15, T1, W, hT1, dt3⟩⟩
    · rw [if_neg (show ¬ (4 : Int32) ≤ nI x from (show ¬ nI 4 ≤ nI x from nI_ge (by omega) (by decide))), if_neg (show ¬ (4 : Int32) ≤ nI x from (show ¬ nI 4 ≤ nI x from nI_ge (by omega) (by decide))), r17]
      refine RT_call (rnum (lo := 0) (hi := 10) (x := 66) (i := x) (z := 4) hF px3 pm3 rfl (by decide) rfl (by decide) (by decide) (by decide) (by decide) (by decide) (by omega)) ?_
      rintro ⟨r1, μ4⟩ ⟨r2, ν4⟩ ⟨a4, b4, h⟩
      dsimp only at a4 b4 h ⊢
      have fx4 : AgK kTX μ μ4 := fx.tr (a4.sub fun a k h => decide_eq_true (by have := of_decide_eq_true h; omega))
      have fm4 : AgK kTM ν ν4 := fm.tr (b4.sub fun a k h => decide_eq_true (by have := of_decide_eq_true h; omega))
      rcases h with ⟨rfl, rfl, p4, v, -, hv, hp4, px4, pm4, e66, m18, x15⟩ | ⟨rfl, rfl, ff⟩
      · rw [if_pos rfl, if_pos rfl, show (7 : Int32) + nI x = nI (7 + x) from nI_add 7 x, pI_in_t (by omega) (by decide), pg_t, plet, r7, nI_clamp (by omega), m18, nI_1]
        have b5 : AgK (fun y i => decide (¬ (y = 206 ∧ i = 7 + x))) ν4 (aw_wI ν4 206 (7 + x) (nI v)) := (AgK.rf ν4).wI (decide_eq_false (by omega))
        have m5 : (aw_wI ν4 206 (7 + x) (nI v)).1 206 (7 + x) = nI v := rI_s
        generalize aw_wI ν4 206 (7 + x) (nI v) = ν5 at b5 m5 ⊢
        refine hk (4 - (x + 1)) _ _ (by omega) ⟨x + 1, tu T1 12 x v, p4, μ4, ν5, rfl, by omega, rfl, rfl, by omega, px4, PMk_ag b5 (fun a k h => decide_eq_true (by omega)) pm4, fx4, fm4.tr (b5.sub fun a k h => decide_eq_true (by have := of_decide_eq_true h; omega)), ?_, ?_, ?_⟩
        · rw [(b5 203 15 (decide_eq_true (by omega))).1, x15]; exact y15
        · rw [tu_f (by decide), tu_f (by decide)]; exact hT1
        · refine DT_1 (x := 66) (a := x) (y := 7 + x) (K := kXa 66 x) (K' := fun a k => decide (¬ (a = 203 ∧ k ≤ 18) ∧ ¬ (a = 206 ∧ k = 7 + x))) (.inr (.inr ⟨rfl, by omega, rfl, rfl, rfl⟩)) (by omega) (fun _ => by omega) (fun h => by omega) (fun h => by omega) a4 (fun b k h1 h2 => decide_eq_true (by omega)) ((b4.sub fun a k h => decide_eq_true (by have := of_decide_eq_true h; omega)).tr (b5.sub fun a k h => decide_eq_true (by have := of_decide_eq_true h; omega))) (fun b k h1 h2 h3 => decide_eq_true (by omega)) e66 m5 (fun h => by omega) (fun h => by omega) dt3
      · rw [if_neg Bool.false_ne_true, if_neg Bool.false_ne_true, RT_some]
        exact ⟨fx4, fm4, .inr ⟨rfl, rfl, ff⟩⟩
  · rw [if_neg (show ¬ nI lw = 0 from fun h => c ((nI_eq (b := 0) (by omega) (by decide)).1 h)), if_neg (show ¬ nI lw = 0 from fun h => c ((nI_eq (b := 0) (by omega) (by decide)).1 h))]
    refine RT_call (rfail (v := 3) (by decide) px pm) ?_
    rintro ⟨r1, μ'⟩ ⟨r2, ν'⟩ ⟨a1, a2, a3, a4, a5⟩
    rw [RT_some]
    exact ⟨a1.sub fun a k h => decide_eq_true (by have := of_decide_eq_true h; omega), a2.sub fun a k h => decide_eq_true (by have := of_decide_eq_true h; omega), .inr ⟨a3, a4, a5⟩⟩
def spotM (F : Nat) (ν : aw_M) : Option (Bool × aw_M) :=
  (f_X11_next F 203 ν).bind fun r48 =>
  (f_X11_isName F 203 r48).bind fun r49 =>
  (if r49.1 = true then
  aw_g (aw_in 2 427) ((f_X11_find F 203 9 (r49.2.1 (aw_rf 203 7) (2 : Int32).toNatClampNeg) r49.2).bind fun r50 =>
  (if r50.1 < 0 then
  f_X11_line_214 F 203 r50.2
  else
  aw_g (aw_in (38 + r50.1) 427) ((if (r50.2.1 (aw_rf 203 7) (38 + r50.1).toNatClampNeg) ≤ 0 then
  (f_X11_next F 203 r50.2).bind fun r52 =>
  (f_X11_looksAtCell F 203 r52).bind fun r53 =>
  (if r53.1 = true then
  aw_g (aw_in (38 + r50.1) 427) (aw_let (aw_wI r53.2 (aw_rf 203 7) (38 + r50.1).toNatClampNeg ((r53.2.1 203 18) + 1)) fun μ54 =>
  (f_X11_next F 203 μ54).bind fun r55 =>
  some (true, r55))
  else
  some (false, r53.2))
  else
  f_X11_line_214 F 203 r50.2))))
  else
  (f_X11_bad F 203 1 r49.2).bind fun r56 =>
  some (r56.1, r56.2))
theorem spot_t {F n lim p : Nat} {B : Nat → Nat} {T : Nat → Nat → Nat} {W : Nat → List Nat} {μ ν : aw_M} (hF : 2000 ≤ F) (px : PXk B n lim p μ) (pm : PMk B n lim p ν) (hK : tK B n lim p = 1) (dt : DT T W μ ν) : RT (f_X8_readSpot F 53 1 μ) (spotM F ν) (After B n lim 1 p kTX kTM (D0 T) μ ν) := by
  have r7 : aw_rf 203 7 = 206 := by simp only [rf203, rf203b]
  have r9 : aw_rf 53 9 = 58 ∧ aw_rf 53 5 = 53 + 1 := by simp only [rf0, rf1, rf4, rf5, rf19, rf23, rf28, rf39, rf53, rf67, rf71, rf76, rf88, rf97, rf101, rf109, rf110, rf124, rf128, rf133, rf144, rf156, rf157, rf171, rf175, rf180, rf191, rf51, and_self]
  have n9 := dt.1.1.2.2.1
  unfold f_X8_readSpot spotM
  refine RT_call (rstep hF px pm (by rw [hK]; decide)) ?_
  rintro μ1 ν1 ⟨a1, b1, hp1, px1, pm1⟩
  generalize tN B n lim p = p1 at hp1 px1 pm1
  have fx1 : AgK kTX μ μ1 := a1.sub fun a k h => decide_eq_true (by have := of_decide_eq_true h; omega)
  have fm1 : AgK kTM ν ν1 := b1.sub fun a k h => decide_eq_true (by have := of_decide_eq_true h; omega)
  have y1 : ν1.1 203 15 = ν.1 203 15 := (b1 203 15 (decide_eq_true (by omega))).1
  have dt1 : DT T W μ1 ν1 := DT_ag a1 (fun a k h => decide_eq_true (by omega)) b1 (fun a k h => decide_eq_true (by omega)) dt
  obtain ⟨hwf, tx, tm, ⟨w1, w2, w3⟩, s20, hlw⟩ := id dt1
  have bad : ∀ v, 1 ≤ v ∧ v ≤ 4 → RT ((f_X6_fail F 1 (nI v) μ1).bind fun r => some (r.1, r.2)) ((f_X11_bad F 203 (nI v) ν1).bind fun r => some (r.1, r.2)) (After B n lim 1 p kTX kTM (D0 T) μ ν) := fun v hv => by
    refine RT_call (rfail hv px1 pm1) ?_
    rintro ⟨r1, μ'⟩ ⟨r2, ν'⟩ ⟨a1, a2, a3, a4, a5⟩
    rw [RT_some]
    exact ⟨fx1.tr (a1.sub fun a k h => decide_eq_true (by have := of_decide_eq_true h; omega)), fm1.tr (a2.sub fun a k h => decide_eq_true (by have := of_decide_eq_true h; omega)), .inr ⟨a3, a4, a5⟩⟩
  rw [atName_x px1, isName_m (by omega) pm1, Option.bind_some, Option.bind_some]
  dsimp only
  by_cases hN : isNm B n lim p1 = true
  · rw [if_pos hN, if_pos hN]
    have hK1 : tK B n lim p1 = 1 := (of_decide_eq_true hN).1
    have hw := tW_ok px1.1 hK1
    rw [(px1.2.2.2.2.2.2.1 hK1).1, show aw_in 2 427 = true by decide, pg_t, r7, show (2 : Int32).toNatClampNeg = 2 by decide, tm.1.2.2.1]
    refine RT_l (named_x (by omega) r9.2 n9 tx.1.2.2.1 (fun q hq => ⟨(w1 q hq).1, (w1 q hq).2.1⟩) hw) ?_
    rintro ⟨k1, μa⟩ ⟨ea, h1⟩
    have ea : μ1 = μa := ea.symm
    subst ea
    refine RT_r (find_m (f := 9) (by omega) n9 (by omega) (pm1.2.2.2.2.2.2.1 hK1) (fun q hq => ⟨(w1 q hq).1, (w1 q hq).2.2⟩) hw) ?_
    rintro ⟨k2, νa⟩ ⟨ea, h2⟩
    have ea : ν1 = νa := ea.symm
    subst ea
    dsimp only at h1 h2 ⊢
    rcases h1 with ⟨q, hq, hWq, rfl⟩ | ⟨rfl, h1⟩
    · obtain rfl : k2 = nI q := by
        rcases h2 with ⟨q', hq', hWq', rfl⟩ | ⟨-, h2⟩
        · rw [w2 q' q hq' hq (hWq'.trans hWq.symm)]
        · exact absurd hWq (h2 q hq)
      have h4 : T 4 q ≤ 100 := by
        rcases (hwf.2.1 q hq).2.2.2.2 with h | h
        · omega
        · have := cellok_lt hwf h; omega
      rw [if_neg (show ¬ nI q = -1 from fun h => by have := nI_pos' (n := q) (by omega); rw [h] at this; exact absurd this (by decide)), if_neg (nI_pos (by omega)), pI_in_t (by omega) (by decide), pg_t, r9.1, nI_clamp (by omega), show μ1.1 58 q = nI (T 4 q) - 1 from tx.2.2.1 q (by omega), show (38 : Int32) + nI q = nI (38 + q) from nI_add 38 q, pI_in_t (by omega) (by decide), pg_t, nI_clamp (by omega), tm.2.2.2.2.1 q (by omega)]
      by_cases h0 : T 4 q = 0
      · rw [h0, if_pos (show nI 0 - 1 = -1 by decide), if_pos (show nI 0 ≤ 0 by decide)]
        refine RT_call (rstep hF px1 pm1 (by rw [hK1]; decide)) ?_
        rintro μ2 ν2 ⟨a2, b2, hp2, px2, pm2⟩
        generalize tN B n lim p1 = p2 at hp2 px2 pm2
        have fx2 : AgK kTX μ μ2 := fx1.tr (a2.sub fun a k h => decide_eq_true (by have := of_decide_eq_true h; omega))
        have fm2 : AgK kTM ν ν2 := fm1.tr (b2.sub fun a k h => decide_eq_true (by have := of_decide_eq_true h; omega))
        have dt2 : DT T W μ2 ν2 := DT_ag a2 (fun a k h => decide_eq_true (by omega)) b2 (fun a k h => decide_eq_true (by omega)) dt1
        refine RT_call (cell_t (w := T 0 0) (h := T 0 1) (occ := fun _ => false) hF px2 pm2 hwf.1.1 hwf.1.2.1 dt2.2.1.1.1 dt2.2.1.1.2.1 dt2.2.2.1.1.1 dt2.2.2.1.1.2.1 (.inl ⟨rfl, fun _ => rfl⟩)) ?_
        rintro ⟨r1, μ4⟩ ⟨r2, ν4⟩ ⟨a4, b4, h⟩
        dsimp only at a4 b4 h ⊢
        have fx4 : AgK kTX μ μ4 := fx2.tr (a4.sub fun a k h => decide_eq_true (by have := of_decide_eq_true h; omega))
        have fm4 : AgK kTM ν ν4 := fm2.tr (b4.sub fun a k h => decide_eq_true (by have := of_decide_eq_true h; omega))
        rcases h with ⟨rfl, rfl, ff⟩ | ⟨p4, x, y, rfl, hp4, hx, hy, hK4, pm4, m18, m15, h⟩
        · rw [if_neg Bool.false_ne_true, if_neg Bool.false_ne_true, RT_some]
          exact ⟨fx4, fm4, .inr ⟨rfl, rfl, ff⟩⟩
        rcases h with ⟨-, rfl, px4, e19⟩ | ⟨h, -⟩
        rotate_left
        · cases h
        have hc : cellok T (10 * y + x) := cellok_xy hwf hx hy
        have ha : 10 * y + x < 100 := cellok_lt hwf hc
        generalize 10 * y + x = a at m18 e19 hc ha
        rw [if_pos rfl, if_pos rfl, e19, m18, plet, nI_1, pg_t, plet]
        have dt4 : DT T W μ4 ν4 := DT_ag a4 (fun a k h => decide_eq_true (by omega)) b4 (fun a k h => decide_eq_true (by omega)) dt2
        have a5 : AgK (fun x i => decide (¬ (x = 58 ∧ i = q))) μ4 (aw_wI μ4 58 q (nI a)) := (AgK.rf μ4).wI (decide_eq_false (by omega))
        have e58 : (aw_wI μ4 58 q (nI a)).1 58 q = nI a := rI_s
        generalize aw_wI μ4 58 q (nI a) = μ5 at a5 e58 ⊢
        have b5 : AgK (fun x i => decide (¬ (x = 206 ∧ i = 38 + q))) ν4 (aw_wI ν4 206 (38 + q) (nI (a + 1))) := (AgK.rf ν4).wI (decide_eq_false (by omega))
        have m38 : (aw_wI ν4 206 (38 + q) (nI (a + 1))).1 206 (38 + q) = nI (a + 1) := rI_s
        generalize aw_wI ν4 206 (38 + q) (nI (a + 1)) = ν5 at b5 m38 ⊢
        refine RT_r (pstep_m hF (PMk_ag b5 (fun a k h => decide_eq_true (by omega)) pm4) (by rw [hK4]; decide)) ?_
        rintro ν6 ⟨b6, pm6⟩
        rw [RT_some]
        have hp6 := (tN_p pm4.1 (show tK B n lim p4 ≠ 4 ∧ tK B n lim p4 ≠ 5 by rw [hK4]; decide)).1
        refine ⟨fx4.tr (a5.sub fun a k h => decide_eq_true (by have := of_decide_eq_true h; omega)), (fm4.tr (b5.sub fun a k h => decide_eq_true (by have := of_decide_eq_true h; omega))).tr (b6.sub fun a k h => decide_eq_true (by have := of_decide_eq_true h; omega)), .inl ⟨rfl, rfl, _, by omega, PXk_ag a5 (fun a k h => decide_eq_true (by omega)) px4, pm6, ?_, tu T 4 q (a + 1), W, ⟨tu_f (by decide), tu_f (by decide)⟩, ?_⟩⟩
        · show ν6.1 203 15 = ν.1 203 15
          rw [(b6 203 15 (decide_eq_true (by omega))).1, (b5 203 15 (decide_eq_true (by omega))).1, m15, (b2 203 15 (decide_eq_true (by omega))).1, y1]
        · show DT _ W μ5 ν6
          have gx : ∀ x i, ¬ (x = 58 ∧ i = q) → μ5.1 x i = μ4.1 x i ∧ μ5.2 x i = μ4.2 x i := fun x i h => a5 x i (decide_eq_true h)
          have gm : ∀ i, i ≠ 38 + q → ν6.1 206 i = ν4.1 206 i := fun i h => by rw [(b6 206 i (decide_eq_true (by omega))).1, (b5 206 i (decide_eq_true (by omega))).1]
          have m6 : ν6.1 206 (38 + q) = nI (a + 1) := by rw [(b6 206 _ (decide_eq_true (by omega))).1]; exact m38
          obtain ⟨-, ⟨x1, x2, x3, x4, x5, x6, x7⟩, ⟨y1, y2, y3, y4, y5, y6, y7⟩, ⟨u1, u2, u3⟩, s20', lw, l1, l2, l3⟩ := dt4
          obtain ⟨g1, g2, g3, g4, g5, g6, g7⟩ := hwf
          have n20 := g1.2.2.2
          have to : ∀ f i, f ≠ 4 → tu T 4 q (a + 1) f i = T f i := fun f i h => tu_f h
          have t4 : ∀ i, tu T 4 q (a + 1) 4 i = if i = q then a + 1 else T 4 i := fun i => by
            by_cases e : i = q
            · rw [e, tu_s, if_pos rfl]
            · rw [tu_i e, if_neg e]
          have hown : ∀ z m, own (tu T 4 q (a + 1)) z m = own T z m := fun z m => own_ext m fun r _ => to 1 r (by decide)
          have ec : ∀ z, cellok (tu T 4 q (a + 1)) z ↔ cellok T z := fun z => by
            unfold cellok
            rw [to 0 0 (by decide), to 0 1 (by decide)]
          generalize tu T 4 q (a + 1) = T' at to t4 hown ec ⊢
          have tg : ∀ f, f ≠ 4 → T' f = T f := fun f h => funext fun i => to f i h
          refine ⟨⟨?_, fun r hr => ?_, fun r hr => ?_, fun r hr => ?_, fun f h1 h2 => ?_, ?_, ?_⟩, ⟨?_, ?_, fun r hr => ?_, ?_, ?_, fun z hz => ?_, ?_⟩, ⟨?_, ?_, ?_, ?_, fun r hr => ?_, ?_, ?_⟩, ⟨?_, ?_, ?_⟩, ?_, lw, l1, ?_, ?_⟩
          · rw [tg 0 (by decide)]; exact g1
          · rw [tg 0 (by decide)] at hr
            rw [ec, ec, tg 1 (by decide), tg 2 (by decide), tg 3 (by decide), t4]
            obtain ⟨j1, j2, j3, j4, j5⟩ := g2 r hr
            refine ⟨j1, j2, j3, j4, ?_⟩
            by_cases e : r = q
            · rw [if_pos e]
              exact .inr hc
            · rw [if_neg e]; exact j5
          · rw [tg 0 (by decide)] at hr
            rw [t4, if_neg (by omega)]; exact g3 r hr
          · rw [tg 0 (by decide)] at hr
            rw [ec, tg 5 (by decide), tg 6 (by decide), tg 7 (by decide), tg 8 (by decide)]; exact g4 r hr
          · rw [tg f (by omega), tg 13 (by decide)]
            obtain ⟨j1, j2, j3⟩ := g5 f h1 h2
            exact ⟨fun z => by rw [ec]; exact j1 z, j2, j3⟩
          · rw [tg 0 (by decide), tg 1 (by decide)]; exact g6
          · rw [tg 12 (by decide)]; exact g7
          · rw [tg 0 (by decide), (gx _ _ (by omega)).1, (gx _ _ (by omega)).1, (gx _ _ (by omega)).1, (gx _ _ (by omega)).1]; exact x1
          · rw [tg 0 (by decide), tg 1 (by decide), tg 2 (by decide), tg 3 (by decide)]
            intro r hr
            rw [(gx _ _ (by omega)).1, (gx _ _ (by omega)).1, (gx _ _ (by omega)).1]; exact x2 r hr
          · rw [t4]
            by_cases e : r = q
            · rw [if_pos e, e, ← nI_1]
              show μ5.1 58 q = _
              rw [e58]
              generalize nI a = z
              grind
            · rw [if_neg e, (gx _ _ (by omega)).1]; exact x3 r hr
          · rw [tg 0 (by decide), tg 5 (by decide), tg 6 (by decide), tg 7 (by decide), tg 8 (by decide)]
            intro r hr
            rw [(gx _ _ (by omega)).1, (gx _ _ (by omega)).1, (gx _ _ (by omega)).1, (gx _ _ (by omega)).1]; exact x4 r hr
          · rw [tg 13 (by decide)]
            intro r hr
            rw [(gx _ _ (by omega)).1]; exact x5 r hr
          · unfold things
            rw [tg 9 (by decide), tg 10 (by decide), tg 11 (by decide), tg 0 (by decide), hown, (gx _ _ (by omega)).1, (gx _ _ (by omega)).1]; exact x6 z hz
          · rw [tg 12 (by decide)]
            intro r hr
            rw [(gx _ _ (by omega)).1]; exact x7 r hr
          · rw [tg 0 (by decide), gm 0 (by omega), gm 1 (by omega), gm 2 (by omega), gm 3 (by omega)]; exact y1
          · rw [tg 13 (by decide)]
            intro r hr
            rw [gm _ (by omega)]; exact y2 r hr
          · rw [tg 12 (by decide)]
            intro r hr
            rw [gm _ (by omega)]; exact y3 r hr
          · rw [tg 0 (by decide), tg 1 (by decide), tg 2 (by decide), tg 3 (by decide)]
            intro r hr
            rw [gm _ (by omega), gm _ (by omega), gm _ (by omega)]; exact y4 r hr
          · rw [t4]
            by_cases e : r = q
            · rw [if_pos e, e]; exact m6
            · rw [if_neg e, gm _ (by omega)]; exact y5 r hr
          · rw [tg 0 (by decide), tg 5 (by decide), tg 6 (by decide), tg 7 (by decide), tg 8 (by decide)]
            intro r hr
            rw [gm _ (by omega), gm _ (by omega), gm _ (by omega), gm _ (by omega)]; exact y6 r hr
          · rw [tg 9 (by decide), tg 10 (by decide), tg 11 (by decide)]
            intro z hz
            rw [gm _ (by omega), gm _ (by omega), gm _ (by omega)]; exact y7 z hz
          · rw [tg 0 (by decide)]
            intro r hr
            obtain ⟨j1, j2, j3⟩ := u1 r hr
            exact ⟨j1, by rw [(gx _ _ (by omega)).2]; exact j2, by rw [(b6 208 _ (decide_eq_true (by omega))).2, (b5 208 _ (decide_eq_true (by omega))).2]; exact j3⟩
          · rw [tg 0 (by decide)]; exact u2
          · rw [tg 0 (by decide)]; exact u3
          · rw [tg 0 (by decide), (b6 203 20 (decide_eq_true (by omega))).1, (b5 203 20 (decide_eq_true (by omega))).1]; exact s20'
          · rw [(gx _ _ (by omega)).1]; exact l2
          · rw [(b6 203 21 (decide_eq_true (by omega))).1, (b5 203 21 (decide_eq_true (by omega))).1]; exact l3
      · rw [if_neg (show ¬ nI (T 4 q) - 1 = -1 from fun h => h0 ((nI_eq (b := 0) (by omega) (by decide)).1 (by
          have h5 : nI (T 4 q) = 0 := by grind
          exact h5))), if_neg (show ¬ nI (T 4 q) ≤ 0 from (show ¬ nI (T 4 q) ≤ nI 0 from nI_ge (by omega) (by omega)))]
        unfold f_X8_readSpot_41 f_X11_line_214
        exact bad 3 (by decide)
    · obtain rfl : k2 = -1 := by
        rcases h2 with ⟨q', hq', hWq', -⟩ | ⟨h2, -⟩
        · exact absurd hWq' (h1 q' hq')
        · exact h2
      rw [if_pos rfl, if_pos (show (-1 : Int32) < 0 by decide)]
      unfold f_X8_readSpot_41 f_X11_line_214
      exact bad 3 (by decide)
  · rw [if_neg hN, if_neg hN]
    exact bad 1 (by decide)
