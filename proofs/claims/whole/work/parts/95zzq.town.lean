/-! the town's text: carts -/
theorem cart_wf {T T' : Nat → Nat → Nat} {m a l d : Nat} (hwf : qTWF T) (hK : T 0 3 < 20) (hm : m < 240) (hc : cellok T a) (hl : l ≤ 400) (hd : d ≤ 9) (e0 : ∀ f i, f ≠ 0 → ¬ (5 ≤ f ∧ f ≤ 8) → T' f i = T f i) (e00 : T' 0 0 = T 0 0 ∧ T' 0 1 = T 0 1 ∧ T' 0 2 = T 0 2 ∧ T' 0 3 = T 0 3 + 1) (e5 : ∀ i, T' 5 i = (if i = T 0 3 then m else T 5 i) ∧ T' 6 i = (if i = T 0 3 then a else T 6 i) ∧ T' 7 i = (if i = T 0 3 then l else T 7 i) ∧ T' 8 i = (if i = T 0 3 then d else T 8 i)) : qTWF T' := by
  obtain ⟨g1, g2, g3, g4, g5, g6, g7⟩ := hwf
  have ec : ∀ x, cellok T' x ↔ cellok T x := fun x => by
    unfold cellok
    rw [e00.1, e00.2.1]
  refine ⟨?_, fun q hq => ?_, fun q hq => ?_, fun c hc' => ?_, fun f h1 h2 => ?_, fun q r h1 h2 => ?_, fun i => ?_⟩
  · rw [e00.1, e00.2.1, e00.2.2.1, e00.2.2.2]
    exact ⟨g1.1, g1.2.1, g1.2.2.1, hK⟩
  · rw [e00.2.2.1] at hq
    rw [ec, ec, e0 1 q (by omega) (by omega), e0 2 q (by omega) (by omega), e0 3 q (by omega) (by omega), e0 4 q (by omega) (by omega)]
    exact g2 q hq
  · rw [e00.2.2.1] at hq
    rw [e0 4 q (by omega) (by omega)]
    exact g3 q hq
  · rw [e00.2.2.2] at hc'
    obtain ⟨j5, j6, j7, j8⟩ := e5 c
    rw [ec, j5, j6, j7, j8]
    by_cases e : c = T 0 3
    · rw [if_pos e, if_pos e, if_pos e, if_pos e]
      exact ⟨hm, hc, hl, hd⟩
    · rw [if_neg e, if_neg e, if_neg e, if_neg e]
      exact g4 c (by omega)
  · have hf : T' f = T f := funext fun i => e0 f i (by omega) (by omega)
    rw [hf, e0 13 _ (by omega) (by omega)]
    obtain ⟨j1, j2, j3⟩ := g5 f h1 h2
    exact ⟨fun x => by rw [ec]; exact j1 x, j2, j3⟩
  · rw [e00.2.2.1] at h1 h2
    rw [e0 1 q (by omega) (by omega), e0 1 r (by omega) (by omega)]
    exact g6 q r h1 h2
  · rw [e0 12 i (by omega) (by omega)]
    exact g7 i
def cT (T : Nat → Nat → Nat) (m a l d : Nat) : Nat → Nat → Nat := tu (tu (tu (tu (tu T 5 (T 0 3) m) 6 (T 0 3) a) 7 (T 0 3) l) 8 (T 0 3) d) 0 3 (T 0 3 + 1)
theorem cT_is (T : Nat → Nat → Nat) (m a l d : Nat) : (∀ f i, f ≠ 0 → ¬ (5 ≤ f ∧ f ≤ 8) → cT T m a l d f i = T f i) ∧ (cT T m a l d 0 0 = T 0 0 ∧ cT T m a l d 0 1 = T 0 1 ∧ cT T m a l d 0 2 = T 0 2 ∧ cT T m a l d 0 3 = T 0 3 + 1) ∧ ∀ i, cT T m a l d 5 i = (if i = T 0 3 then m else T 5 i) ∧ cT T m a l d 6 i = (if i = T 0 3 then a else T 6 i) ∧ cT T m a l d 7 i = (if i = T 0 3 then l else T 7 i) ∧ cT T m a l d 8 i = (if i = T 0 3 then d else T 8 i) := by
  refine ⟨fun f i h1 h2 => ?_, ⟨?_, ?_, ?_, tu_s⟩, fun i => ?_⟩
  · unfold cT
    rw [tu_f h1, tu_f (by omega), tu_f (by omega), tu_f (by omega), tu_f (by omega)]
  · unfold cT
    rw [tu_i (by decide), tu_f (by decide), tu_f (by decide), tu_f (by decide), tu_f (by decide)]
  · unfold cT
    rw [tu_i (by decide), tu_f (by decide), tu_f (by decide), tu_f (by decide), tu_f (by decide)]
  · unfold cT
    rw [tu_i (by decide), tu_f (by decide), tu_f (by decide), tu_f (by decide), tu_f (by decide)]
  · unfold cT
    refine ⟨?_, ?_, ?_, ?_⟩
    · rw [tu_f (by decide), tu_f (by decide), tu_f (by decide), tu_f (by decide)]
      by_cases e : i = T 0 3
      · rw [e, tu_s, if_pos rfl]
      · rw [tu_i e, if_neg e]
    · rw [tu_f (by decide), tu_f (by decide), tu_f (by decide)]
      by_cases e : i = T 0 3
      · rw [e, tu_s, if_pos rfl]
      · rw [tu_i e, if_neg e, tu_f (by decide)]
    · rw [tu_f (by decide), tu_f (by decide)]
      by_cases e : i = T 0 3
      · rw [e, tu_s, if_pos rfl]
      · rw [tu_i e, if_neg e, tu_f (by decide), tu_f (by decide)]
    · rw [tu_f (by decide)]
      by_cases e : i = T 0 3
      · rw [e, tu_s, if_pos rfl]
      · rw [tu_i e, if_neg e, tu_f (by decide), tu_f (by decide), tu_f (by decide)]
theorem cart_t {F n lim p : Nat} {B : Nat → Nat} {T : Nat → Nat → Nat} {W : Nat → List Nat} {μ ν : aw_M} (hF : 2000 ≤ F) (px : PXk B n lim p μ) (pm : PMk B n lim p ν) (hK : tK B n lim p = 1) (dt : DT T W μ ν) : RT (f_X8_readCart F 53 1 μ) (f_X11_readCart F 203 ν) (After B n lim 1 p kTX kTM (D0 T) μ ν) := by
  have r7 : aw_rf 203 7 = 206 := by simp only [rf203, rf203b]
  have r : aw_rf 53 10 = 59 ∧ aw_rf 53 11 = 60 ∧ aw_rf 53 12 = 61 ∧ aw_rf 53 13 = 62 := by simp only [rf0, rf1, rf4, rf5, rf19, rf23, rf28, rf39, rf53, rf67, rf71, rf76, rf88, rf97, rf101, rf109, rf110, rf124, rf128, rf133, rf144, rf156, rf157, rf171, rf175, rf180, rf191, rf51, and_self]
  obtain ⟨hwf, tx, tm, hW, s20, hlw⟩ := id dt
  have n20 := hwf.1.2.2.2
  unfold f_X8_readCart f_X11_readCart
  rw [tx.1.2.2.2, show aw_in 3 427 = true by decide, pg_t, plet, r7, show (3 : Int32).toNatClampNeg = 3 by decide, tm.1.2.2.2, r.1, r.2.1, r.2.2.1, r.2.2.2]
  by_cases c : T 0 3 < 20
  · rw [if_pos (show nI (T 0 3) < 20 from (show nI (T 0 3) < nI 20 from nI_lt c (by decide))), if_neg (show ¬ nI (T 0 3) = 20 from fun h => by have := (nI_eq (b := 20) (by omega) (by decide)).1 h; omega)]
    refine RT_call (rstep hF px pm (by rw [hK]; decide)) ?_
    rintro μ1 ν1 ⟨a1, b1, hp1, px1, pm1⟩
    generalize tN B n lim p = p1 at hp1 px1 pm1
    have fx1 : AgK kTX μ μ1 := a1.sub fun a k h => decide_eq_true (by have := of_decide_eq_true h; omega)
    have fm1 : AgK kTM ν ν1 := b1.sub fun a k h => decide_eq_true (by have := of_decide_eq_true h; omega)
    have y1 : ν1.1 203 15 = ν.1 203 15 := (b1 203 15 (decide_eq_true (by omega))).1
    have e4 : μ1.1 53 4 = nI (T 0 3) := by rw [(a1 53 4 (decide_eq_true (by omega))).1]; exact tx.1.2.2.2
    rw [e4]
    refine RT_call (rnum (lo := 0) (hi := 240) (x := 59) (i := T 0 3) (z := 20) hF px1 pm1 rfl (by decide) rfl (by decide) (by decide) (by decide) (by decide) (by decide) c) ?_
    rintro ⟨r1, μ2⟩ ⟨r2, ν2⟩ ⟨a2, b2, h⟩
    dsimp only at a2 b2 h ⊢
    have fx2 : AgK kTX μ μ2 := fx1.tr (a2.sub fun a k h => decide_eq_true (by have := of_decide_eq_true h; omega))
    have fm2 : AgK kTM ν ν2 := fm1.tr (b2.sub fun a k h => decide_eq_true (by have := of_decide_eq_true h; omega))
    rcases h with ⟨rfl, rfl, p2, m, -, hm, hp2, px2, pm2, e59, g18, x2⟩ | ⟨rfl, rfl, ff⟩
    rotate_left
    · rw [if_neg Bool.false_ne_true, if_neg Bool.false_ne_true, RT_some]
      exact ⟨fx2, fm2, .inr ⟨rfl, rfl, ff⟩⟩
    rw [if_pos rfl, if_pos rfl, show (47 : Int32) + nI (T 0 3) = nI (47 + T 0 3) from nI_add 47 _, pI_in_t (by omega) (by decide), pg_t, plet, nI_clamp (by omega), g18]
    have b3 : AgK (fun x i => decide (¬ (x = 206 ∧ i = 47 + T 0 3))) ν2 (aw_wI ν2 206 (47 + T 0 3) (nI m)) := (AgK.rf ν2).wI (decide_eq_false (by omega))
    have m3 : (aw_wI ν2 206 (47 + T 0 3) (nI m)).1 206 (47 + T 0 3) = nI m := rI_s
    generalize aw_wI ν2 206 (47 + T 0 3) (nI m) = ν3 at b3 m3 ⊢
    have pm3 : PMk B n lim p2 ν3 := PMk_ag b3 (fun a k h => decide_eq_true (by omega)) pm2
    have fm3 : AgK kTM ν ν3 := fm2.tr (b3.sub fun a k h => decide_eq_true (by have := of_decide_eq_true h; omega))
    have y3 : ν3.1 203 15 = ν.1 203 15 := by rw [(b3 203 15 (decide_eq_true (by omega))).1, x2]; exact y1
    have u2 : ∀ k, k ≤ 2 → μ2.1 53 k = μ.1 53 k := fun k hk => by rw [(a2 53 k (decide_eq_true (by omega))).1, (a1 53 k (decide_eq_true (by omega))).1]
    have u3 : ∀ k, k ≤ 1 → ν3.1 206 k = ν.1 206 k := fun k hk => by rw [(b3 206 k (decide_eq_true (by omega))).1, (b2 206 k (decide_eq_true (by omega))).1, (b1 206 k (decide_eq_true (by omega))).1]
    refine RT_call (cell_t (w := T 0 0) (h := T 0 1) (occ := fun _ => false) hF px2 pm3 hwf.1.1 hwf.1.2.1 (by rw [u2 1 (by decide)]; exact tx.1.1) (by rw [u2 2 (by decide)]; exact tx.1.2.1) (by rw [u3 0 (by decide)]; exact tm.1.1) (by rw [u3 1 (by decide)]; exact tm.1.2.1) (.inl ⟨rfl, fun _ => rfl⟩)) ?_
    rintro ⟨r1, μ4⟩ ⟨r2, ν4⟩ ⟨a4, b4, h⟩
    dsimp only at a4 b4 h ⊢
    have fx4 : AgK kTX μ μ4 := fx2.tr (a4.sub fun a k h => decide_eq_true (by have := of_decide_eq_true h; omega))
    have fm4 : AgK kTM ν ν4 := fm3.tr (b4.sub fun a k h => decide_eq_true (by have := of_decide_eq_true h; omega))
    rcases h with ⟨rfl, rfl, ff⟩ | ⟨p4, x, y, rfl, hp4, hx, hy, hK4, pm4, m18, m15, h⟩
    · rw [if_neg Bool.false_ne_true, if_neg Bool.false_ne_true, RT_some]
      exact ⟨fx4, fm4, .inr ⟨rfl, rfl, ff⟩⟩
    rcases h with ⟨-, rfl, px4, e19⟩ | ⟨h, -⟩
    rotate_left
    · cases h
    have hc : cellok T (10 * y + x) := cellok_xy hwf hx hy
    have ha : 10 * y + x < 100 := cellok_lt hwf hc
    generalize 10 * y + x = a at m18 e19 hc ha
    have e44 : μ4.1 53 4 = nI (T 0 3) := by rw [(a4 53 4 (decide_eq_true (by omega))).1, (a2 53 4 (decide_eq_true (by omega))).1, e4]
    rw [if_pos rfl, if_pos rfl, e44, e19, pI_in_t c (by decide), pg_t, plet, nI_clamp (by omega), m18, show (67 : Int32) + nI (T 0 3) = nI (67 + T 0 3) from nI_add 67 _, pI_in_t (by omega) (by decide), pg_t, plet, nI_clamp (by omega)]
    have a5 : AgK (fun x i => decide (¬ (x = 60 ∧ i = T 0 3))) μ4 (aw_wI μ4 60 (T 0 3) (nI a)) := (AgK.rf μ4).wI (decide_eq_false (by omega))
    have e60 : (aw_wI μ4 60 (T 0 3) (nI a)).1 60 (T 0 3) = nI a := rI_s
    generalize aw_wI μ4 60 (T 0 3) (nI a) = μ5 at a5 e60 ⊢
    have b5 : AgK (fun x i => decide (¬ (x = 206 ∧ i = 67 + T 0 3))) ν4 (aw_wI ν4 206 (67 + T 0 3) (nI a)) := (AgK.rf ν4).wI (decide_eq_false (by omega))
    have m5 : (aw_wI ν4 206 (67 + T 0 3) (nI a)).1 206 (67 + T 0 3) = nI a := rI_s
    generalize aw_wI ν4 206 (67 + T 0 3) (nI a) = ν5 at b5 m5 ⊢
    have px5 : PXk B n lim (tN B n lim p4) μ5 := PXk_ag a5 (fun a k h => decide_eq_true (by omega)) px4
    have pm5 : PMk B n lim p4 ν5 := PMk_ag b5 (fun a k h => decide_eq_true (by omega)) pm4
    refine RT_r (pstep_m hF pm5 (by rw [hK4]; decide)) ?_
    rintro ν6 ⟨b6, pm6⟩
    have hp6 := (tN_p pm4.1 (show tK B n lim p4 ≠ 4 ∧ tK B n lim p4 ≠ 5 by rw [hK4]; decide)).1
    generalize tN B n lim p4 = p6 at hp6 px5 pm6
    have e54 : μ5.1 53 4 = nI (T 0 3) := by rw [(a5 53 4 (decide_eq_true (by omega))).1, e44]
    rw [e54]
    refine RT_call (rnum (lo := 0) (hi := 401) (x := 61) (i := T 0 3) (z := 20) hF px5 pm6 rfl (by decide) rfl (by decide) (by decide) (by decide) (by decide) (by decide) c) ?_
    rintro ⟨r1, μ7⟩ ⟨r2, ν7⟩ ⟨a7, b7, h⟩
    dsimp only at a7 b7 h ⊢
    have fx7 : AgK kTX μ μ7 := (fx4.tr (a5.sub fun a k h => decide_eq_true (by have := of_decide_eq_true h; omega))).tr (a7.sub fun a k h => decide_eq_true (by have := of_decide_eq_true h; omega))
    have fm7 : AgK kTM ν ν7 := ((fm4.tr (b5.sub fun a k h => decide_eq_true (by have := of_decide_eq_true h; omega))).tr (b6.sub fun a k h => decide_eq_true (by have := of_decide_eq_true h; omega))).tr (b7.sub fun a k h => decide_eq_true (by have := of_decide_eq_true h; omega))
    rcases h with ⟨rfl, rfl, p7, l, -, hl, hp7, px7, pm7, e61, g18', x7⟩ | ⟨rfl, rfl, ff⟩
    rotate_left
    · rw [if_neg Bool.false_ne_true, if_neg Bool.false_ne_true, RT_some]
      exact ⟨fx7, fm7, .inr ⟨rfl, rfl, ff⟩⟩
    have e74 : μ7.1 53 4 = nI (T 0 3) := by rw [(a7 53 4 (decide_eq_true (by omega))).1, e54]
    rw [if_pos rfl, if_pos rfl, e74, g18', show (87 : Int32) + nI (T 0 3) = nI (87 + T 0 3) from nI_add 87 _, pI_in_t (by omega) (by decide), pg_t, plet, nI_clamp (by omega)]
    have b8 : AgK (fun x i => decide (¬ (x = 206 ∧ i = 87 + T 0 3))) ν7 (aw_wI ν7 206 (87 + T 0 3) (nI l)) := (AgK.rf ν7).wI (decide_eq_false (by omega))
    have m8 : (aw_wI ν7 206 (87 + T 0 3) (nI l)).1 206 (87 + T 0 3) = nI l := rI_s
    generalize aw_wI ν7 206 (87 + T 0 3) (nI l) = ν8 at b8 m8 ⊢
    have pm8 : PMk B n lim p7 ν8 := PMk_ag b8 (fun a k h => decide_eq_true (by omega)) pm7
    refine RT_call (rnum (lo := 0) (hi := 10) (x := 62) (i := T 0 3) (z := 20) hF px7 pm8 rfl (by decide) rfl (by decide) (by decide) (by decide) (by decide) (by decide) c) ?_
    rintro ⟨r1, μ9⟩ ⟨r2, ν9⟩ ⟨a9, b9, h⟩
    dsimp only at a9 b9 h ⊢
    have fx9 : AgK kTX μ μ9 := fx7.tr (a9.sub fun a k h => decide_eq_true (by have := of_decide_eq_true h; omega))
    have fm9 : AgK kTM ν ν9 := (fm7.tr (b8.sub fun a k h => decide_eq_true (by have := of_decide_eq_true h; omega))).tr (b9.sub fun a k h => decide_eq_true (by have := of_decide_eq_true h; omega))
    rcases h with ⟨rfl, rfl, p9, d, -, hd, hp9, px9, pm9, e62, g18'', x9⟩ | ⟨rfl, rfl, ff⟩
    rotate_left
    · rw [if_neg Bool.false_ne_true, if_neg Bool.false_ne_true, RT_some]
      exact ⟨fx9, fm9, .inr ⟨rfl, rfl, ff⟩⟩
    have e94 : μ9.1 53 4 = nI (T 0 3) := by rw [(a9 53 4 (decide_eq_true (by omega))).1, e74]
    have m93 : ν9.1 206 3 = nI (T 0 3) := by
      rw [(b9 206 3 (decide_eq_true (by omega))).1, (b8 206 3 (decide_eq_true (by omega))).1, (b7 206 3 (decide_eq_true (by omega))).1, (b6 206 3 (decide_eq_true (by omega))).1, (b5 206 3 (decide_eq_true (by omega))).1, (b4 206 3 (decide_eq_true (by omega))).1, (b3 206 3 (decide_eq_true (by omega))).1, (b2 206 3 (decide_eq_true (by omega))).1, (b1 206 3 (decide_eq_true (by omega))).1]
      exact tm.1.2.2.2
    rw [if_pos rfl, if_pos rfl, e94, g18'', nI_1, plet, show (107 : Int32) + nI (T 0 3) = nI (107 + T 0 3) from nI_add 107 _, pI_in_t (by omega) (by decide), pg_t, plet, nI_clamp (by omega), pg_t, pg_t, plet, rI_k (by omega), m93, nI_1, RT_some]
    have aA : AgK (fun x i => decide (¬ (x = 53 ∧ i = 4))) μ9 (aw_wI μ9 53 4 (nI (T 0 3 + 1))) := (AgK.rf μ9).wI (decide_eq_false (by omega))
    have eA : (aw_wI μ9 53 4 (nI (T 0 3 + 1))).1 53 4 = nI (T 0 3 + 1) := rI_s
    generalize aw_wI μ9 53 4 (nI (T 0 3 + 1)) = μA at aA eA ⊢
    have bA : AgK (fun x i => decide (¬ (x = 206 ∧ i = 107 + T 0 3) ∧ ¬ (x = 206 ∧ i = 3))) ν9 (aw_wI (aw_wI ν9 206 (107 + T 0 3) (nI d)) 206 3 (nI (T 0 3 + 1))) := ((AgK.rf ν9).wI (decide_eq_false (by omega))).wI (decide_eq_false (by omega))
    have mA : (aw_wI (aw_wI ν9 206 (107 + T 0 3) (nI d)) 206 3 (nI (T 0 3 + 1))).1 206 3 = nI (T 0 3 + 1) := rI_s
    have mB : (aw_wI (aw_wI ν9 206 (107 + T 0 3) (nI d)) 206 3 (nI (T 0 3 + 1))).1 206 (107 + T 0 3) = nI d := by rw [rI_k (by omega), rI_s]
    generalize aw_wI (aw_wI ν9 206 (107 + T 0 3) (nI d)) 206 3 (nI (T 0 3 + 1)) = νA at bA mA mB ⊢
    refine ⟨fx9.tr (aA.sub fun a k h => decide_eq_true (by have := of_decide_eq_true h; omega)), fm9.tr (bA.sub fun a k h => decide_eq_true (by have := of_decide_eq_true h; omega)), .inl ⟨rfl, rfl, p9, by omega, PXk_ag aA (fun a k h => decide_eq_true (by omega)) px9, PMk_ag bA (fun a k h => decide_eq_true (by omega)) pm9, ?_, cT T m a l d, W, ⟨(cT_is T m a l d).2.1.1, (cT_is T m a l d).2.1.2.1⟩, ?_⟩⟩
    · show νA.1 203 15 = ν.1 203 15
      rw [(bA 203 15 (decide_eq_true (by omega))).1, x9, (b8 203 15 (decide_eq_true (by omega))).1, x7, (b6 203 15 (decide_eq_true (by omega))).1, (b5 203 15 (decide_eq_true (by omega))).1, m15]
      exact y3
    · show DT _ W μA νA
      obtain ⟨k0, k00, k5⟩ := cT_is T m a l d
      generalize cT T m a l d = T' at k0 k00 k5 ⊢
      -- what has not changed
      have gx : ∀ x i, ¬ (x = 1) → ¬ (59 ≤ x ∧ x ≤ 62 ∧ i = T 0 3) → ¬ (x = 53 ∧ (i = 4 ∨ i = 19)) → μA.1 x i = μ.1 x i ∧ μA.2 x i = μ.2 x i := fun x i h1 h2 h3 => by
        have z1 := a1 x i (decide_eq_true (by omega))
        have z2 := a2 x i (decide_eq_true (by omega))
        have z4 := a4 x i (decide_eq_true (by omega))
        have z5 := a5 x i (decide_eq_true (by omega))
        have z7 := a7 x i (decide_eq_true (by omega))
        have z9 := a9 x i (decide_eq_true (by omega))
        have zA := aA x i (decide_eq_true (by omega))
        exact ⟨by rw [zA.1, z9.1, z7.1, z5.1, z4.1, z2.1, z1.1], by rw [zA.2, z9.2, z7.2, z5.2, z4.2, z2.2, z1.2]⟩
      have gm : ∀ x i, ¬ (x = 203 ∧ i ≤ 18) → ¬ (x = 206 ∧ (i = 47 + T 0 3 ∨ i = 67 + T 0 3 ∨ i = 87 + T 0 3 ∨ i = 107 + T 0 3 ∨ i = 3)) → νA.1 x i = ν.1 x i ∧ νA.2 x i = ν.2 x i := fun x i h1 h2 => by
        have z1 := b1 x i (decide_eq_true (by omega))
        have z2 := b2 x i (decide_eq_true (by omega))
        have z3 := b3 x i (decide_eq_true (by omega))
        have z4 := b4 x i (decide_eq_true (by omega))
        have z5 := b5 x i (decide_eq_true (by omega))
        have z6 := b6 x i (decide_eq_true (by omega))
        have z7 := b7 x i (decide_eq_true (by omega))
        have z8 := b8 x i (decide_eq_true (by omega))
        have z9 := b9 x i (decide_eq_true (by omega))
        have zA := bA x i (decide_eq_true (by omega))
        exact ⟨by rw [zA.1, z9.1, z8.1, z7.1, z6.1, z5.1, z4.1, z3.1, z2.1, z1.1], by rw [zA.2, z9.2, z8.2, z7.2, z6.2, z5.2, z4.2, z3.2, z2.2, z1.2]⟩
      -- the new values
      have q59 : μA.1 59 (T 0 3) = nI m := by rw [(aA 59 _ (decide_eq_true (by omega))).1, (a9 59 _ (decide_eq_true (by omega))).1, (a7 59 _ (decide_eq_true (by omega))).1, (a5 59 _ (decide_eq_true (by omega))).1, (a4 59 _ (decide_eq_true (by omega))).1]; exact e59
      have q60 : μA.1 60 (T 0 3) = nI a := by rw [(aA 60 _ (decide_eq_true (by omega))).1, (a9 60 _ (decide_eq_true (by omega))).1, (a7 60 _ (decide_eq_true (by omega))).1]; exact e60
      have q61 : μA.1 61 (T 0 3) = nI l := by rw [(aA 61 _ (decide_eq_true (by omega))).1, (a9 61 _ (decide_eq_true (by omega))).1]; exact e61
      have q62 : μA.1 62 (T 0 3) = nI d := by rw [(aA 62 _ (decide_eq_true (by omega))).1]; exact e62
      have s47 : νA.1 206 (47 + T 0 3) = nI m := by rw [(bA 206 _ (decide_eq_true (by omega))).1, (b9 206 _ (decide_eq_true (by omega))).1, (b8 206 _ (decide_eq_true (by omega))).1, (b7 206 _ (decide_eq_true (by omega))).1, (b6 206 _ (decide_eq_true (by omega))).1, (b5 206 _ (decide_eq_true (by omega))).1, (b4 206 _ (decide_eq_true (by omega))).1]; exact m3
      have s67 : νA.1 206 (67 + T 0 3) = nI a := by rw [(bA 206 _ (decide_eq_true (by omega))).1, (b9 206 _ (decide_eq_true (by omega))).1, (b8 206 _ (decide_eq_true (by omega))).1, (b7 206 _ (decide_eq_true (by omega))).1, (b6 206 _ (decide_eq_true (by omega))).1]; exact m5
      have s87 : νA.1 206 (87 + T 0 3) = nI l := by rw [(bA 206 _ (decide_eq_true (by omega))).1, (b9 206 _ (decide_eq_true (by omega))).1]; exact m8
      clear a1 a2 a4 a5 a7 a9 aA b1 b2 b3 b4 b5 b6 b7 b8 b9 bA fx1 fx2 fx4 fx7 fx9 fm1 fm2 fm3 fm4 fm7 fm9 px1 px2 px4 px5 px7 px9 pm1 pm2 pm3 pm4 pm5 pm6 pm7 pm8 pm9
      have hown : ∀ x, own T' x (T' 0 2) = own T x (T 0 2) := fun x => by
        rw [k00.2.2.1]
        exact own_ext _ fun q _ => k0 1 q (by omega) (by omega)
      obtain ⟨x1, x2, x3, x4, x5, x6, x7⟩ := tx
      obtain ⟨y1, y2, y3, y4, y5, y6, y7⟩ := tm
      have n9 := hwf.1.2.2.1
      refine ⟨cart_wf hwf c hm hc (by omega) (by omega) k0 k00 k5, ⟨?_, fun q hq => ?_, fun q hq => ?_, fun q hq => ?_, fun i hi => ?_, fun x hx => ?_, fun i hi => ?_⟩, ⟨?_, fun i hi => ?_, fun i hi => ?_, fun q hq => ?_, fun q hq => ?_, fun q hq => ?_, fun x hx => ?_⟩, ?_, ?_, ?_⟩
      · rw [k00.1, k00.2.1, k00.2.2.1, k00.2.2.2, eA, (gx 53 1 (by decide) (by omega) (by omega)).1, (gx 53 2 (by decide) (by omega) (by omega)).1, (gx 53 3 (by decide) (by omega) (by omega)).1]; exact ⟨x1.1, x1.2.1, x1.2.2.1, rfl⟩
      · rw [k00.2.2.1] at hq
        rw [k0 1 q (by omega) (by omega), k0 2 q (by omega) (by omega), k0 3 q (by omega) (by omega), (gx _ _ (by decide) (by omega) (by omega)).1, (gx _ _ (by decide) (by omega) (by omega)).1, (gx _ _ (by decide) (by omega) (by omega)).1]; exact x2 q hq
      · rw [k0 4 q (by omega) (by omega), (gx _ _ (by decide) (by omega) (by omega)).1]; exact x3 q hq
      · rw [k00.2.2.2] at hq
        obtain ⟨j5, j6, j7, j8⟩ := k5 q
        rw [j5, j6, j7, j8]
        by_cases e : q = T 0 3
        · rw [e, if_pos rfl, if_pos rfl, if_pos rfl, if_pos rfl]
          exact ⟨q59, q60, q61, q62⟩
        · rw [if_neg e, if_neg e, if_neg e, if_neg e, (gx _ _ (by decide) (by omega) (by omega)).1, (gx _ _ (by decide) (by omega) (by omega)).1, (gx _ _ (by decide) (by omega) (by omega)).1, (gx _ _ (by decide) (by omega) (by omega)).1]
          exact x4 q (by omega)
      · rw [k0 13 i (by omega) (by omega), (gx _ _ (by decide) (by omega) (by omega)).1]; exact x5 i hi
      · unfold things
        rw [hown, k0 9 x (by omega) (by omega), k0 10 x (by omega) (by omega), k0 11 x (by omega) (by omega), (gx _ _ (by decide) (by omega) (by omega)).1, (gx _ _ (by decide) (by omega) (by omega)).1]; exact x6 x hx
      · rw [k0 12 i (by omega) (by omega), (gx _ _ (by decide) (by omega) (by omega)).1]; exact x7 i hi
      · rw [k00.1, k00.2.1, k00.2.2.1, k00.2.2.2, mA, (gm _ _ (by omega) (by omega)).1, (gm _ _ (by omega) (by omega)).1, (gm _ _ (by omega) (by omega)).1]; exact ⟨y1.1, y1.2.1, y1.2.2.1, rfl⟩
      · rw [k0 13 i (by omega) (by omega), (gm _ _ (by omega) (by omega)).1]; exact y2 i hi
      · rw [k0 12 i (by omega) (by omega), (gm _ _ (by omega) (by omega)).1]; exact y3 i hi
      · rw [k00.2.2.1] at hq
        rw [k0 1 q (by omega) (by omega), k0 2 q (by omega) (by omega), k0 3 q (by omega) (by omega), (gm _ _ (by omega) (by omega)).1, (gm _ _ (by omega) (by omega)).1, (gm _ _ (by omega) (by omega)).1]; exact y4 q hq
      · rw [k0 4 q (by omega) (by omega), (gm _ _ (by omega) (by omega)).1]; exact y5 q hq
      · rw [k00.2.2.2] at hq
        obtain ⟨j5, j6, j7, j8⟩ := k5 q
        rw [j5, j6, j7, j8]
        by_cases e : q = T 0 3
        · rw [e, if_pos rfl, if_pos rfl, if_pos rfl, if_pos rfl]
          exact ⟨s47, s67, s87, mB⟩
        · rw [if_neg e, if_neg e, if_neg e, if_neg e, (gm _ _ (by omega) (by omega)).1, (gm _ _ (by omega) (by omega)).1, (gm _ _ (by omega) (by omega)).1, (gm _ _ (by omega) (by omega)).1]
          exact y6 q (by omega)
      · rw [k0 9 x (by omega) (by omega), k0 10 x (by omega) (by omega), k0 11 x (by omega) (by omega), (gm _ _ (by omega) (by omega)).1, (gm _ _ (by omega) (by omega)).1, (gm _ _ (by omega) (by omega)).1]; exact y7 x hx
      · obtain ⟨w1, w2, w3⟩ := hW
        rw [k00.2.2.1]
        refine ⟨fun q hq => ?_, w2, w3⟩
        obtain ⟨j1, j2, j3⟩ := w1 q hq
        exact ⟨j1, by rw [(gx _ _ (by decide) (by omega) (by omega)).2]; exact j2, by rw [(gm _ _ (by omega) (by omega)).2]; exact j3⟩
      · rw [k00.1, (gm _ _ (by omega) (by omega)).1]; exact s20
      · obtain ⟨lw, l1, l2, l3⟩ := hlw
        exact ⟨lw, l1, by rw [(gx _ _ (by decide) (by omega) (by omega)).1]; exact l2, by rw [(gm _ _ (by omega) (by omega)).1]; exact l3⟩
  · rw [if_neg (show ¬ nI (T 0 3) < 20 from (show ¬ nI (T 0 3) < nI 20 from nI_nlt (by omega) (by omega))), if_pos (show nI (T 0 3) = 20 from by rw [show T 0 3 = 20 by omega]; rfl)]
    refine RT_call (rfail (v := 4) (by decide) px pm) ?_
    rintro ⟨r1, μ'⟩ ⟨r2, ν'⟩ ⟨a1, a2, a3, a4, a5⟩
    rw [RT_some]
    exact ⟨a1.sub fun a k h => decide_eq_true (by have := of_decide_eq_true h; omega), a2.sub fun a k h => decide_eq_true (by have := of_decide_eq_true h; omega), .inr ⟨a3, a4, a5⟩⟩
