/-! the town's text: quarters -/
theorem RT_sw {α β : Type} {o1 : Option α} {o2 : Option β} {Q : α → β → Prop} : RT o1 o2 Q ↔ T o2 fun b => T o1 fun a => Q a b := by
  constructor
  · rintro ⟨a, e1, b, e2, h⟩
    exact ⟨b, e2, a, e1, h⟩
  · rintro ⟨b, e2, a, e1, h⟩
    exact ⟨a, e1, b, e2, h⟩
theorem RT_lpr {σ α β : Type} {o1 : Option α} {g : (σ → Option β) → σ → Option β} {Q : α → β → Prop} (I : Nat → σ → Prop) (n : Nat) {F : Nat} {s0 : σ} (hF : n < F) (h0 : I 0 s0) (hs : ∀ i, i < n → ∀ s, I i s → ∀ k, (∀ s', I (i + 1) s' → RT o1 (k s') Q) → RT o1 (g k s) Q) (he : ∀ s, I n s → ∀ k, RT o1 (g k s) Q) : RT o1 (aw_loop g F s0) Q := RT_sw.2 (T_lp I n hF h0 (fun i hi s hI k hk => RT_sw.1 (hs i hi s hI k fun s' h => RT_sw.2 (hk s' h))) (fun s hI k => RT_sw.1 (he s hI k)))
def qT (T : Nat → Nat → Nat) (a x m : Nat) : Nat → Nat → Nat := tu (tu (tu (tu T 1 (T 0 2) a) 2 (T 0 2) x) 3 (T 0 2) m) 0 2 (T 0 2 + 1)
theorem qT_is (T : Nat → Nat → Nat) (a x m : Nat) : (∀ f i, f ≠ 0 → ¬ (1 ≤ f ∧ f ≤ 3) → qT T a x m f i = T f i) ∧ (qT T a x m 0 0 = T 0 0 ∧ qT T a x m 0 1 = T 0 1 ∧ qT T a x m 0 2 = T 0 2 + 1 ∧ qT T a x m 0 3 = T 0 3) ∧ ∀ i, qT T a x m 1 i = (if i = T 0 2 then a else T 1 i) ∧ qT T a x m 2 i = (if i = T 0 2 then x else T 2 i) ∧ qT T a x m 3 i = (if i = T 0 2 then m else T 3 i) := by
  refine ⟨fun f i h1 h2 => ?_, ⟨?_, ?_, tu_s, ?_⟩, fun i => ?_⟩
  · unfold qT
    rw [tu_f h1, tu_f (by omega), tu_f (by omega), tu_f (by omega)]
  · unfold qT
    rw [tu_i (by decide), tu_f (by decide), tu_f (by decide), tu_f (by decide)]
  · unfold qT
    rw [tu_i (by decide), tu_f (by decide), tu_f (by decide), tu_f (by decide)]
  · unfold qT
    rw [tu_i (by decide), tu_f (by decide), tu_f (by decide), tu_f (by decide)]
  · unfold qT
    refine ⟨?_, ?_, ?_⟩
    · rw [tu_f (by decide), tu_f (by decide), tu_f (by decide)]
      by_cases e : i = T 0 2
      · rw [e, tu_s, if_pos rfl]
      · rw [tu_i e, if_neg e]
    · rw [tu_f (by decide), tu_f (by decide)]
      by_cases e : i = T 0 2
      · rw [e, tu_s, if_pos rfl]
      · rw [tu_i e, if_neg e, tu_f (by decide)]
    · rw [tu_f (by decide)]
      by_cases e : i = T 0 2
      · rw [e, tu_s, if_pos rfl]
      · rw [tu_i e, if_neg e, tu_f (by decide), tu_f (by decide)]
theorem occ3 {T : Nat → Nat → Nat} {a : Nat} : occT T 3 a = true ↔ ∃ q, q < T 0 2 ∧ T 1 q = a := by
  unfold occT
  rw [if_neg (by decide)]
  exact own_is _
theorem quarter_wf {T T' : Nat → Nat → Nat} {a x m : Nat} (hwf : qTWF T) (hK : T 0 2 < 9) (hc : cellok T a) (ho : occT T 3 a = false) (hx : x ≤ 400) (hm : 1 ≤ m ∧ m ≤ 9) (e0 : ∀ f i, f ≠ 0 → ¬ (1 ≤ f ∧ f ≤ 3) → T' f i = T f i) (e00 : T' 0 0 = T 0 0 ∧ T' 0 1 = T 0 1 ∧ T' 0 2 = T 0 2 + 1 ∧ T' 0 3 = T 0 3) (e5 : ∀ i, T' 1 i = (if i = T 0 2 then a else T 1 i) ∧ T' 2 i = (if i = T 0 2 then x else T 2 i) ∧ T' 3 i = (if i = T 0 2 then m else T 3 i)) : qTWF T' := by
  obtain ⟨g1, g2, g3, g4, g5, g6, g7⟩ := hwf
  have ec : ∀ x, cellok T' x ↔ cellok T x := fun x => by
    unfold cellok
    rw [e00.1, e00.2.1]
  have hno : ∀ q, q < T 0 2 → T 1 q ≠ a := fun q hq h => by
    rw [occ3.2 ⟨q, hq, h⟩] at ho
    cases ho
  refine ⟨?_, fun q hq => ?_, fun q hq => ?_, fun c hc' => ?_, fun f h1 h2 => ?_, fun q r h1 h2 h3 => ?_, fun i => ?_⟩
  · rw [e00.1, e00.2.1, e00.2.2.1, e00.2.2.2]
    exact ⟨g1.1, g1.2.1, hK, g1.2.2.2⟩
  · rw [e00.2.2.1] at hq
    obtain ⟨j5, j6, j7⟩ := e5 q
    rw [ec, ec, j5, j6, j7, e0 4 q (by omega) (by omega)]
    by_cases e : q = T 0 2
    · rw [if_pos e, if_pos e, if_pos e]
      exact ⟨hc, hx, hm.1, hm.2, .inl (g3 q (by omega))⟩
    · rw [if_neg e, if_neg e, if_neg e]
      exact g2 q (by omega)
  · rw [e00.2.2.1] at hq
    rw [e0 4 q (by omega) (by omega)]
    exact g3 q (by omega)
  · rw [e00.2.2.2] at hc'
    rw [ec, e0 5 c (by omega) (by omega), e0 6 c (by omega) (by omega), e0 7 c (by omega) (by omega), e0 8 c (by omega) (by omega)]
    exact g4 c hc'
  · have hf : T' f = T f := funext fun i => e0 f i (by omega) (by omega)
    rw [hf, e0 13 _ (by omega) (by omega)]
    obtain ⟨j1, j2, j3⟩ := g5 f h1 h2
    exact ⟨fun x => by rw [ec]; exact j1 x, j2, j3⟩
  · rw [e00.2.2.1] at h1 h2
    rw [(e5 q).1, (e5 r).1] at h3
    by_cases e : q = T 0 2
    · by_cases e2 : r = T 0 2
      · omega
      · rw [if_pos e, if_neg e2] at h3
        exact absurd h3.symm (hno r (by omega))
    · by_cases e2 : r = T 0 2
      · rw [if_neg e, if_pos e2] at h3
        exact absurd h3 (hno q (by omega))
      · rw [if_neg e, if_neg e2] at h3
        exact g6 q r (by omega) (by omega) h3
  · rw [e0 12 i (by omega) (by omega)]
    exact g7 i
theorem quarter_t {F n lim p : Nat} {B : Nat → Nat} {T : Nat → Nat → Nat} {W : Nat → List Nat} {μ ν : aw_M} (hF : 2000 ≤ F) (px : PXk B n lim p μ) (pm : PMk B n lim p ν) (hK : tK B n lim p = 1) (dt : DT T W μ ν) : RT (f_X8_readQuarter F 53 1 μ) (f_X11_readQuarter F 203 ν) (After B n lim 1 p kTX kTM (D0 T) μ ν) := by
  have r7 : aw_rf 203 7 = 206 ∧ aw_rf 203 9 = 208 := by simp only [rf203, rf203b, and_self]
  have r : aw_rf 53 5 = 54 ∧ aw_rf 53 6 = 55 ∧ aw_rf 53 7 = 56 ∧ aw_rf 53 8 = 57 ∧ aw_rf 53 16 = 65 ∧ aw_rf 53 15 = 64 := by simp only [rf0, rf1, rf4, rf5, rf19, rf23, rf28, rf39, rf53, rf67, rf71, rf76, rf88, rf97, rf101, rf109, rf110, rf124, rf128, rf133, rf144, rf156, rf157, rf171, rf175, rf180, rf191, rf51, and_self]
  obtain ⟨hwf, tx, tm, -, -⟩ := id dt
  have n9 := hwf.1.2.2.1
  unfold f_X8_readQuarter f_X11_readQuarter
  rw [tx.1.2.2.1, show aw_in 2 427 = true by decide, pg_t, plet, r7.1, show (2 : Int32).toNatClampNeg = 2 by decide, tm.1.2.2.1, r.1, r.2.1, r.2.2.1, r.2.2.2.1, r.2.2.2.2.1, r7.2]
  by_cases c : T 0 2 < 9
  · rw [if_pos (show nI (T 0 2) < 9 from (show nI (T 0 2) < nI 9 from nI_lt c (by decide))), if_neg (show ¬ nI (T 0 2) = 9 from fun h => by have := (nI_eq (b := 9) (by omega) (by decide)).1 h; omega)]
    refine RT_call (rstep hF px pm (by rw [hK]; decide)) ?_
    rintro μ1 ν1 ⟨a1, b1, hp1, px1, pm1⟩
    generalize tN B n lim p = p1 at hp1 px1 pm1
    have fx1 : AgK kTX μ μ1 := a1.sub fun a k h => decide_eq_true (by have := of_decide_eq_true h; omega)
    have fm1 : AgK kTM ν ν1 := b1.sub fun a k h => decide_eq_true (by have := of_decide_eq_true h; omega)
    have y1 : ν1.1 203 15 = ν.1 203 15 := (b1 203 15 (decide_eq_true (by omega))).1
    have dt1 : DT T W μ1 ν1 := DT_ag a1 (fun a k h => decide_eq_true (by omega)) b1 (fun a k h => decide_eq_true (by omega)) dt
    obtain ⟨-, tx1, tm1, ⟨w1, w2, w3⟩, s20, hlw⟩ := id dt1
    have bad : ∀ v, 1 ≤ v ∧ v ≤ 4 → RT ((f_X6_fail F 1 (nI v) μ1).bind fun r => some (r.1, r.2)) ((f_X11_bad F 203 (nI v) ν1).bind fun r => some (r.1, r.2)) (After B n lim 1 p kTX kTM (D0 T) μ ν) := fun v hv => by
      refine RT_call (rfail hv px1 pm1) ?_
      rintro ⟨r1, μ'⟩ ⟨r2, ν'⟩ ⟨a1, a2, a3, a4, a5⟩
      rw [RT_some]
      exact ⟨fx1.tr (a1.sub fun a k h => decide_eq_true (by have := of_decide_eq_true h; omega)), fm1.tr (a2.sub fun a k h => decide_eq_true (by have := of_decide_eq_true h; omega)), .inr ⟨a3, a4, a5⟩⟩
    rw [atName_x px1, isName_m (by omega) pm1, Option.bind_some, Option.bind_some]
    dsimp only
    by_cases hN : isNm B n lim p1 = true
    rotate_left
    · rw [if_neg hN, if_neg hN]
      exact bad 1 (by decide)
    rw [if_pos hN, if_pos hN]
    obtain ⟨hK1, hkw⟩ := of_decide_eq_true hN
    have hw := tW_ok px1.1 hK1
    have e8w := (px1.2.2.2.2.2.2.1 hK1).1
    have e17w := pm1.2.2.2.2.2.2.1 hK1
    rw [e8w]
    refine RT_l (named_x (by omega) (by rw [r.1]) n9 tx1.1.2.2.1 (fun q hq => ⟨(w1 q hq).1, (w1 q hq).2.1⟩) hw) ?_
    rintro ⟨k1, μa⟩ ⟨ea, h1⟩
    have ea : μ1 = μa := ea.symm
    subst ea
    refine RT_r (find_m (f := 9) (by omega) n9 (by omega) e17w (fun q hq => ⟨(w1 q hq).1, (w1 q hq).2.2⟩) hw) ?_
    rintro ⟨k2, νa⟩ ⟨ea, h2⟩
    have ea : ν1 = νa := ea.symm
    subst ea
    dsimp only at h1 h2 ⊢
    rcases h1 with ⟨q, hq, hWq, rfl⟩ | ⟨rfl, h1⟩
    · obtain rfl : k2 = nI q := by
        rcases h2 with ⟨q', hq', hWq', rfl⟩ | ⟨-, h2⟩
        · rw [w2 q' q hq' hq (hWq'.trans hWq.symm)]
        · exact absurd hWq (h2 q hq)
      rw [if_neg (show ¬ nI q = -1 from fun h => by have := nI_pos' (n := q) (by omega); rw [h] at this; exact absurd this (by decide)), if_neg (nI_pos (by omega))]
      exact bad 3 (by decide)
    obtain rfl : k2 = -1 := by
      rcases h2 with ⟨q', hq', hWq', -⟩ | ⟨h2, -⟩
      · exact absurd hWq' (h1 q' hq')
      · exact h2
    rw [if_pos rfl, if_pos (show (-1 : Int32) < 0 by decide), tx1.1.2.2.1, pI_in_t c (by decide), pg_t, plet, nI_clamp (by omega), e8w, show (9 : Int32) + nI (T 0 2) = nI (9 + T 0 2) from nI_add 9 _, pI_in_t (by omega) (by decide), pg_t, plet, nI_clamp (by omega), e17w]
    have a2 : AgK (fun x i => decide (¬ (x = 54 ∧ i = T 0 2))) μ1 (aw_wL μ1 54 (T 0 2) (e27 (tW B n p1))) := (AgK.rf μ1).wL (decide_eq_false (by omega))
    have e54 : (aw_wL μ1 54 (T 0 2) (e27 (tW B n p1))).2 54 (T 0 2) = e27 (tW B n p1) := rL_s
    generalize aw_wL μ1 54 (T 0 2) (e27 (tW B n p1)) = μ2 at a2 e54 ⊢
    have b2 : AgK (fun x i => decide (¬ (x = 208 ∧ i = 9 + T 0 2))) ν1 (aw_wL ν1 208 (9 + T 0 2) (e8 (tW B n p1))) := (AgK.rf ν1).wL (decide_eq_false (by omega))
    have m208 : (aw_wL ν1 208 (9 + T 0 2) (e8 (tW B n p1))).2 208 (9 + T 0 2) = e8 (tW B n p1) := rL_s
    generalize aw_wL ν1 208 (9 + T 0 2) (e8 (tW B n p1)) = ν2 at b2 m208 ⊢
    refine RT_call (rstep hF (PXk_ag a2 (fun a k h => decide_eq_true (by omega)) px1) (PMk_ag b2 (fun a k h => decide_eq_true (by omega)) pm1) (by rw [hK1]; decide)) ?_
    rintro μ3 ν3 ⟨a3, b3, hp3, px3, pm3⟩
    generalize tN B n lim p1 = p3 at hp3 px3 pm3
    have fx3 : AgK kTX μ μ3 := (fx1.tr (a2.sub fun a k h => decide_eq_true (by have := of_decide_eq_true h; omega))).tr (a3.sub fun a k h => decide_eq_true (by have := of_decide_eq_true h; omega))
    have fm3 : AgK kTM ν ν3 := (fm1.tr (b2.sub fun a k h => decide_eq_true (by have := of_decide_eq_true h; omega))).tr (b3.sub fun a k h => decide_eq_true (by have := of_decide_eq_true h; omega))
    have y3 : ν3.1 203 15 = ν.1 203 15 := by rw [(b3 203 15 (decide_eq_true (by omega))).1, (b2 203 15 (decide_eq_true (by omega))).1]; exact y1
    have u3 : ∀ k, k ≤ 4 → μ3.1 53 k = μ1.1 53 k := fun k hk => by rw [(a3 53 k (decide_eq_true (by omega))).1, (a2 53 k (decide_eq_true (by omega))).1]
    have v3 : ∀ k, ν3.1 206 k = ν1.1 206 k := fun k => by rw [(b3 206 k (decide_eq_true (by omega))).1, (b2 206 k (decide_eq_true (by omega))).1]
    have h64 : μ3.1 64 = μ1.1 64 := (a3.a fun k => decide_eq_true (by omega)).trans (a2.a fun k => decide_eq_true (by omega))
    refine RT_call (cell_t (w := T 0 0) (h := T 0 1) (occ := occT T 3) (s := 3) hF px3 pm3 hwf.1.1 hwf.1.2.1 (by rw [u3 1 (by decide)]; exact tx1.1.1) (by rw [u3 2 (by decide)]; exact tx1.1.2.1) (by rw [v3]; exact tm1.1.1) (by rw [v3]; exact tm1.1.2.1) (.inr ⟨by decide, fun a μ' ha he => hasOn4 (k := 3) hwf r.2.2.2.2.2 tx1 (he.trans h64) ha (by decide)⟩)) ?_
    rintro ⟨r1, μ4⟩ ⟨r2, ν4⟩ ⟨a4, b4, h⟩
    dsimp only at a4 b4 h ⊢
    have fx4 : AgK kTX μ μ4 := fx3.tr (a4.sub fun a k h => decide_eq_true (by have := of_decide_eq_true h; omega))
    have fm4 : AgK kTM ν ν4 := fm3.tr (b4.sub fun a k h => decide_eq_true (by have := of_decide_eq_true h; omega))
    rcases h with ⟨rfl, rfl, ff⟩ | ⟨p4, x, y, rfl, hp4, hx, hy, hK4, pm4, m18, m15, h⟩
    · rw [if_neg Bool.false_ne_true, if_neg Bool.false_ne_true, RT_some]
      exact ⟨fx4, fm4, .inr ⟨rfl, rfl, ff⟩⟩
    have hc : cellok T (10 * y + x) := cellok_xy hwf hx hy
    have ha : 10 * y + x < 100 := cellok_lt hwf hc
    generalize 10 * y + x = a at m18 h hc ha
    have c1 : ∀ q, q < T 0 2 → T 1 q < 100 := fun q hq => cellok_lt hwf (hwf.2.1 q hq).1
    have h11 : ∀ q, q < T 0 2 → ν4.1 206 (11 + q) = nI (T 1 q) := fun q hq => by
      rw [(b4 206 _ (decide_eq_true (by omega))).1, v3]
      exact (tm1.2.2.2.1 q hq).1
    rw [if_pos (show (true, ν4).1 = true from rfl)]
    rcases h with ⟨ho, rfl, px4, e19⟩ | ⟨ho, rfl, t1, t2⟩
    rotate_left
    · -- another quarter lies there
      rw [if_neg Bool.false_ne_true]
      refine RT_lpr (fun i s => s = (nI (T 0 2), nI i, ν4) ∧ ∀ j, j < i → T 1 j ≠ a) (T 0 2) (by omega) ⟨rfl, fun j h => absurd h (Nat.not_lt_zero j)⟩ ?_ ?_
      · rintro i hi _ ⟨rfl, hno⟩ k hk
        show RT _ (f_X11_readQuarter_80 F 203 k (nI (T 0 2)) (nI i) ν4) _
        unfold f_X11_readQuarter_80
        rw [if_neg (nI_ge hi (by omega)), show (11 : Int32) + nI i = nI (11 + i) from nI_add 11 i, pI_in_t (by omega) (by decide), pg_t, r7.1, nI_clamp (by omega), h11 i hi, m18]
        have := c1 i hi
        by_cases e : T 1 i = a
        · rw [if_pos (by rw [e])]
          unfold f_X11_readQuarter_101
          refine RT_r (bad_m (v := 3) pm4) ?_
          rintro ⟨r5, ν5⟩ ⟨z1, z2, z3, z4⟩
          rw [RT_some]
          exact ⟨fx4, fm4.tr (z2.sub fun a k h => decide_eq_true (by have := of_decide_eq_true h; omega)), .inr ⟨rfl, z1, 3, _, by decide, by decide, tS_le pm4.1, t1, t2, z3, z4⟩⟩
        · rw [if_neg fun h => e ((nI_eq (by omega) (by omega)).1 h), nI_1]
          refine hk _ ⟨rfl, fun j hj => ?_⟩
          by_cases e2 : j = i
          · rw [e2]; exact e
          · exact hno j (by omega)
      · rintro _ ⟨rfl, hno⟩ k
        obtain ⟨q, hq, e⟩ := occ3.1 ho
        exact absurd e (hno q hq)
    have hno : ∀ q, q < T 0 2 → T 1 q ≠ a := fun q hq h => by
      rw [occ3.2 ⟨q, hq, h⟩] at ho
      cases ho
    rw [if_pos rfl]
    refine RT_lpr (fun i s => s = (nI (T 0 2), nI i, ν4)) (T 0 2) (by omega) rfl ?_ ?_
    · rintro i hi _ rfl k hk
      show RT _ (f_X11_readQuarter_80 F 203 k (nI (T 0 2)) (nI i) ν4) _
      unfold f_X11_readQuarter_80
      have := c1 i hi
      rw [if_neg (nI_ge hi (by omega)), show (11 : Int32) + nI i = nI (11 + i) from nI_add 11 i, pI_in_t (by omega) (by decide), pg_t, r7.1, nI_clamp (by omega), h11 i hi, m18, if_neg fun h => hno i hi ((nI_eq (by omega) (by omega)).1 h), nI_1]
      exact hk _ rfl
    rintro _ rfl k
    show RT _ (f_X11_readQuarter_80 F 203 k (nI (T 0 2)) (nI (T 0 2)) ν4) _
    unfold f_X11_readQuarter_80 f_X11_readQuarter_113
    have e43 : μ4.1 53 3 = nI (T 0 2) := by rw [(a4 53 3 (decide_eq_true (by omega))).1, u3 3 (by decide)]; exact tx1.1.2.2.1
    rw [if_pos (nI_le (Nat.le_refl _) (by omega)), e43, e19, m18, pI_in_t c (by decide), pg_t, plet, nI_clamp (by omega), show (11 : Int32) + nI (T 0 2) = nI (11 + T 0 2) from nI_add 11 _, pI_in_t (by omega) (by decide), pg_t, plet, r7.1, nI_clamp (by omega)]
    have a5 : AgK (fun x i => decide (¬ (x = 55 ∧ i = T 0 2))) μ4 (aw_wI μ4 55 (T 0 2) (nI a)) := (AgK.rf μ4).wI (decide_eq_false (by omega))
    have e55 : (aw_wI μ4 55 (T 0 2) (nI a)).1 55 (T 0 2) = nI a := rI_s
    generalize aw_wI μ4 55 (T 0 2) (nI a) = μ5 at a5 e55 ⊢
    have b5 : AgK (fun x i => decide (¬ (x = 206 ∧ i = 11 + T 0 2))) ν4 (aw_wI ν4 206 (11 + T 0 2) (nI a)) := (AgK.rf ν4).wI (decide_eq_false (by omega))
    have m5 : (aw_wI ν4 206 (11 + T 0 2) (nI a)).1 206 (11 + T 0 2) = nI a := rI_s
    generalize aw_wI ν4 206 (11 + T 0 2) (nI a) = ν5 at b5 m5 ⊢
    have px5 : PXk B n lim (tN B n lim p4) μ5 := PXk_ag a5 (fun a k h => decide_eq_true (by omega)) px4
    refine RT_r (pstep_m hF (PMk_ag b5 (fun a k h => decide_eq_true (by omega)) pm4) (by rw [hK4]; decide)) ?_
    rintro ν6 ⟨b6, pm6⟩
    have hp6 := (tN_p pm4.1 (show tK B n lim p4 ≠ 4 ∧ tK B n lim p4 ≠ 5 by rw [hK4]; decide)).1
    generalize tN B n lim p4 = p6 at hp6 px5 pm6
    have e53 : μ5.1 53 3 = nI (T 0 2) := by rw [(a5 53 3 (decide_eq_true (by omega))).1, e43]
    rw [e53]
    refine RT_call (rnum (lo := 0) (hi := 401) (x := 56) (i := T 0 2) (z := 9) hF px5 pm6 rfl (by decide) rfl (by decide) (by decide) (by decide) (by decide) (by decide) c) ?_
    rintro ⟨r1, μ7⟩ ⟨r2, ν7⟩ ⟨a7, b7, h⟩
    dsimp only at a7 b7 h ⊢
    have fx7 : AgK kTX μ μ7 := (fx4.tr (a5.sub fun a k h => decide_eq_true (by have := of_decide_eq_true h; omega))).tr (a7.sub fun a k h => decide_eq_true (by have := of_decide_eq_true h; omega))
    have fm7 : AgK kTM ν ν7 := ((fm4.tr (b5.sub fun a k h => decide_eq_true (by have := of_decide_eq_true h; omega))).tr (b6.sub fun a k h => decide_eq_true (by have := of_decide_eq_true h; omega))).tr (b7.sub fun a k h => decide_eq_true (by have := of_decide_eq_true h; omega))
    rcases h with ⟨rfl, rfl, p7, bx, -, hl, hp7, px7, pm7, e56, g18', x7⟩ | ⟨rfl, rfl, ff⟩
    rotate_left
    · rw [if_neg Bool.false_ne_true, if_neg Bool.false_ne_true, RT_some]
      exact ⟨fx7, fm7, .inr ⟨rfl, rfl, ff⟩⟩
    have e73 : μ7.1 53 3 = nI (T 0 2) := by rw [(a7 53 3 (decide_eq_true (by omega))).1, e53]
    rw [if_pos rfl, if_pos rfl, e73, g18', show (20 : Int32) + nI (T 0 2) = nI (20 + T 0 2) from nI_add 20 _, pI_in_t (by omega) (by decide), pg_t, plet, nI_clamp (by omega)]
    have b8 : AgK (fun x i => decide (¬ (x = 206 ∧ i = 20 + T 0 2))) ν7 (aw_wI ν7 206 (20 + T 0 2) (nI bx)) := (AgK.rf ν7).wI (decide_eq_false (by omega))
    have m8 : (aw_wI ν7 206 (20 + T 0 2) (nI bx)).1 206 (20 + T 0 2) = nI bx := rI_s
    generalize aw_wI ν7 206 (20 + T 0 2) (nI bx) = ν8 at b8 m8 ⊢
    have pm8 : PMk B n lim p7 ν8 := PMk_ag b8 (fun a k h => decide_eq_true (by omega)) pm7
    refine RT_call (rnum (lo := 1) (hi := 10) (x := 57) (i := T 0 2) (z := 9) hF px7 pm8 rfl (by decide) rfl (by decide) (by decide) (by decide) (by decide) (by decide) c) ?_
    rintro ⟨r1, μ9⟩ ⟨r2, ν9⟩ ⟨a9, b9, h⟩
    dsimp only at a9 b9 h ⊢
    have fx9 : AgK kTX μ μ9 := fx7.tr (a9.sub fun a k h => decide_eq_true (by have := of_decide_eq_true h; omega))
    have fm9 : AgK kTM ν ν9 := (fm7.tr (b8.sub fun a k h => decide_eq_true (by have := of_decide_eq_true h; omega))).tr (b9.sub fun a k h => decide_eq_true (by have := of_decide_eq_true h; omega))
    rcases h with ⟨rfl, rfl, p9, am, hm1, hm2, hp9, px9, pm9, e57, g18'', x9⟩ | ⟨rfl, rfl, ff⟩
    rotate_left
    · rw [if_neg Bool.false_ne_true, if_neg Bool.false_ne_true, RT_some]
      exact ⟨fx9, fm9, .inr ⟨rfl, rfl, ff⟩⟩
    have e93 : μ9.1 53 3 = nI (T 0 2) := by rw [(a9 53 3 (decide_eq_true (by omega))).1, e73]
    have e919 : μ9.1 53 19 = nI a := by rw [(a9 53 19 (decide_eq_true (by omega))).1, (a7 53 19 (decide_eq_true (by omega))).1, (a5 53 19 (decide_eq_true (by omega))).1]; exact e19
    have m92 : ν9.1 206 2 = nI (T 0 2) := by
      rw [(b9 206 2 (decide_eq_true (by omega))).1, (b8 206 2 (decide_eq_true (by omega))).1, (b7 206 2 (decide_eq_true (by omega))).1, (b6 206 2 (decide_eq_true (by omega))).1, (b5 206 2 (decide_eq_true (by omega))).1, (b4 206 2 (decide_eq_true (by omega))).1, v3]
      exact tm1.1.2.2.1
    rw [if_pos rfl, if_pos rfl, e919, g18'', show (29 : Int32) + nI (T 0 2) = nI (29 + T 0 2) from nI_add 29 _, pI_in_t (by omega) (by decide), pg_t, plet, nI_clamp (by omega), show aw_in 2 427 = true by decide, pg_t, pg_t, plet, show (2 : Int32).toNatClampNeg = 2 by decide, rI_k (by omega), m92, nI_1]
    refine RT_l (putOn_x (k := 3) ha (by decide)) ?_
    rintro μA ⟨aA, e64, e63⟩
    have eA3 : μA.1 53 3 = nI (T 0 2) := by rw [(aA 53 3 (decide_eq_true (by omega))).1, e93]
    have eA19 : μA.1 53 19 = nI a := by rw [(aA 53 19 (decide_eq_true (by omega))).1, e919]
    rw [eA19, eA3, pI_in_t ha (by decide), pg_t, plet, nI_clamp (by omega), plet, rI_a (by decide), eA3, nI_1, RT_some]
    have aB : AgK (fun x i => decide (¬ (x = 65 ∧ i = a) ∧ ¬ (x = 53 ∧ i = 3))) μA (aw_wI (aw_wI μA 65 a (nI (T 0 2))) 53 3 (nI (T 0 2 + 1))) := ((AgK.rf μA).wI (decide_eq_false (by omega))).wI (decide_eq_false (by omega))
    have eB : (aw_wI (aw_wI μA 65 a (nI (T 0 2))) 53 3 (nI (T 0 2 + 1))).1 53 3 = nI (T 0 2 + 1) := rI_s
    have eB65 : (aw_wI (aw_wI μA 65 a (nI (T 0 2))) 53 3 (nI (T 0 2 + 1))).1 65 a = nI (T 0 2) := by rw [rI_a (by decide), rI_s]
    generalize aw_wI (aw_wI μA 65 a (nI (T 0 2))) 53 3 (nI (T 0 2 + 1)) = μB at aB eB eB65 ⊢
    have bA : AgK (fun x i => decide (¬ (x = 206 ∧ i = 29 + T 0 2) ∧ ¬ (x = 206 ∧ i = 2))) ν9 (aw_wI (aw_wI ν9 206 (29 + T 0 2) (nI am)) 206 2 (nI (T 0 2 + 1))) := ((AgK.rf ν9).wI (decide_eq_false (by omega))).wI (decide_eq_false (by omega))
    have mA : (aw_wI (aw_wI ν9 206 (29 + T 0 2) (nI am)) 206 2 (nI (T 0 2 + 1))).1 206 2 = nI (T 0 2 + 1) := rI_s
    have mB : (aw_wI (aw_wI ν9 206 (29 + T 0 2) (nI am)) 206 2 (nI (T 0 2 + 1))).1 206 (29 + T 0 2) = nI am := by rw [rI_k (by omega), rI_s]
    generalize aw_wI (aw_wI ν9 206 (29 + T 0 2) (nI am)) 206 2 (nI (T 0 2 + 1)) = νA at bA mA mB ⊢
    refine ⟨(fx9.tr (aA.sub fun a k h => decide_eq_true (by have := of_decide_eq_true h; omega))).tr (aB.sub fun a k h => decide_eq_true (by have := of_decide_eq_true h; omega)), fm9.tr (bA.sub fun a k h => decide_eq_true (by have := of_decide_eq_true h; omega)), .inl ⟨rfl, rfl, p9, by omega, PXk_ag aB (fun a k h => decide_eq_true (by omega)) (PXk_ag aA (fun a k h => decide_eq_true (by omega)) px9), PMk_ag bA (fun a k h => decide_eq_true (by omega)) pm9, ?_, qT T a bx am, fun q => if q = T 0 2 then tW B n p1 else W q, ⟨(qT_is T a bx am).2.1.1, (qT_is T a bx am).2.1.2.1⟩, ?_⟩⟩
    · show νA.1 203 15 = ν.1 203 15
      rw [(bA 203 15 (decide_eq_true (by omega))).1, x9, (b8 203 15 (decide_eq_true (by omega))).1, x7, (b6 203 15 (decide_eq_true (by omega))).1, (b5 203 15 (decide_eq_true (by omega))).1, m15]
      exact y3
    · show DT _ _ μB νA
      obtain ⟨k0, k00, k5⟩ := qT_is T a bx am
      generalize qT T a bx am = T' at k0 k00 k5 ⊢
      have gx : ∀ x i, ¬ (x = 1) → ¬ (54 ≤ x ∧ x ≤ 57 ∧ i = T 0 2) → ¬ (x = 53 ∧ (i = 3 ∨ i = 19)) → ¬ (x = 63 ∧ i = 3) → ¬ (64 ≤ x ∧ x ≤ 65 ∧ i = a) → μB.1 x i = μ1.1 x i ∧ μB.2 x i = μ1.2 x i := fun x i h1 h2 h3 h4 h5 => by
        have z2 := a2 x i (decide_eq_true (by omega))
        have z3 := a3 x i (decide_eq_true (by omega))
        have z4 := a4 x i (decide_eq_true (by omega))
        have z5 := a5 x i (decide_eq_true (by omega))
        have z7 := a7 x i (decide_eq_true (by omega))
        have z9 := a9 x i (decide_eq_true (by omega))
        have zA := aA x i (decide_eq_true (by omega))
        have zB := aB x i (decide_eq_true (by omega))
        exact ⟨by rw [zB.1, zA.1, z9.1, z7.1, z5.1, z4.1, z3.1, z2.1], by rw [zB.2, zA.2, z9.2, z7.2, z5.2, z4.2, z3.2, z2.2]⟩
      have gm : ∀ x i, ¬ (x = 203 ∧ i ≤ 18) → ¬ (x = 206 ∧ (i = 11 + T 0 2 ∨ i = 20 + T 0 2 ∨ i = 29 + T 0 2 ∨ i = 2)) → ¬ (x = 208 ∧ i = 9 + T 0 2) → νA.1 x i = ν1.1 x i ∧ νA.2 x i = ν1.2 x i := fun x i h1 h2 h3 => by
        have z2 := b2 x i (decide_eq_true (by omega))
        have z3 := b3 x i (decide_eq_true (by omega))
        have z4 := b4 x i (decide_eq_true (by omega))
        have z5 := b5 x i (decide_eq_true (by omega))
        have z6 := b6 x i (decide_eq_true (by omega))
        have z7 := b7 x i (decide_eq_true (by omega))
        have z8 := b8 x i (decide_eq_true (by omega))
        have z9 := b9 x i (decide_eq_true (by omega))
        have zA := bA x i (decide_eq_true (by omega))
        exact ⟨by rw [zA.1, z9.1, z8.1, z7.1, z6.1, z5.1, z4.1, z3.1, z2.1], by rw [zA.2, z9.2, z8.2, z7.2, z6.2, z5.2, z4.2, z3.2, z2.2]⟩
      have q54 : μB.2 54 (T 0 2) = e27 (tW B n p1) := by rw [(aB 54 _ (decide_eq_true (by omega))).2, (aA 54 _ (decide_eq_true (by omega))).2, (a9 54 _ (decide_eq_true (by omega))).2, (a7 54 _ (decide_eq_true (by omega))).2, (a5 54 _ (decide_eq_true (by omega))).2, (a4 54 _ (decide_eq_true (by omega))).2, (a3 54 _ (decide_eq_true (by omega))).2]; exact e54
      have q55 : μB.1 55 (T 0 2) = nI a := by rw [(aB 55 _ (decide_eq_true (by omega))).1, (aA 55 _ (decide_eq_true (by omega))).1, (a9 55 _ (decide_eq_true (by omega))).1, (a7 55 _ (decide_eq_true (by omega))).1]; exact e55
      have q56 : μB.1 56 (T 0 2) = nI bx := by rw [(aB 56 _ (decide_eq_true (by omega))).1, (aA 56 _ (decide_eq_true (by omega))).1, (a9 56 _ (decide_eq_true (by omega))).1]; exact e56
      have q57 : μB.1 57 (T 0 2) = nI am := by rw [(aB 57 _ (decide_eq_true (by omega))).1, (aA 57 _ (decide_eq_true (by omega))).1]; exact e57
      have s208 : νA.2 208 (9 + T 0 2) = e8 (tW B n p1) := by rw [(bA 208 _ (decide_eq_true (by omega))).2, (b9 208 _ (decide_eq_true (by omega))).2, (b8 208 _ (decide_eq_true (by omega))).2, (b7 208 _ (decide_eq_true (by omega))).2, (b6 208 _ (decide_eq_true (by omega))).2, (b5 208 _ (decide_eq_true (by omega))).2, (b4 208 _ (decide_eq_true (by omega))).2, (b3 208 _ (decide_eq_true (by omega))).2]; exact m208
      have s11 : νA.1 206 (11 + T 0 2) = nI a := by rw [(bA 206 _ (decide_eq_true (by omega))).1, (b9 206 _ (decide_eq_true (by omega))).1, (b8 206 _ (decide_eq_true (by omega))).1, (b7 206 _ (decide_eq_true (by omega))).1, (b6 206 _ (decide_eq_true (by omega))).1]; exact m5
      have s20' : νA.1 206 (20 + T 0 2) = nI bx := by rw [(bA 206 _ (decide_eq_true (by omega))).1, (b9 206 _ (decide_eq_true (by omega))).1]; exact m8
      have q64 : μB.1 64 a = nI (things T a + 8) := by
        rw [(aB 64 _ (decide_eq_true (by omega))).1, e64, (a9 64 _ (decide_eq_true (by omega))).1, (a7 64 _ (decide_eq_true (by omega))).1, (a5 64 _ (decide_eq_true (by omega))).1, (a4 64 _ (decide_eq_true (by omega))).1, (a3 64 _ (decide_eq_true (by omega))).1, (a2 64 _ (decide_eq_true (by omega))).1, show μ1.1 64 a = nI (things T a) from (tx1.2.2.2.2.2.1 a ha).1]
        exact (bit16 _ (things_lt hwf a).2.2.2.2 3 (by decide)).2 ((things_bit hwf (by decide) a).2 ho)
      clear a1 a2 a3 a4 a5 a7 a9 aA aB b1 b2 b3 b4 b5 b6 b7 b8 b9 bA fx1 fx3 fx4 fx7 fx9 fm1 fm3 fm4 fm7 fm9 px px3 px4 px5 px7 px9 pm pm1 pm3 pm4 pm6 pm7 pm8 pm9 bad
      have hown : ∀ z, own T' z (T' 0 2) = if z = a then some (T 0 2) else own T z (T 0 2) := fun z => by
        rw [k00.2.2.1]
        show (if T' 1 (T 0 2) = z then some (T 0 2) else own T' z (T 0 2)) = _
        rw [(k5 (T 0 2)).1, if_pos rfl]
        by_cases e : z = a
        · rw [if_pos e.symm, if_pos e]
        · rw [if_neg fun h => e h.symm, if_neg e]
          exact own_ext _ fun q hq => by rw [(k5 q).1, if_neg (by omega)]
      have hnone : (own T a (T 0 2)).isSome = false := by
        unfold occT at ho
        rw [if_neg (by decide)] at ho
        exact ho
      obtain ⟨x1, x2, x3, x4, x5, x6, x7⟩ := tx1
      obtain ⟨y1, y2, y3, y4, y5, y6, y7⟩ := tm1
      have n20 := hwf.1.2.2.2
      refine ⟨quarter_wf hwf c hc ho (by omega) ⟨hm1, by omega⟩ k0 k00 k5, ⟨?_, fun q hq => ?_, fun q hq => ?_, fun q hq => ?_, fun i hi => ?_, fun z hz => ?_, fun i hi => ?_⟩, ⟨?_, fun i hi => ?_, fun i hi => ?_, fun q hq => ?_, fun q hq => ?_, fun q hq => ?_, fun z hz => ?_⟩, ⟨fun q hq => ?_, fun q r h3 h4 h5 => ?_, fun q hq i hi => ?_⟩, ?_, ?_⟩
      · rw [k00.1, k00.2.1, k00.2.2.1, k00.2.2.2, eB, (gx 53 1 (by omega) (by omega) (by omega) (by omega) (by omega)).1, (gx 53 2 (by omega) (by omega) (by omega) (by omega) (by omega)).1, (gx 53 4 (by omega) (by omega) (by omega) (by omega) (by omega)).1]; exact ⟨x1.1, x1.2.1, rfl, x1.2.2.2⟩
      · rw [k00.2.2.1] at hq
        obtain ⟨j5, j6, j7⟩ := k5 q
        rw [j5, j6, j7]
        by_cases e : q = T 0 2
        · rw [e, if_pos rfl, if_pos rfl, if_pos rfl]
          exact ⟨q55, q56, q57⟩
        · rw [if_neg e, if_neg e, if_neg e, (gx _ _ (by omega) (by omega) (by omega) (by omega) (by omega)).1, (gx _ _ (by omega) (by omega) (by omega) (by omega) (by omega)).1, (gx _ _ (by omega) (by omega) (by omega) (by omega) (by omega)).1]
          exact x2 q (by omega)
      · rw [k0 4 q (by omega) (by omega), (gx _ _ (by omega) (by omega) (by omega) (by omega) (by omega)).1]; exact x3 q hq
      · rw [k00.2.2.2] at hq
        rw [k0 5 q (by omega) (by omega), k0 6 q (by omega) (by omega), k0 7 q (by omega) (by omega), k0 8 q (by omega) (by omega), (gx _ _ (by omega) (by omega) (by omega) (by omega) (by omega)).1, (gx _ _ (by omega) (by omega) (by omega) (by omega) (by omega)).1, (gx _ _ (by omega) (by omega) (by omega) (by omega) (by omega)).1, (gx _ _ (by omega) (by omega) (by omega) (by omega) (by omega)).1]
        exact x4 q hq
      · rw [k0 13 i (by omega) (by omega), (gx _ _ (by omega) (by omega) (by omega) (by omega) (by omega)).1]; exact x5 i hi
      · unfold things
        rw [hown, k0 9 z (by omega) (by omega), k0 10 z (by omega) (by omega), k0 11 z (by omega) (by omega)]
        by_cases e : z = a
        · rw [if_pos e, e]
          refine ⟨?_, eB65⟩
          show μB.1 64 a = nI (T 9 a + 2 * T 10 a + 4 * T 11 a + 8 * 1)
          rw [q64]
          unfold things
          rw [hnone]
          rfl
        · rw [if_neg e, (gx _ _ (by omega) (by omega) (by omega) (by omega) (by omega)).1, (gx _ _ (by omega) (by omega) (by omega) (by omega) (by omega)).1]; exact x6 z hz
      · rw [k0 12 i (by omega) (by omega), (gx _ _ (by omega) (by omega) (by omega) (by omega) (by omega)).1]; exact x7 i hi
      · rw [k00.1, k00.2.1, k00.2.2.1, k00.2.2.2, mA, (gm _ _ (by omega) (by omega) (by omega)).1, (gm _ _ (by omega) (by omega) (by omega)).1, (gm _ _ (by omega) (by omega) (by omega)).1]; exact ⟨y1.1, y1.2.1, rfl, y1.2.2.2⟩
      · rw [k0 13 i (by omega) (by omega), (gm _ _ (by omega) (by omega) (by omega)).1]; exact y2 i hi
      · rw [k0 12 i (by omega) (by omega), (gm _ _ (by omega) (by omega) (by omega)).1]; exact y3 i hi
      · rw [k00.2.2.1] at hq
        obtain ⟨j5, j6, j7⟩ := k5 q
        rw [j5, j6, j7]
        by_cases e : q = T 0 2
        · rw [e, if_pos rfl, if_pos rfl, if_pos rfl]
          exact ⟨s11, s20', mB⟩
        · rw [if_neg e, if_neg e, if_neg e, (gm _ _ (by omega) (by omega) (by omega)).1, (gm _ _ (by omega) (by omega) (by omega)).1, (gm _ _ (by omega) (by omega) (by omega)).1]
          exact y4 q (by omega)
      · rw [k0 4 q (by omega) (by omega), (gm _ _ (by omega) (by omega) (by omega)).1]; exact y5 q hq
      · rw [k00.2.2.2] at hq
        rw [k0 5 q (by omega) (by omega), k0 6 q (by omega) (by omega), k0 7 q (by omega) (by omega), k0 8 q (by omega) (by omega), (gm _ _ (by omega) (by omega) (by omega)).1, (gm _ _ (by omega) (by omega) (by omega)).1, (gm _ _ (by omega) (by omega) (by omega)).1, (gm _ _ (by omega) (by omega) (by omega)).1]
        exact y6 q hq
      · rw [k0 9 z (by omega) (by omega), k0 10 z (by omega) (by omega), k0 11 z (by omega) (by omega), (gm _ _ (by omega) (by omega) (by omega)).1, (gm _ _ (by omega) (by omega) (by omega)).1, (gm _ _ (by omega) (by omega) (by omega)).1]; exact y7 z hz
      · rw [k00.2.2.1] at hq
        dsimp only
        by_cases e : q = T 0 2
        · rw [if_pos e, e]
          exact ⟨hw, q54, s208⟩
        · rw [if_neg e]
          obtain ⟨j1, j2, j3⟩ := w1 q (by omega)
          exact ⟨j1, by rw [(gx _ _ (by omega) (by omega) (by omega) (by omega) (by omega)).2]; exact j2, by rw [(gm _ _ (by omega) (by omega) (by omega)).2]; exact j3⟩
      · rw [k00.2.2.1] at h3 h4
        dsimp only at h5
        by_cases e : q = T 0 2
        · by_cases e2 : r = T 0 2
          · omega
          · rw [if_pos e, if_neg e2] at h5
            exact absurd h5.symm (h1 r (by omega))
        · by_cases e2 : r = T 0 2
          · rw [if_neg e, if_pos e2] at h5
            exact absurd h5 (h1 q (by omega))
          · rw [if_neg e, if_neg e2] at h5
            exact w2 q r (by omega) (by omega) h5
      · rw [k00.2.2.1] at hq
        dsimp only
        by_cases e : q = T 0 2
        · rw [if_pos e]
          intro h
          have := (ix_is hi).2 h
          omega
        · rw [if_neg e]
          exact w3 q (by omega) i hi
      · rw [k00.1, (gm _ _ (by omega) (by omega) (by omega)).1]; exact s20
      · obtain ⟨lw, l1, l2, l3⟩ := hlw
        exact ⟨lw, l1, by rw [(gx _ _ (by omega) (by omega) (by omega) (by omega) (by omega)).1]; exact l2, by rw [(gm _ _ (by omega) (by omega) (by omega)).1]; exact l3⟩
  · rw [if_neg (show ¬ nI (T 0 2) < 9 from (show ¬ nI (T 0 2) < nI 9 from nI_nlt (by omega) (by omega))), if_pos (show nI (T 0 2) = 9 from by rw [show T 0 2 = 9 by omega]; rfl)]
    refine RT_call (rfail (v := 4) (by decide) px pm) ?_
    rintro ⟨r1, μ'⟩ ⟨r2, ν'⟩ ⟨a1, a2, a3, a4, a5⟩
    rw [RT_some]
    exact ⟨a1.sub fun a k h => decide_eq_true (by have := of_decide_eq_true h; omega), a2.sub fun a k h => decide_eq_true (by have := of_decide_eq_true h; omega), .inr ⟨a3, a4, a5⟩⟩
