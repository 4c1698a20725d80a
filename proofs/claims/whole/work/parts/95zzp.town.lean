/-! the town's text: caps, drains, judges -/
def DT (T : Nat → Nat → Nat) (W : Nat → List Nat) (μ ν : aw_M) : Prop := qTWF T ∧ qTX T μ 53 ∧ qTM T (ν.1 206) ∧ ((∀ q, q < T 0 2 → wordok (W q) ∧ μ.2 54 q = e27 (W q) ∧ ν.2 208 (9 + q) = e8 (W q)) ∧ (∀ q r, q < T 0 2 → r < T 0 2 → W q = W r → q = r) ∧ ∀ q, q < T 0 2 → ∀ i, i < 20 → W q ≠ kw i) ∧ ν.1 203 20 = nI (bN (decide (0 < T 0 0))) ∧ ∃ lw, lw ≤ 1 ∧ μ.1 53 18 = nI lw ∧ ν.1 203 21 = nI lw
def kTX (a k : Nat) : Bool := decide (¬ (a = 1 ∧ 4 ≤ k ∧ k ≤ 12) ∧ ¬ (53 ≤ a ∧ a ≤ 66 ∧ ¬ (a = 53 ∧ k = 0)))
def kTM (a k : Nat) : Bool := decide (¬ (a = 203 ∧ (k = 4 ∨ (11 ≤ k ∧ k ≤ 18) ∨ k = 20 ∨ k = 21)) ∧ a ≠ 206 ∧ ¬ (a = 208 ∧ 9 ≤ k))
theorem DT_ag {T : Nat → Nat → Nat} {W : Nat → List Nat} {μ μ' ν ν' : aw_M} {K K' : Nat → Nat → Bool} (ag : AgK K μ μ') (hK : ∀ a k, (a = 53 ∧ k ≠ 0 ∧ k ≠ 19) ∨ (54 ≤ a ∧ a ≤ 66) → K a k = true) (ag' : AgK K' ν ν') (hK' : ∀ a k, a = 206 ∨ (a = 208 ∧ 9 ≤ k) ∨ (a = 203 ∧ (k = 20 ∨ k = 21)) → K' a k = true) (h : DT T W μ ν) : DT T W μ' ν' := by
  obtain ⟨hwf, tx, tm, ⟨w1, w2, w3⟩, s20, lw, l1, l2, l3⟩ := h
  have fa : ∀ a, 54 ≤ a → a ≤ 66 → μ'.1 a = μ.1 a := fun a h1 h2 => ag.a fun k => hK a k (by omega)
  have ff : ∀ k, k ≠ 0 → k ≠ 19 → μ'.1 53 k = μ.1 53 k := fun k h1 h2 => (ag 53 k (hK 53 k (by omega))).1
  have hh : ν'.1 206 = ν.1 206 := ag'.a fun k => hK' 206 k (by omega)
  refine ⟨hwf, ?_, by rw [hh]; exact tm, ⟨fun q hq => ?_, w2, w3⟩, ?_, lw, l1, ?_, ?_⟩
  · unfold qTX at tx ⊢
    simp (disch := omega) only [fa, ff]
    exact tx
  · obtain ⟨h1, h2, h3⟩ := w1 q hq
    refine ⟨h1, ?_, ?_⟩
    · rw [(ag 54 q (hK 54 q (by omega))).2]; exact h2
    · rw [(ag' 208 (9 + q) (hK' _ _ (by omega))).2]; exact h3
  · rw [(ag' 203 20 (hK' _ _ (by omega))).1]; exact s20
  · rw [ff 18 (by decide) (by decide)]; exact l2
  · rw [(ag' 203 21 (hK' _ _ (by omega))).1]; exact l3
theorem cellok_lt {T : Nat → Nat → Nat} {a : Nat} (hwf : qTWF T) (h : cellok T a) : a < 100 := by
  have := hwf.1
  unfold cellok at h
  omega
theorem cellok_xy {T : Nat → Nat → Nat} {x y : Nat} (hwf : qTWF T) (hx : x < T 0 0) (hy : y < T 0 1) : cellok T (10 * y + x) := by
  have := hwf.1
  unfold cellok
  omega
/-- the reference's town read so far, by places -/
theorem qTM_ch {T T' : Nat → Nat → Nat} {S S' : Nat → Int32} (h0 : T' 0 0 = T 0 0 ∧ T' 0 1 = T 0 1) : True := trivial
theorem putOn_x {F a k : Nat} {μ : aw_M} (ha : a < 100) (hk : k < 4) : T (f_X8_putOn F 53 (nI k) (nI a) μ) fun μ' => AgK (fun x i => decide (¬ (x = 64 ∧ i = a) ∧ ¬ (x = 63 ∧ i = k))) μ μ' ∧ μ'.1 64 a = μ.1 64 a ||| (1 <<< (nI k &&& 31)) ∧ μ'.1 63 k = μ.1 63 k + 1 := by
  have r : aw_rf 53 15 = 64 ∧ aw_rf 53 14 = 63 := by simp only [rf0, rf1, rf4, rf5, rf19, rf23, rf28, rf39, rf53, rf67, rf71, rf76, rf88, rf97, rf101, rf109, rf110, rf124, rf128, rf133, rf144, rf156, rf157, rf171, rf175, rf180, rf191, rf51, and_self]
  unfold f_X8_putOn
  rw [pI_in_t ha (by decide), pg_t, pg_t, plet, pI_in_t hk (by decide), pg_t, pg_t, plet, r.1, r.2, nI_clamp (by omega), nI_clamp (by omega), T_some, rI_a (a := 64) (b := 63) (by decide)]
  refine ⟨((AgK.rf μ).wI (decide_eq_false (by omega))).wI (decide_eq_false (by omega)), ?_, rI_s⟩
  rw [rI_a (by decide), rI_s]
theorem thing_wf {T T' : Nat → Nat → Nat} {k a : Nat} (hk : k < 3) (hwf : qTWF T) (hc : cellok T a) (h0 : T (9 + k) a = 0) (h12 : T 13 k < 12) (e0 : ∀ f i, f ≠ 9 + k → f ≠ 13 → T' f i = T f i) (eS : ∀ i, T' (9 + k) i = if i = a then 1 else T (9 + k) i) (e13 : ∀ i, T' 13 i = if i = k then T 13 k + 1 else T 13 i) : qTWF T' := by
  obtain ⟨g1, g2, g3, g4, g5, g6, g7⟩ := hwf
  refine ⟨?_, ?_, ?_, ?_, fun f h1 h2 => ?_, ?_, ?_⟩
  · simp (disch := omega) only [e0]; exact g1
  · simp (disch := omega) only [cellok, e0]; exact g2
  · simp (disch := omega) only [e0]; exact g3
  · simp (disch := omega) only [cellok, e0]; exact g4
  · obtain ⟨j1, j2, j3⟩ := g5 f h1 h2
    have ec : ∀ x, cellok T' x ↔ cellok T x := fun x => by
      unfold cellok
      rw [e0 0 0 (by omega) (by omega), e0 0 1 (by omega) (by omega)]
    by_cases e : f = 9 + k
    · subst e
      have hcnt : cnt (T' (9 + k)) 100 = cnt (T (9 + k)) 100 + 1 := by
        have := cnt_chg (f := T (9 + k)) (f' := T' (9 + k)) (i := a) (fun j hj => by rw [eS, if_neg hj]) 100 (by have := g1; unfold cellok at hc; omega)
        rw [h0, eS, if_pos rfl] at this
        omega
      rw [show 9 + k - 9 = k by omega] at j3 ⊢
      refine ⟨fun x => ?_, by omega, ?_⟩
      · rw [eS, ec]
        by_cases e : x = a
        · rw [if_pos e, e]; exact ⟨Nat.le_refl _, fun _ => hc⟩
        · rw [if_neg e]; exact j1 x
      · rw [e13, if_pos rfl, hcnt, j3]
    · have hf : T' f = T f := funext fun i => e0 f i e (by omega)
      rw [hf, e13, if_neg (by omega)]
      exact ⟨fun x => by rw [ec]; exact j1 x, j2, j3⟩
  · simp (disch := omega) only [e0]; exact g6
  · simp (disch := omega) only [e0]; exact g7
def D0 (T : Nat → Nat → Nat) (μ ν : aw_M) : Prop := ∃ T' W', (T' 0 0 = T 0 0 ∧ T' 0 1 = T 0 1) ∧ DT T' W' μ ν
theorem thing_t {F n lim p k : Nat} {B : Nat → Nat} {T : Nat → Nat → Nat} {W : Nat → List Nat} {μ ν : aw_M} {c1 c2 c3 : Int32} (hF : 2000 ≤ F) (px : PXk B n lim p μ) (pm : PMk B n lim p ν) (hK : tK B n lim p = 1) (hk : k < 3) (ec1 : c1 = nI k) (ec2 : c2 = nI (127 + 100 * k)) (ec3 : c3 = nI (4 + k)) (dt : DT T W μ ν) : RT (f_X8_readThing F 53 1 c1 μ) (f_X11_readOn F 203 c2 c3 ν) (After B n lim 1 p kTX kTM (D0 T) μ ν) := by
  subst ec1 ec2 ec3
  have r7 : aw_rf 203 7 = 206 := by simp only [rf203, rf203b]
  have r : aw_rf 53 15 = 64 ∧ aw_rf 53 14 = 63 := by simp only [rf0, rf1, rf4, rf5, rf19, rf23, rf28, rf39, rf53, rf67, rf71, rf76, rf88, rf97, rf101, rf109, rf110, rf124, rf128, rf133, rf144, rf156, rf157, rf171, rf175, rf180, rf191, rf51, and_self]
  obtain ⟨hwf, tx, tm, hW, s20, hlw⟩ := id dt
  have h5 := hwf.2.2.2.2.1 (9 + k) (by omega) (by omega)
  have h12 : T 13 k ≤ 12 := by
    have := h5.2.2
    rw [show 9 + k - 9 = k by omega] at this
    omega
  unfold f_X8_readThing f_X11_readOn
  rw [pI_in_t (by omega) (by decide), pg_t, pI_in_t (by omega) (by decide), pg_t, r.2, r7, nI_clamp (by omega), nI_clamp (by omega), show μ.1 63 k = nI (T 13 k) from tx.2.2.2.2.1 k hk, show ν.1 206 (4 + k) = nI (T 13 k) from tm.2.1 k hk]
  by_cases c : T 13 k < 12
  · rw [if_pos (show nI (T 13 k) < 12 from (show nI (T 13 k) < nI 12 from nI_lt c (by decide))), if_neg (show ¬ nI (T 13 k) = 12 from fun h => by have := (nI_eq (b := 12) (by omega) (by decide)).1 h; omega)]
    refine RT_call (rstep hF px pm (by rw [hK]; decide)) ?_
    rintro μ1 ν1 ⟨a1, b1, hp1, px1, pm1⟩
    generalize tN B n lim p = p1 at hp1 px1 pm1
    have dt1 : DT T W μ1 ν1 := DT_ag a1 (fun a k h => decide_eq_true (by omega)) b1 (fun a k h => decide_eq_true (by omega)) dt
    obtain ⟨-, tx1, tm1, -⟩ := id dt1
    refine RT_call (cell_t (w := T 0 0) (h := T 0 1) (occ := occT T k) hF px1 pm1 hwf.1.1 hwf.1.2.1 tx1.1.1 tx1.1.2.1 tm1.1.1 tm1.1.2.1 (.inr ⟨?_, fun a μ' ha he => hasOn4 hwf r.1 tx1 he ha (by omega)⟩)) ?_
    · intro h
      have h1 := nI_pos' (n := k) (by omega)
      rw [h] at h1
      exact absurd h1 (by decide)
    rintro ⟨r1, μ2⟩ ⟨r2, ν2⟩ ⟨a2, b2, h⟩
    dsimp only at a2 b2 h ⊢
    have fx2 : AgK kTX μ μ2 := (a1.sub fun a k h => decide_eq_true (by have := of_decide_eq_true h; omega)).tr (a2.sub fun a k h => decide_eq_true (by have := of_decide_eq_true h; omega))
    have fm2 : AgK kTM ν ν2 := (b1.sub fun a k h => decide_eq_true (by have := of_decide_eq_true h; omega)).tr (b2.sub fun a k h => decide_eq_true (by have := of_decide_eq_true h; omega))
    rcases h with ⟨rfl, rfl, ff⟩ | ⟨p2, x, y, rfl, hp2, hx, hy, hK2, pm2, m18, m15, h⟩
    · rw [if_neg Bool.false_ne_true, if_neg Bool.false_ne_true, RT_some]
      exact ⟨fx2, fm2, .inr ⟨rfl, rfl, ff⟩⟩
    · have hc : cellok T (10 * y + x) := cellok_xy hwf hx hy
      have ha : 10 * y + x < 100 := cellok_lt hwf hc
      generalize 10 * y + x = a at m18 h hc ha
      have dt2 : DT T W μ2 ν2 := DT_ag a2 (fun a k h => decide_eq_true (by omega)) b2 (fun a k h => decide_eq_true (by omega)) dt1
      obtain ⟨-, tx2, tm2, hW2, s202, hlw2⟩ := id dt2
      have ei : nI (127 + 100 * k) + nI a = nI (127 + 100 * k + a) := nI_add _ _
      have hf7 := tm2.2.2.2.2.2.2 a ha
      have eo : ν2.1 206 (127 + 100 * k + a) = nI (T (9 + k) a) := by
        have hk3 : k = 0 ∨ k = 1 ∨ k = 2 := by omega
        rcases hk3 with rfl | rfl | rfl
        · exact hf7.1
        · exact hf7.2.1
        · exact hf7.2.2
      have hl1 := (h5.1 a).1
      rw [if_pos rfl, m18, ei, pI_in_t (by omega) (by decide), pg_t, nI_clamp (by omega), eo]
      rcases h with ⟨ho, rfl, px2, e19⟩ | ⟨ho, rfl, t1, t2⟩
      · have h0 : T (9 + k) a = 0 := by
          unfold occT at ho
          rw [if_pos hk, decide_eq_false_iff_not] at ho
          omega
        rw [if_pos rfl, h0, if_neg (show ¬ nI 0 = 1 by decide), e19, pg_t, plet, pg_t, pg_t, plet]
        refine RT_l (putOn_x ha (by omega)) ?_
        rintro μ3 ⟨a3, e64, e63⟩
        have e64' : μ3.1 64 a = nI (things T a + 2 ^ k) := by
          have h6 := bit16 _ (things_lt hwf a).2.2.2.2 k (by omega)
          rw [e64, show μ2.1 64 a = nI (things T a) from (tx2.2.2.2.2.2.1 a ha).1]
          exact h6.2 ((things_bit hwf (by omega) a).2 (by unfold occT; rw [if_pos hk, decide_eq_false_iff_not]; omega))
        have e63' : μ3.1 63 k = nI (T 13 k + 1) := by
          rw [e63, show μ2.1 63 k = nI (T 13 k) from tx2.2.2.2.2.1 k hk, nI_1]
        have m13 : (aw_wI ν2 206 (127 + 100 * k + a) 1).1 206 (4 + k) + 1 = nI (T 13 k + 1) := by
          rw [rI_k (by omega), show ν2.1 206 (4 + k) = nI (T 13 k) from tm2.2.1 k hk, nI_1]
        rw [m13]
        have a4 : AgK (fun x i => decide (¬ (x = 206 ∧ i = 127 + 100 * k + a) ∧ ¬ (x = 206 ∧ i = 4 + k))) ν2 (aw_wI (aw_wI ν2 206 (127 + 100 * k + a) 1) 206 (4 + k) (nI (T 13 k + 1))) := ((AgK.rf ν2).wI (decide_eq_false (by omega))).wI (decide_eq_false (by omega))
        have m4 : (aw_wI (aw_wI ν2 206 (127 + 100 * k + a) 1) 206 (4 + k) (nI (T 13 k + 1))).1 206 (4 + k) = nI (T 13 k + 1) := rI_s
        have m5 : (aw_wI (aw_wI ν2 206 (127 + 100 * k + a) 1) 206 (4 + k) (nI (T 13 k + 1))).1 206 (127 + 100 * k + a) = nI 1 := by rw [rI_k (by omega), rI_s]; rfl
        generalize aw_wI (aw_wI ν2 206 (127 + 100 * k + a) 1) 206 (4 + k) (nI (T 13 k + 1)) = ν4 at a4 m4 m5 ⊢
        have pm4 : PMk B n lim p2 ν4 := PMk_ag a4 (fun a k h => decide_eq_true (by omega)) pm2
        refine RT_r (pstep_m hF pm4 (by rw [hK2]; decide)) ?_
        rintro ν5 ⟨b5, pm5⟩
        rw [RT_some]
        have hp5 := (tN_p pm2.1 (show tK B n lim p2 ≠ 4 ∧ tK B n lim p2 ≠ 5 by rw [hK2]; decide)).1
        refine ⟨fx2.tr (a3.sub fun a k h => decide_eq_true (by have := of_decide_eq_true h; omega)), (fm2.tr (a4.sub fun a k h => decide_eq_true (by have := of_decide_eq_true h; omega))).tr (b5.sub fun a k h => decide_eq_true (by have := of_decide_eq_true h; omega)), .inl ⟨rfl, rfl, _, by omega, PXk_ag a3 (fun a k h => decide_eq_true (by omega)) px2, pm5, ?_, tu (tu T (9 + k) a 1) 13 k (T 13 k + 1), W, ⟨by rw [tu_f (by decide), tu_f (by omega)], by rw [tu_f (by decide), tu_f (by omega)]⟩, ?_⟩⟩
        · show ν5.1 203 15 = ν.1 203 15
          rw [(b5 203 15 (decide_eq_true (by omega))).1, (a4 203 15 (decide_eq_true (by omega))).1, m15, (b1 203 15 (decide_eq_true (by omega))).1]
        · show DT _ W μ3 ν5
          have e0 : ∀ f i, f ≠ 9 + k → f ≠ 13 → tu (tu T (9 + k) a 1) 13 k (T 13 k + 1) f i = T f i := fun f i h1 h2 => by rw [tu_f h2, tu_f h1]
          have eS : ∀ i, tu (tu T (9 + k) a 1) 13 k (T 13 k + 1) (9 + k) i = if i = a then 1 else T (9 + k) i := fun i => by
            rw [tu_f (by omega)]
            by_cases e : i = a
            · rw [e, tu_s, if_pos rfl]
            · rw [tu_i e, if_neg e]
          have e13 : ∀ i, tu (tu T (9 + k) a 1) 13 k (T 13 k + 1) 13 i = if i = k then T 13 k + 1 else T 13 i := fun i => by
            by_cases e : i = k
            · rw [e, tu_s, if_pos rfl]
            · rw [tu_i e, if_neg e, tu_f (by omega)]
          generalize tu (tu T (9 + k) a 1) 13 k (T 13 k + 1) = T' at e0 eS e13 ⊢
          have fm5 : ∀ i, ν5.1 206 i = ν4.1 206 i := fun i => (b5 206 i (decide_eq_true (by omega))).1
          have fx3 : ∀ x i, ¬ (x = 64 ∧ i = a) ∧ ¬ (x = 63 ∧ i = k) → μ3.1 x i = μ2.1 x i := fun x i h => (a3 x i (decide_eq_true h)).1
          have fm4 : ∀ i, i ≠ 127 + 100 * k + a → i ≠ 4 + k → ν5.1 206 i = ν2.1 206 i := fun i h1 h2 => by rw [fm5, (a4 206 i (decide_eq_true (by omega))).1]
          have hown : ∀ x, own T' x (T' 0 2) = own T x (T 0 2) := fun x => by
            rw [e0 0 2 (by omega) (by omega)]
            exact own_ext _ fun q _ => e0 1 q (by omega) (by omega)
          obtain ⟨x1, x2, x3, x4, x5, x6, x7⟩ := tx2
          obtain ⟨y1, y2, y3, y4, y5, y6, y7⟩ := tm2
          have n9 := hwf.1.2.2.1
          have n20 := hwf.1.2.2.2
          refine ⟨thing_wf hk hwf hc h0 c e0 eS e13, ⟨?_, fun q hq => ?_, fun q hq => ?_, fun q hq => ?_, fun i hi => ?_, fun x hx => ⟨?_, ?_⟩, fun i hi => ?_⟩, ⟨?_, fun i hi => ?_, fun i hi => ?_, fun q hq => ?_, fun q hq => ?_, fun q hq => ?_, fun x hx => ?_⟩, ?_, ?_, ?_⟩
          · rw [e0 0 0 (by omega) (by omega), e0 0 1 (by omega) (by omega), e0 0 2 (by omega) (by omega), e0 0 3 (by omega) (by omega), fx3 _ _ (by omega), fx3 _ _ (by omega), fx3 _ _ (by omega), fx3 _ _ (by omega)]; exact x1
          · rw [e0 0 2 (by omega) (by omega)] at hq
            rw [e0 1 q (by omega) (by omega), e0 2 q (by omega) (by omega), e0 3 q (by omega) (by omega), fx3 _ _ (by omega), fx3 _ _ (by omega), fx3 _ _ (by omega)]; exact x2 q hq
          · rw [e0 4 q (by omega) (by omega), fx3 _ _ (by omega)]; exact x3 q hq
          · rw [e0 0 3 (by omega) (by omega)] at hq
            rw [e0 5 q (by omega) (by omega), e0 6 q (by omega) (by omega), e0 7 q (by omega) (by omega), e0 8 q (by omega) (by omega), fx3 _ _ (by omega), fx3 _ _ (by omega), fx3 _ _ (by omega), fx3 _ _ (by omega)]; exact x4 q hq
          · rw [e13]
            by_cases e : i = k
            · rw [if_pos e, e]; exact e63'
            · rw [if_neg e, fx3 _ _ (by omega)]; exact x5 i hi
          · have et : things T' x = if x = a then things T a + 2 ^ k else things T x := by
              unfold things
              rw [hown]
              have hk3 : k = 0 ∨ k = 1 ∨ k = 2 := by omega
              by_cases e : x = a
              · rw [if_pos e, e]
                rcases hk3 with rfl | rfl | rfl
                · rw [show T' 9 a = 1 from (eS a).trans (if_pos rfl), e0 10 a (by omega) (by omega), e0 11 a (by omega) (by omega)]
                  have : T 9 a = 0 := h0
                  omega
                · rw [show T' 10 a = 1 from (eS a).trans (if_pos rfl), e0 9 a (by omega) (by omega), e0 11 a (by omega) (by omega)]
                  have : T 10 a = 0 := h0
                  omega
                · rw [show T' 11 a = 1 from (eS a).trans (if_pos rfl), e0 9 a (by omega) (by omega), e0 10 a (by omega) (by omega)]
                  have : T 11 a = 0 := h0
                  omega
              · rw [if_neg e]
                rcases hk3 with rfl | rfl | rfl
                · rw [show T' 9 x = T 9 x from (eS x).trans (if_neg e), e0 10 x (by omega) (by omega), e0 11 x (by omega) (by omega)]
                · rw [show T' 10 x = T 10 x from (eS x).trans (if_neg e), e0 9 x (by omega) (by omega), e0 11 x (by omega) (by omega)]
                · rw [show T' 11 x = T 11 x from (eS x).trans (if_neg e), e0 9 x (by omega) (by omega), e0 10 x (by omega) (by omega)]
            rw [et]
            by_cases e : x = a
            · rw [if_pos e, e]; exact e64'
            · rw [if_neg e, fx3 _ _ (by omega)]; exact (x6 x hx).1
          · rw [hown, fx3 _ _ (by omega)]; exact (x6 x hx).2
          · rw [e0 12 i (by omega) (by omega), fx3 _ _ (by omega)]; exact x7 i hi
          · rw [e0 0 0 (by omega) (by omega), e0 0 1 (by omega) (by omega), e0 0 2 (by omega) (by omega), e0 0 3 (by omega) (by omega), fm4 _ (by omega) (by omega), fm4 _ (by omega) (by omega), fm4 _ (by omega) (by omega), fm4 _ (by omega) (by omega)]; exact y1
          · rw [e13]
            by_cases e : i = k
            · rw [if_pos e, e, fm5]; exact m4
            · rw [if_neg e, fm4 _ (by omega) (by omega)]; exact y2 i hi
          · rw [e0 12 i (by omega) (by omega), fm4 _ (by omega) (by omega)]; exact y3 i hi
          · rw [e0 0 2 (by omega) (by omega)] at hq
            rw [e0 1 q (by omega) (by omega), e0 2 q (by omega) (by omega), e0 3 q (by omega) (by omega), fm4 _ (by omega) (by omega), fm4 _ (by omega) (by omega), fm4 _ (by omega) (by omega)]; exact y4 q hq
          · rw [e0 4 q (by omega) (by omega), fm4 _ (by omega) (by omega)]; exact y5 q hq
          · rw [e0 0 3 (by omega) (by omega)] at hq
            rw [e0 5 q (by omega) (by omega), e0 6 q (by omega) (by omega), e0 7 q (by omega) (by omega), e0 8 q (by omega) (by omega), fm4 _ (by omega) (by omega), fm4 _ (by omega) (by omega), fm4 _ (by omega) (by omega), fm4 _ (by omega) (by omega)]; exact y6 q hq
          · have hv : ∀ j, j < 3 → ν5.1 206 (127 + 100 * j + x) = nI (T' (9 + j) x) := fun j hj => by
              have hj3 : j = 0 ∨ j = 1 ∨ j = 2 := by omega
              have hy : ν2.1 206 (127 + 100 * j + x) = nI (T (9 + j) x) := by
                rcases hj3 with rfl | rfl | rfl
                · exact (y7 x hx).1
                · exact (y7 x hx).2.1
                · exact (y7 x hx).2.2
              by_cases e : j = k
              · subst e
                rw [eS]
                by_cases e2 : x = a
                · rw [if_pos e2, e2, fm5]; exact m5
                · rw [if_neg e2, fm4 _ (by omega) (by omega)]; exact hy
              · rw [e0 (9 + j) x (by omega) (by omega), fm4 _ (by omega) (by omega)]; exact hy
            exact ⟨hv 0 (by decide), hv 1 (by decide), hv 2 (by decide)⟩
          · obtain ⟨w1, w2, w3⟩ := hW2
            rw [e0 0 2 (by omega) (by omega)]
            refine ⟨fun q hq => ?_, w2, w3⟩
            obtain ⟨j1, j2, j3⟩ := w1 q hq
            refine ⟨j1, ?_, ?_⟩
            · rw [(a3 54 q (decide_eq_true (by omega))).2]; exact j2
            · rw [(b5 208 _ (decide_eq_true (by omega))).2, (a4 208 _ (decide_eq_true (by omega))).2]; exact j3
          · rw [e0 0 0 (by omega) (by omega), (b5 203 20 (decide_eq_true (by omega))).1, (a4 203 20 (decide_eq_true (by omega))).1]; exact s202
          · obtain ⟨lw, l1, l2, l3⟩ := hlw2
            refine ⟨lw, l1, ?_, ?_⟩
            · rw [fx3 _ _ (by omega)]; exact l2
            · rw [(b5 203 21 (decide_eq_true (by omega))).1, (a4 203 21 (decide_eq_true (by omega))).1]; exact l3
      · have h1 : T (9 + k) a = 1 := by
          unfold occT at ho
          rw [if_pos hk, decide_eq_true_eq] at ho
          exact ho
        rw [if_neg Bool.false_ne_true, h1, if_pos (show nI 1 = 1 from rfl)]
        refine RT_r (bad_m (v := 3) pm2) ?_
        rintro ⟨r5, ν5⟩ ⟨u1, u2, u3, u4⟩
        rw [RT_some]
        exact ⟨fx2, fm2.tr (u2.sub fun a k h => decide_eq_true (by have := of_decide_eq_true h; omega)), .inr ⟨rfl, u1, 3, _, by decide, by decide, tS_le pm2.1, t1, t2, u3, u4⟩⟩
  · rw [if_neg (show ¬ nI (T 13 k) < 12 from (show ¬ nI (T 13 k) < nI 12 from nI_nlt (by omega) (by omega))), if_pos (show nI (T 13 k) = 12 from by rw [show T 13 k = 12 by omega]; rfl)]
    refine RT_call (rfail (v := 4) (by decide) px pm) ?_
    rintro ⟨r1, μ'⟩ ⟨r2, ν'⟩ ⟨a1, a2, a3, a4, a5⟩
    rw [RT_some]
    exact ⟨a1.sub fun a k h => decide_eq_true (by have := of_decide_eq_true h; omega), a2.sub fun a k h => decide_eq_true (by have := of_decide_eq_true h; omega), .inr ⟨a3, a4, a5⟩⟩
