/-! plans: one line -/
def DPP (P : Nat → Nat → Nat) (μ ν : aw_M) : Prop := ∀ q, q < 9 → μ.1 68 q = nI (P 0 q) - 1 ∧ μ.1 69 q = (if P 0 q = 0 then -1 else nI (P 1 q)) ∧ μ.1 70 q = (if P 0 q = 0 then -1 else nI (P 2 q)) ∧ ν.1 207 q = nI (P 0 q) ∧ ν.1 207 (9 + q) = nI (P 1 q) ∧ ν.1 207 (18 + q) = nI (P 2 q)
def updP (P : Nat → Nat → Nat) (q0 a b c : Nat) (f q : Nat) : Nat := if f = 0 ∧ q = q0 then a else if f = 1 ∧ q = q0 then b else if f = 2 ∧ q = q0 then c else P f q
theorem updP_0 (P : Nat → Nat → Nat) (q a b c : Nat) : updP P q a b c 0 q = a := if_pos ⟨rfl, rfl⟩
theorem updP_1 (P : Nat → Nat → Nat) (q a b c : Nat) : updP P q a b c 1 q = b := by
  unfold updP
  rw [if_neg (by omega), if_pos ⟨rfl, rfl⟩]
theorem updP_2 (P : Nat → Nat → Nat) (q a b c : Nat) : updP P q a b c 2 q = c := by
  unfold updP
  rw [if_neg (by omega), if_neg (by omega), if_pos ⟨rfl, rfl⟩]
theorem updP_n (P : Nat → Nat → Nat) {q a b c f r : Nat} (h : r ≠ q) : updP P q a b c f r = P f r := by
  unfold updP
  rw [if_neg (by omega), if_neg (by omega), if_neg (by omega)]
def kXl (a k : Nat) : Bool := decide (¬ (a = 1 ∧ 4 ≤ k ∧ k ≤ 12) ∧ ¬ (68 ≤ a ∧ a ≤ 70))
def kMl (a k : Nat) : Bool := decide (¬ (a = 203 ∧ (k = 4 ∨ (11 ≤ k ∧ k ≤ 18))) ∧ a ≠ 207)
/-- the quarters' names, as both sides know them -/
def NmX (nq : Nat) (W : Nat → List Nat) (μ : aw_M) : Prop := nq ≤ 9 ∧ μ.1 5 3 = nI nq ∧ ∀ q, q < nq → wordok (W q) ∧ μ.2 6 q = e27 (W q)
def NmM (nq : Nat) (W : Nat → List Nat) (ν : aw_M) : Prop := ν.1 205 2 = nI nq ∧ ∀ q, q < nq → wordok (W q) ∧ ν.2 208 q = e8 (W q)
theorem NmX_ag {nq : Nat} {W : Nat → List Nat} {K : Nat → Nat → Bool} {μ μ' : aw_M} (ag : AgK K μ μ') (hK : ∀ a k, a = 5 ∨ a = 6 → K a k = true) (h : NmX nq W μ) : NmX nq W μ' := ⟨h.1, by rw [(ag 5 3 (hK _ _ (by omega))).1]; exact h.2.1, fun q hq => ⟨(h.2.2 q hq).1, by rw [(ag 6 q (hK _ _ (by omega))).2]; exact (h.2.2 q hq).2⟩⟩
theorem NmM_ag {nq : Nat} {W : Nat → List Nat} {K : Nat → Nat → Bool} {μ μ' : aw_M} (ag : AgK K μ μ') (hK : ∀ a k, a = 205 ∨ a = 208 → K a k = true) (h : NmM nq W μ) : NmM nq W μ' := ⟨by rw [(ag 205 2 (hK _ _ (by omega))).1]; exact h.1, fun q hq => ⟨(h.2 q hq).1, by rw [(ag 208 q (hK _ _ (by omega))).2]; exact (h.2 q hq).2⟩⟩
/-- what stands behind a piece that was read -/
def After (B : Nat → Nat) (n lim m p : Nat) (kX kM : Nat → Nat → Bool) (D : aw_M → aw_M → Prop) (μ ν : aw_M) (r1 r2 : Bool × aw_M) : Prop := AgK kX μ r1.2 ∧ AgK kM ν r2.2 ∧ ((r1.1 = true ∧ r2.1 = true ∧ ∃ p', p + m ≤ p' ∧ PXk B n lim p' r1.2 ∧ PMk B n lim p' r2.2 ∧ r2.2.1 203 15 = ν.1 203 15 ∧ D r1.2 r2.2) ∨ (r1.1 = false ∧ r2.1 = false ∧ FF n r1.2 r2.2))
theorem planRow_t {F n lim p nq : Nat} {B : Nat → Nat} {W : Nat → List Nat} {P : Nat → Nat → Nat} {μ ν : aw_M} (hF : 2000 ≤ F) (px : PXk B n lim p μ) (pm : PMk B n lim p ν) (nx : NmX nq W μ) (nm : NmM nq W ν) (hinj : ∀ q r, q < nq → r < nq → W q = W r → q = r) (hP : qPWF P nq) (dp : DPP P μ ν) : RT (f_X2_readPlan F 67 1 5 μ) (f_X11_planRow F 203 ν) (After B n lim 3 p kXl kMl (fun μ' ν' => ∃ P', P' 3 0 = P 3 0 ∧ qPWF P' nq ∧ DPP P' μ' ν') μ ν) := by
  have rx : aw_rf 67 1 = 68 ∧ aw_rf 67 2 = 69 ∧ aw_rf 67 3 = 70 ∧ aw_rf 5 5 = 6 := by simp only [rf0, rf1, rf4, rf5, rf19, rf23, rf28, rf39, rf53, rf67, rf71, rf76, rf88, rf97, rf101, rf109, rf110, rf124, rf128, rf133, rf144, rf156, rf157, rf171, rf175, rf180, rf191, rf51, and_self]
  have r8 : aw_rf 203 8 = 207 ∧ aw_rf 203 6 = 205 := by simp only [rf203, rf203b, and_self]
  have n9 := nx.1
  have bad : ∀ v, 1 ≤ v ∧ v ≤ 4 → RT ((f_X6_fail F 1 (nI v) μ).bind fun r => some (r.1, r.2)) ((f_X11_bad F 203 (nI v) ν).bind fun r => some (r.1, r.2)) (After B n lim 3 p kXl kMl (fun μ' ν' => ∃ P', P' 3 0 = P 3 0 ∧ qPWF P' nq ∧ DPP P' μ' ν') μ ν) := fun v hv => by
    refine RT_call (rfail hv px pm) ?_
    rintro ⟨r1, μ'⟩ ⟨r2, ν'⟩ ⟨a1, a2, a3, a4, a5⟩
    rw [RT_some]
    exact ⟨a1.sub fun a k h => decide_eq_true (by have := of_decide_eq_true h; omega), a2.sub fun a k h => decide_eq_true (by have := of_decide_eq_true h; omega), .inr ⟨a3, a4, a5⟩⟩
  unfold f_X2_readPlan f_X11_planRow
  rw [atName_x px, isName_m (by omega) pm, Option.bind_some, Option.bind_some]
  dsimp only
  by_cases hN : isNm B n lim p = true
  · rw [if_pos hN, if_pos hN]
    have hK : tK B n lim p = 1 := (of_decide_eq_true hN).1
    have hw := tW_ok px.1 hK
    rw [(px.2.2.2.2.2.2.1 hK).1, show aw_in 2 1155 = true by decide, pg_t, r8.2, show (2 : Int32).toNatClampNeg = 2 by decide, nm.1]
    refine RT_l (named_x (by omega) rx.2.2.2 n9 nx.2.1 nx.2.2 hw) ?_
    rintro ⟨k1, μa⟩ ⟨ea, h1⟩
    have ea : μ = μa := ea.symm
    subst ea
    refine RT_r (find_m (f := 0) (by omega) n9 (by omega) (pm.2.2.2.2.2.2.1 hK) (fun q hq => by rw [Nat.zero_add]; exact nm.2 q hq) hw) ?_
    rintro ⟨k2, νa⟩ ⟨ea, h2⟩
    have ea : ν = νa := ea.symm
    subst ea
    dsimp only at h1 h2 ⊢
    rcases h1 with ⟨q, hq, hWq, rfl⟩ | ⟨rfl, h1⟩
    · obtain rfl : k2 = nI q := by
        rcases h2 with ⟨q', hq', hWq', rfl⟩ | ⟨-, h2⟩
        · rw [hinj q' q hq' hq (hWq'.trans hWq.symm)]
        · exact absurd hWq (h2 q hq)
      have h19 := (hP q).1
      rw [if_neg (show ¬ nI q = -1 from fun h => by have := nI_pos' (n := q) (by omega); rw [h] at this; exact absurd this (by decide)), if_neg (nI_pos (by omega)), pI_in_t (by omega) (by decide), pg_t, r8.1, nI_clamp (by omega), (dp q (by omega)).2.2.2.1]
      unfold f_X2_hasPlan
      rw [if_neg (nI_pos (by omega)), if_neg (show ¬ (9 : Int32) ≤ nI q from (show ¬ nI 9 ≤ nI q from nI_ge (by omega) (by decide))), pI_in_t (by omega) (by decide), pg_t, rx.1, nI_clamp (by omega), (dp q (by omega)).1]
      by_cases h0 : P 0 q = 0
      · rw [h0, if_pos (show nI 0 - 1 = -1 by decide), if_pos (show nI 0 ≤ 0 by decide), Option.bind_some]
        dsimp only
        rw [if_neg Bool.false_ne_true]
        refine RT_call (rstep hF px pm (by rw [hK]; decide)) ?_
        rintro μ1 ν1 ⟨a1, b1, c1, px1, pm1⟩
        generalize tN B n lim p = p1 at c1 px1 pm1
        refine RT_call (rnum (lo := 0) (hi := 19) (x := 68) (i := q) (z := 9) hF px1 pm1 rfl (by decide) rfl (by decide) (by decide) (by decide) (by decide) (by decide) (by omega)) ?_
        rintro ⟨s1, μ2⟩ ⟨s2, ν2⟩ ⟨a2, b2, h⟩
        dsimp only at a2 b2 h ⊢
        have fx2 : AgK kXl μ μ2 := (a1.sub fun a k h => decide_eq_true (by have := of_decide_eq_true h; omega)).tr (a2.sub fun a k h => decide_eq_true (by have := of_decide_eq_true h; omega))
        have fm2 : AgK kMl ν ν2 := (b1.sub fun a k h => decide_eq_true (by have := of_decide_eq_true h; omega)).tr (b2.sub fun a k h => decide_eq_true (by have := of_decide_eq_true h; omega))
        rcases h with ⟨rfl, rfl, p2, v, v1, v2, c2, px2, pm2, e68, e18, x2⟩ | ⟨rfl, rfl, ff⟩
        · rw [if_pos rfl, if_pos rfl, pg_t, plet]
          have f18 : AgK (fun a k => decide (¬ (a = 207 ∧ k = q))) ν2 (aw_wI ν2 207 q (ν2.1 203 18 + 1)) := (AgK.rf ν2).wI (decide_eq_false (by omega))
          have e207 : (aw_wI ν2 207 q (ν2.1 203 18 + 1)).1 207 q = nI (v + 1) := by rw [rI_s, e18, nI_1]
          generalize aw_wI ν2 207 q (ν2.1 203 18 + 1) = ν3 at f18 e207 ⊢
          have pm3 : PMk B n lim p2 ν3 := PMk_ag f18 (fun a k h => decide_eq_true (by omega)) pm2
          have fm3 : AgK kMl ν ν3 := fm2.tr (f18.sub fun a k h => decide_eq_true (by have := of_decide_eq_true h; omega))
          rw [rx.2.1]
          refine RT_call (rnum (lo := 0) (hi := 100) (x := 69) (i := q) (z := 9) hF px2 pm3 rfl (by decide) rfl (by decide) (by decide) (by decide) (by decide) (by decide) (by omega)) ?_
          rintro ⟨s1, μ4⟩ ⟨s2, ν4⟩ ⟨a4, b4, h⟩
          dsimp only at a4 b4 h ⊢
          have fx4 : AgK kXl μ μ4 := fx2.tr (a4.sub fun a k h => decide_eq_true (by have := of_decide_eq_true h; omega))
          have fm4 : AgK kMl ν ν4 := fm3.tr (b4.sub fun a k h => decide_eq_true (by have := of_decide_eq_true h; omega))
          rcases h with ⟨rfl, rfl, p4, w, w1, w2, c4, px4, pm4, e69, e18, x4⟩ | ⟨rfl, rfl, ff⟩
          · rw [if_pos rfl, if_pos rfl, show (9 : Int32) + nI q = nI (9 + q) from nI_add 9 q, pI_in_t (by omega) (by decide), pg_t, plet, nI_clamp (by omega), show (18 : Int32) + nI q = nI (18 + q) from nI_add 18 q]
            have f5 : AgK (fun a k => decide (¬ (a = 207 ∧ k = 9 + q))) ν4 (aw_wI ν4 207 (9 + q) (ν4.1 203 18)) := (AgK.rf ν4).wI (decide_eq_false (by omega))
            have e2079 : (aw_wI ν4 207 (9 + q) (ν4.1 203 18)).1 207 (9 + q) = nI w := by rw [rI_s, e18]
            generalize aw_wI ν4 207 (9 + q) (ν4.1 203 18) = ν5 at f5 e2079 ⊢
            have pm5 : PMk B n lim p4 ν5 := PMk_ag f5 (fun a k h => decide_eq_true (by omega)) pm4
            have fm5 : AgK kMl ν ν5 := fm4.tr (f5.sub fun a k h => decide_eq_true (by have := of_decide_eq_true h; omega))
            have x15 : ν5.1 203 15 = ν.1 203 15 := by
              rw [(f5 203 15 (decide_eq_true (by omega))).1, x4, (f18 203 15 (decide_eq_true (by omega))).1, x2, (b1 203 15 (decide_eq_true (by omega))).1]
            have wv : ∀ μ' ν' f, f ≤ 1 → AgK kXl μ μ' → AgK kMl ν ν' → (∀ r, μ'.1 68 r = μ4.1 68 r) → (∀ r, μ'.1 69 r = μ4.1 69 r) → (∀ r, μ'.1 70 r = if r = q then nI f else μ4.1 70 r) → (∀ r, r ≠ 18 + q → ν'.1 207 r = ν5.1 207 r) → ν'.1 207 (18 + q) = nI f → ∃ P', P' 3 0 = P 3 0 ∧ qPWF P' nq ∧ DPP P' μ' ν' := fun μ' ν' f hf _ _ g1 g2 g3 g4 g5 => by
              refine ⟨updP P q (v + 1) w f, ?_, fun r => ?_, fun r hr => ?_⟩
              · unfold updP
                rw [if_neg (by omega), if_neg (by omega), if_neg (by omega)]
              · obtain ⟨k1, k2, k3, k4, k5⟩ := hP r
                by_cases e : r = q
                · subst e
                  rw [updP_0, updP_1, updP_2]
                  exact ⟨by omega, by omega, hf, fun h => by omega, fun h => by omega⟩
                · rw [updP_n P e, updP_n P e, updP_n P e]
                  exact ⟨k1, k2, k3, k4, k5⟩
              · obtain ⟨k1, k2, k3, k4, k5, k6⟩ := dp r hr
                have u68 : μ4.1 68 r = if r = q then nI v else μ.1 68 r := by
                  rw [(a4 68 r (decide_eq_true (by omega))).1]
                  by_cases e : r = q
                  · rw [e, if_pos rfl]; exact e68
                  · rw [if_neg e, (a2 68 r (decide_eq_true (by omega))).1, (a1 68 r (decide_eq_true (by omega))).1]
                have u69 : μ4.1 69 r = if r = q then nI w else μ.1 69 r := by
                  by_cases e : r = q
                  · rw [e, if_pos rfl]; exact e69
                  · rw [if_neg e, (a4 69 r (decide_eq_true (by omega))).1, (a2 69 r (decide_eq_true (by omega))).1, (a1 69 r (decide_eq_true (by omega))).1]
                have u70 : μ4.1 70 r = μ.1 70 r := by
                  rw [(a4 70 r (decide_eq_true (by omega))).1, (a2 70 r (decide_eq_true (by omega))).1, (a1 70 r (decide_eq_true (by omega))).1]
                have m0 : ν5.1 207 r = if r = q then nI (v + 1) else ν.1 207 r := by
                  rw [(f5 207 r (decide_eq_true (by omega))).1, (b4 207 r (decide_eq_true (by omega))).1]
                  by_cases e : r = q
                  · rw [e, if_pos rfl]; exact e207
                  · rw [if_neg e, (f18 207 r (decide_eq_true (by omega))).1, (b2 207 r (decide_eq_true (by omega))).1, (b1 207 r (decide_eq_true (by omega))).1]
                have m9 : ν5.1 207 (9 + r) = if r = q then nI w else ν.1 207 (9 + r) := by
                  by_cases e : r = q
                  · rw [e, if_pos rfl]; exact e2079
                  · rw [if_neg e, (f5 207 _ (decide_eq_true (by omega))).1, (b4 207 _ (decide_eq_true (by omega))).1, (f18 207 _ (decide_eq_true (by omega))).1, (b2 207 _ (decide_eq_true (by omega))).1, (b1 207 _ (decide_eq_true (by omega))).1]
                have m18 : r ≠ q → ν5.1 207 (18 + r) = ν.1 207 (18 + r) := fun e => by
                  rw [(f5 207 _ (decide_eq_true (by omega))).1, (b4 207 _ (decide_eq_true (by omega))).1, (f18 207 _ (decide_eq_true (by omega))).1, (b2 207 _ (decide_eq_true (by omega))).1, (b1 207 _ (decide_eq_true (by omega))).1]
                rw [g1, g2, g3, g4 r (by omega), g4 (9 + r) (by omega), u68, u69, u70, m0, m9]
                by_cases e : r = q
                · subst e
                  rw [if_pos rfl, if_pos rfl, if_pos rfl, if_pos rfl, if_pos rfl, updP_0, updP_1, updP_2, if_neg (by omega), if_neg (by omega), g5]
                  exact ⟨by rw [← nI_1]; generalize nI v = x; grind, rfl, rfl, rfl, rfl, rfl⟩
                · rw [if_neg e, if_neg e, if_neg e, if_neg e, if_neg e, updP_n P e, updP_n P e, updP_n P e, g4 (18 + r) (by omega), m18 e]
                  exact ⟨k1, k2, k3, k4, k5, k6⟩
            rw [show f_X6_atKey F 1 8 μ4 = some (isKw B n lim p4 8, μ4) from atKey_x (i := 8) px4 (by decide), isWord_m (i := 8) pm5 (by decide) (by decide), Option.bind_some, Option.bind_some]
            dsimp only
            unfold f_X2_readPlan_96
            by_cases hf : isKw B n lim p4 8 = true
            · have hK4 : tK B n lim p4 = 1 := (of_decide_eq_true hf).1
              rw [if_pos hf, if_pos hf, pI_in_t (by omega) (by decide), pg_t, plet, rx.2.2.1, nI_clamp (by omega), pg_t, rI_s, if_pos (show aw_b true = 1 from rfl), pI_in_t (by omega) (by decide), pg_t, plet, nI_clamp (by omega)]
              have f6 : AgK (fun a k => decide (¬ (a = 70 ∧ k = q))) μ4 (aw_wI μ4 70 q (aw_b true)) := (AgK.rf μ4).wI (decide_eq_false (by omega))
              have e70 : (aw_wI μ4 70 q (aw_b true)).1 70 q = nI 1 := by rw [rI_s]; rfl
              have f7 : AgK (fun a k => decide (¬ (a = 207 ∧ k = 18 + q))) ν5 (aw_wI ν5 207 (18 + q) 1) := (AgK.rf ν5).wI (decide_eq_false (by omega))
              have e20718 : (aw_wI ν5 207 (18 + q) 1).1 207 (18 + q) = nI 1 := by rw [rI_s]; rfl
              generalize aw_wI μ4 70 q (aw_b true) = μ6 at f6 e70 ⊢
              generalize aw_wI ν5 207 (18 + q) 1 = ν7 at f7 e20718 ⊢
              refine RT_call (rstep hF (PXk_ag f6 (fun a k h => decide_eq_true (by omega)) px4) (PMk_ag f7 (fun a k h => decide_eq_true (by omega)) pm5) (by rw [hK4]; decide)) ?_
              rintro μ8 ν8 ⟨a8, b8, c8, px8, pm8⟩
              rw [RT_some]
              have fx8 : AgK kXl μ μ8 := (fx4.tr (f6.sub fun a k h => decide_eq_true (by have := of_decide_eq_true h; omega))).tr (a8.sub fun a k h => decide_eq_true (by have := of_decide_eq_true h; omega))
              have fm8 : AgK kMl ν ν8 := (fm5.tr (f7.sub fun a k h => decide_eq_true (by have := of_decide_eq_true h; omega))).tr (b8.sub fun a k h => decide_eq_true (by have := of_decide_eq_true h; omega))
              refine ⟨fx8, fm8, .inl ⟨rfl, rfl, _, by omega, px8, pm8, by rw [(b8 203 15 (decide_eq_true (by omega))).1, (f7 203 15 (decide_eq_true (by omega))).1, x15], wv μ8 ν8 1 (Nat.le_refl _) fx8 fm8 (fun r => ?_) (fun r => ?_) (fun r => ?_) (fun r hr => ?_) ?_⟩⟩
              · rw [(a8 68 r (decide_eq_true (by omega))).1, (f6 68 r (decide_eq_true (by omega))).1]
              · rw [(a8 69 r (decide_eq_true (by omega))).1, (f6 69 r (decide_eq_true (by omega))).1]
              · rw [(a8 70 r (decide_eq_true (by omega))).1]
                by_cases e : r = q
                · rw [e, if_pos rfl]; exact e70
                · rw [if_neg e, (f6 70 r (decide_eq_true (by omega))).1]
              · rw [(b8 207 r (decide_eq_true (by omega))).1, (f7 207 r (decide_eq_true (by omega))).1]
              · rw [(b8 207 _ (decide_eq_true (by omega))).1]
                exact e20718
            · rw [if_neg hf, if_neg hf, pI_in_t (by omega) (by decide), pg_t, plet, rx.2.2.1, nI_clamp (by omega), pg_t, rI_s, if_neg (show ¬ aw_b false = 1 by decide), RT_some]
              have f6 : AgK (fun a k => decide (¬ (a = 70 ∧ k = q))) μ4 (aw_wI μ4 70 q (aw_b false)) := (AgK.rf μ4).wI (decide_eq_false (by omega))
              have e70 : (aw_wI μ4 70 q (aw_b false)).1 70 q = nI 0 := by rw [rI_s]; rfl
              generalize aw_wI μ4 70 q (aw_b false) = μ6 at f6 e70 ⊢
              have fx6 : AgK kXl μ μ6 := fx4.tr (f6.sub fun a k h => decide_eq_true (by have := of_decide_eq_true h; omega))
              refine ⟨fx6, fm5, .inl ⟨rfl, rfl, p4, by omega, PXk_ag f6 (fun a k h => decide_eq_true (by omega)) px4, pm5, x15, wv μ6 ν5 0 (by decide) fx6 fm5 (fun r => ?_) (fun r => ?_) (fun r => ?_) (fun r hr => rfl) ?_⟩⟩
              · rw [(f6 68 r (decide_eq_true (by omega))).1]
              · rw [(f6 69 r (decide_eq_true (by omega))).1]
              · by_cases e : r = q
                · rw [e, if_pos rfl]; exact e70
                · rw [if_neg e, (f6 70 r (decide_eq_true (by omega))).1]
              · show ν5.1 207 (18 + q) = nI 0
                rw [(f5 207 _ (decide_eq_true (by omega))).1, (b4 207 _ (decide_eq_true (by omega))).1, (f18 207 _ (decide_eq_true (by omega))).1, (b2 207 _ (decide_eq_true (by omega))).1, (b1 207 _ (decide_eq_true (by omega))).1, (dp q (by omega)).2.2.2.2.2, ((hP q).2.2.2.1 h0).2]
          · rw [if_neg Bool.false_ne_true, if_neg Bool.false_ne_true, RT_some]
            exact ⟨fx4, fm4, .inr ⟨rfl, rfl, ff⟩⟩
        · rw [if_neg Bool.false_ne_true, if_neg Bool.false_ne_true, RT_some]
          exact ⟨fx2, fm2, .inr ⟨rfl, rfl, ff⟩⟩
      · rw [if_neg (show ¬ nI (P 0 q) - 1 = -1 from fun h => h0 ((nI_eq (b := 0) (by omega) (by decide)).1 (by
          have h5 : nI (P 0 q) = 0 := by grind
          exact h5))), if_neg (show ¬ nI (P 0 q) ≤ 0 from (show ¬ nI (P 0 q) ≤ nI 0 from nI_ge (by omega) (by omega))), Option.bind_some]
        dsimp only
        rw [if_pos rfl]
        unfold f_X2_readPlan_35 f_X11_planRow_38
        exact bad 3 (by decide)
    · obtain rfl : k2 = -1 := by
        rcases h2 with ⟨q', hq', hWq', -⟩ | ⟨h2, -⟩
        · exact absurd hWq' (h1 q' hq')
        · exact h2
      rw [if_pos rfl, if_pos (show (-1 : Int32) < 0 by decide)]
      unfold f_X2_readPlan_35 f_X11_planRow_38
      exact bad 3 (by decide)
  · rw [if_neg hN, if_neg hN]
    exact bad 1 (by decide)
