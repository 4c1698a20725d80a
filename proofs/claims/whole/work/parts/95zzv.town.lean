/-! the town's text: a line -/
theorem After_mono {B : Nat → Nat} {n lim m p : Nat} {kX kM : Nat → Nat → Bool} {D D' : aw_M → aw_M → Prop} {μ ν : aw_M} {r1 r2 : Bool × aw_M} (h : After B n lim m p kX kM D μ ν r1 r2) (hD : D r1.2 r2.2 → D' r1.2 r2.2) : After B n lim m p kX kM D' μ ν r1 r2 := by
  obtain ⟨h1, h2, h3⟩ := h
  refine ⟨h1, h2, ?_⟩
  rcases h3 with ⟨g1, g2, p', g3, g4, g5, g6, g7⟩ | h3
  · exact .inl ⟨g1, g2, p', g3, g4, g5, g6, hD g7⟩
  · exact .inr h3
theorem bind_eta (o : Option (Bool × aw_M)) : (o.bind fun r => some (r.1, r.2)) = o := by
  cases o <;> rfl
def D1 (μ ν : aw_M) : Prop := ∃ T W, (T 0 0 = 0 → T 0 1 = 0) ∧ DT T W μ ν
theorem line_t {F n lim p : Nat} {B : Nat → Nat} {T : Nat → Nat → Nat} {W : Nat → List Nat} {μ ν : aw_M} (hF : 2000 ≤ F) (px : PXk B n lim p μ) (pm : PMk B n lim p ν) (h01 : T 0 0 = 0 → T 0 1 = 0) (dt : DT T W μ ν) : RT (f_X8_readLine F 53 1 μ) (f_X11_line F 203 ν) (After B n lim 1 p kTX kTM D1 μ ν) := by
  have up : ∀ r1 r2, After B n lim 1 p kTX kTM (D0 T) μ ν r1 r2 → After B n lim 1 p kTX kTM D1 μ ν r1 r2 := fun r1 r2 h => After_mono h fun ⟨T', W', ⟨e0, e1⟩, d⟩ => ⟨T', W', fun h => by rw [e0] at h; rw [e1]; exact h01 h, d⟩
  have bad : RT ((f_X6_fail F 1 1 μ).bind fun r => some (r.1, r.2)) ((f_X11_bad F 203 1 ν).bind fun r => some (r.1, r.2)) (After B n lim 1 p kTX kTM D1 μ ν) := by
    refine RT_call (rfail (v := 1) (by decide) px pm) ?_
    rintro ⟨r1, μ'⟩ ⟨r2, ν'⟩ ⟨a1, a2, a3, a4, a5⟩
    rw [RT_some]
    exact ⟨a1.sub fun a k h => decide_eq_true (by have := of_decide_eq_true h; omega), a2.sub fun a k h => decide_eq_true (by have := of_decide_eq_true h; omega), .inr ⟨a3, a4, a5⟩⟩
  have kx' := kk_is (tK_le B n lim p)
  obtain ⟨g4, g5, g6, g1, g7, g10⟩ := px.2.2.2
  unfold f_X8_readLine f_X11_line
  rw [g6]
  have iw : ∀ i c, i < 20 → c = e8 (kw i) → f_X11_isWord F 203 c ν = some (isKw B n lim p i, ν) := fun i c hi hc => isWord_m pm hi hc
  rw [iw 0 126931137819237 (by decide) (by decide), Option.bind_some]
  dsimp only
  rw [iw 1 31935733760812402 (by decide) (by decide), Option.bind_some]
  dsimp only
  rw [iw 2 1667330676 (by decide) (by decide), Option.bind_some]
  dsimp only
  rw [iw 3 6513008 (by decide) (by decide), Option.bind_some]
  dsimp only
  rw [iw 4 431415716206 (by decide) (by decide), Option.bind_some]
  dsimp only
  rw [iw 5 457236047717 (by decide) (by decide), Option.bind_some]
  dsimp only
  rw [iw 6 1936748404 (by decide) (by decide), Option.bind_some]
  dsimp only
  rw [iw 7 7102839 (by decide) (by decide), Option.bind_some]
  dsimp only
  by_cases hK : tK B n lim p = 1
  · have fT : ∀ i, kwl.idxOf (tW B n p) = i → isKw B n lim p i = true := fun i h => decide_eq_true ⟨hK, h⟩
    have fF : ∀ i, kwl.idxOf (tW B n p) ≠ i → isKw B n lim p i = false := fun i h => decide_eq_false fun h2 => h h2.2
    rw [if_pos (kx'.1.2 hK), (g1 hK).2]
    have hk : ∀ j, j < 20 → kwl.idxOf (tW B n p) = j → kx (tW B n p) = nI j := fun j hj h => by
      unfold kx
      rw [h, if_pos hj]
    generalize hix : kwl.idxOf (tW B n p) = ix at fT fF hk
    have c8 : ix = 0 ∨ ix = 1 ∨ ix = 2 ∨ ix = 3 ∨ ix = 4 ∨ ix = 5 ∨ ix = 6 ∨ ix = 7 ∨ 8 ≤ ix := by omega
    rcases c8 with rfl | rfl | rfl | rfl | rfl | rfl | rfl | rfl | c8
    · rw [hk 0 (by decide) rfl, sel_j (by decide), fT 0 rfl, if_pos rfl]
      show RT ((f_X8_readSquare F 53 1 μ).bind fun r => some (r.1, r.2)) _ _
      rw [bind_eta]
      exact RT_mono (square_t hF px pm hK h01 dt) fun r1 r2 h => After_mono h fun ⟨T', W', h0, d⟩ => ⟨T', W', fun h => by omega, d⟩
    · rw [hk 1 (by decide) rfl, sel_j (by decide), fF 0 (by decide), fT 1 rfl, if_neg Bool.false_ne_true, if_pos rfl]
      show RT ((f_X8_readQuarter F 53 1 μ).bind fun r => some (r.1, r.2)) ((f_X11_readQuarter F 203 ν).bind fun r => some (r.1, r.2)) _
      rw [bind_eta, bind_eta]
      exact RT_mono (quarter_t hF px pm hK dt) up
    · rw [hk 2 (by decide) rfl, sel_j (by decide), fF 0 (by decide), fF 1 (by decide), fT 2 rfl, if_neg Bool.false_ne_true, if_neg Bool.false_ne_true, if_pos rfl]
      show RT ((f_X8_readCart F 53 1 μ).bind fun r => some (r.1, r.2)) ((f_X11_readCart F 203 ν).bind fun r => some (r.1, r.2)) _
      rw [bind_eta, bind_eta]
      exact RT_mono (cart_t hF px pm hK dt) up
    · rw [hk 3 (by decide) rfl, sel_j (by decide), fF 0 (by decide), fF 1 (by decide), fF 2 (by decide), fT 3 rfl, if_neg Bool.false_ne_true, if_neg Bool.false_ne_true, if_neg Bool.false_ne_true, if_pos rfl]
      show RT ((f_X8_readThing F 53 1 0 μ).bind fun r => some (r.1, r.2)) ((f_X11_readOn F 203 127 4 ν).bind fun r => some (r.1, r.2)) _
      rw [bind_eta, bind_eta]
      exact RT_mono (thing_t (k := 0) hF px pm hK (by decide) (by decide) (by decide) (by decide) dt) up
    · rw [hk 4 (by decide) rfl, sel_j (by decide), fF 0 (by decide), fF 1 (by decide), fF 2 (by decide), fF 3 (by decide), fT 4 rfl, if_neg Bool.false_ne_true, if_neg Bool.false_ne_true, if_neg Bool.false_ne_true, if_neg Bool.false_ne_true, if_pos rfl]
      show RT ((f_X8_readThing F 53 1 1 μ).bind fun r => some (r.1, r.2)) ((f_X11_readOn F 203 227 5 ν).bind fun r => some (r.1, r.2)) _
      rw [bind_eta, bind_eta]
      exact RT_mono (thing_t (k := 1) hF px pm hK (by decide) (by decide) (by decide) (by decide) dt) up
    · rw [hk 5 (by decide) rfl, sel_j (by decide), fF 0 (by decide), fF 1 (by decide), fF 2 (by decide), fF 3 (by decide), fF 4 (by decide), fT 5 rfl, if_neg Bool.false_ne_true, if_neg Bool.false_ne_true, if_neg Bool.false_ne_true, if_neg Bool.false_ne_true, if_neg Bool.false_ne_true, if_pos rfl]
      show RT ((f_X8_readThing F 53 1 2 μ).bind fun r => some (r.1, r.2)) ((f_X11_readOn F 203 327 6 ν).bind fun r => some (r.1, r.2)) _
      rw [bind_eta, bind_eta]
      exact RT_mono (thing_t (k := 2) hF px pm hK (by decide) (by decide) (by decide) (by decide) dt) up
    · rw [hk 6 (by decide) rfl, sel_j (by decide), fF 0 (by decide), fF 1 (by decide), fF 2 (by decide), fF 3 (by decide), fF 4 (by decide), fF 5 (by decide), fT 6 rfl, if_neg Bool.false_ne_true, if_neg Bool.false_ne_true, if_neg Bool.false_ne_true, if_neg Bool.false_ne_true, if_neg Bool.false_ne_true, if_neg Bool.false_ne_true, if_pos rfl]
      show RT ((f_X8_readSpot F 53 1 μ).bind fun r => some (r.1, r.2)) (spotM F ν) _
      rw [bind_eta]
      exact RT_mono (spot_t hF px pm hK dt) up
    · rw [hk 7 (by decide) rfl, sel_j (by decide), fF 0 (by decide), fF 1 (by decide), fF 2 (by decide), fF 3 (by decide), fF 4 (by decide), fF 5 (by decide), fF 6 (by decide), fT 7 rfl, if_neg Bool.false_ne_true, if_neg Bool.false_ne_true, if_neg Bool.false_ne_true, if_neg Bool.false_ne_true, if_neg Bool.false_ne_true, if_neg Bool.false_ne_true, if_neg Bool.false_ne_true, if_pos rfl]
      show RT ((f_X8_readLaw F 53 1 μ).bind fun r => some (r.1, r.2)) _ _
      rw [bind_eta]
      exact RT_mono (law_t hF px pm hK dt) up
    · rw [fF 0 (by omega), fF 1 (by omega), fF 2 (by omega), fF 3 (by omega), fF 4 (by omega), fF 5 (by omega), fF 6 (by omega), fF 7 (by omega), if_neg Bool.false_ne_true, if_neg Bool.false_ne_true, if_neg Bool.false_ne_true, if_neg Bool.false_ne_true, if_neg Bool.false_ne_true, if_neg Bool.false_ne_true, if_neg Bool.false_ne_true, if_neg Bool.false_ne_true]
      by_cases c20 : ix < 20
      · have hgd : ∀ (l : List (Option (Bool × aw_M))) (d : Option (Bool × aw_M)), l.length = 8 → l.getD ix d = d := fun l d h => by
          rw [List.getD_eq_getElem?_getD, List.getElem?_eq_none (by omega)]
          rfl
        rw [hk ix c20 rfl, sel_j (by omega), hgd _ _ rfl]
        exact bad
      · have : kx (tW B n p) = -1 := by
          unfold kx
          rw [hix, if_neg c20]
        rw [this, sel_lo (by decide)]
        exact bad
  · have fF : ∀ i, isKw B n lim p i = false := fun i => decide_eq_false fun h2 => hK h2.1
    rw [if_neg fun h => hK (kx'.1.1 h), fF 0, fF 1, fF 2, fF 3, fF 4, fF 5, fF 6, fF 7, if_neg Bool.false_ne_true, if_neg Bool.false_ne_true, if_neg Bool.false_ne_true, if_neg Bool.false_ne_true, if_neg Bool.false_ne_true, if_neg Bool.false_ne_true, if_neg Bool.false_ne_true, if_neg Bool.false_ne_true]
    exact bad
