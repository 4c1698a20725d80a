/-! the row itself -/
def vR (T : Nat → Nat → Nat) (D w : Nat → Nat) (i : Nat) : Option Nat := (rEv T D w (bzm T i) (rB T D w i)).map (fun j => cntv T (bzm T i) + j)
/-- what a throw is marked without those that joined; L: the law -/
def oM (T : Nat → Nat → Nat) (D w : Nat → Nat) (L : Nat → Int32) (i : Nat) : Int32 := match rEv T D w (bzm T i) (rB T D w i) with
  | none => 0
  | some j => L 0 * nI (rHit T D w (caQ T (bzm T i) j) (rB T D w i).2.1) + (if D (caQ T (bzm T i) j) ≤ 2 then L 1 * 2 else 0) + L 2 * 0 - (if nI (rHit T D w (caQ T (bzm T i) j) (rB T D w i).2.1) < 7 then 0 else L 3)
theorem oM_none {T : Nat → Nat → Nat} {D w : Nat → Nat} {L : Nat → Int32} {i : Nat} (h : rEv T D w (bzm T i) (rB T D w i) = none) : oM T D w L i = 0 := by
  unfold oM
  rw [h]
theorem oM_some {T : Nat → Nat → Nat} {D w : Nat → Nat} {L : Nat → Int32} {i j : Nat} (h : rEv T D w (bzm T i) (rB T D w i) = some j) : oM T D w L i = L 0 * nI (rHit T D w (caQ T (bzm T i) j) (rB T D w i).2.1) + (if D (caQ T (bzm T i) j) ≤ 2 then L 1 * 2 else 0) + L 2 * 0 - (if nI (rHit T D w (caQ T (bzm T i) j) (rB T D w i).2.1) < 7 then 0 else L 3) := by
  unfold oM
  rw [h]
theorem vR_none {T : Nat → Nat → Nat} {D w : Nat → Nat} {i : Nat} (h : rEv T D w (bzm T i) (rB T D w i) = none) : vR T D w i = none := by
  unfold vR
  rw [h]
  rfl
theorem vR_some {T : Nat → Nat → Nat} {D w : Nat → Nat} {i j : Nat} (h : rEv T D w (bzm T i) (rB T D w i) = some j) : vR T D w i = some (cntv T (bzm T i) + j) := by
  unfold vR
  rw [h]
  rfl
theorem cntv_lt {T : Nat → Nat → Nat} {m j : Nat} (hm : m < 240) (hj : j < (vis T m).length) : cntv T m + j < 4 * T 0 3 := by
  have := cntv_le T (m + 1)
  have := cntv_succ T m
  omega
theorem vR_lt {T : Nat → Nat → Nat} {D w : Nat → Nat} {i v : Nat} (hi : i < nbz T 240) (h : vR T D w i = some v) : v < 4 * T 0 3 := by
  obtain ⟨m1, m2, m3⟩ := bzm_ix hi
  cases he : rEv T D w (bzm T i) (rB T D w i) with
  | none => rw [vR_none he] at h; cases h
  | some j =>
    rw [vR_some he] at h
    cases h
    exact cntv_lt m1 (rAim_lt (rEv_aim he)).2.1
/-- a row that is out of boxes stays as it is -/
theorem rB_stop {T : Nat → Nat → Nat} {D w : Nat → Nat} {i : Nat} (h : (rB T D w i).1 = 0) : ∀ d, rB T D w (i + d) = rB T D w i ∧ rEv T D w (bzm T (i + d)) (rB T D w (i + d)) = none
  | 0 => ⟨rfl, rEv_none (show rAim T D w (bzm T i) (rB T D w i) = none from if_pos h)⟩
  | d + 1 => by
    obtain ⟨h1, h2⟩ := rB_stop h d
    have h0 : (rB T D w (i + d)).1 = 0 := by rw [h1]; exact h
    have e : rB T D w (i + (d + 1)) = rB T D w i := by
      show rNx T D w (bzm T (i + d)) (rB T D w (i + d)) = _
      rw [rNx_none (show rAim T D w (bzm T (i + d)) (rB T D w (i + d)) = none from if_pos h0), h1]
    have h3 : (rB T D w (i + (d + 1))).1 = 0 := by rw [e]; exact h
    exact ⟨e, rEv_none (if_pos h3)⟩
theorem sumr_0 {g : Nat → Int32} {i : Nat} : ∀ d, (∀ k, i ≤ k → k < i + d → g k = 0) → sumr g (i + d) = sumr g i
  | 0, _ => rfl
  | d + 1, h => by
    show sumr g (i + d) + g (i + d) = _
    rw [sumr_0 d (fun k h1 h2 => h k h1 (by omega)), h (i + d) (by omega) (by omega), i32_0]
def plD (T : Nat → Nat → Nat) (p : Nat) : Nat → Nat := fun c => dst (pl T p) (T 6 c)
theorem pl_lt {T : Nat → Nat → Nat} {p : Nat} (hwf : qTWF T) (hp : p < 18) (hpq : p % 9 < T 0 2) : pl T p < 100 := by
  have hc : ∀ a, cellok T a → a < 100 := fun a h => by
    have := hwf.1
    unfold cellok at h
    omega
  unfold pl
  by_cases k : p < 9
  · rw [if_pos k]
    exact hc _ (hwf.2.1 p (by omega)).1
  · have e : p % 9 = p - 9 := by omega
    rw [if_neg k]
    by_cases k2 : T 4 (p - 9) = 0
    · rw [if_pos k2]
      exact hc _ (hwf.2.1 (p - 9) (by omega)).1
    · rw [if_neg k2]
      exact hc _ ((hwf.2.1 (p - 9) (by omega)).2.2.2.2.resolve_left k2)
theorem play_x5 {F q p : Nat} {a2 a3 a4 : Int32} {w : Nat → Nat} {C P : Nat → Nat → Nat} {V : Nat → Nat → Option Nat} {μ : aw_M} (hF : 2000 ≤ F) (hwf : qTWF C) (ev : env C P μ) (hV : SDr V μ) (hq : q < C 0 2) (hp : p < 18) (hpq : p % 9 < C 0 2) (h2 : a2 + 1 = nI (w 1)) (hN : w 1 ≤ 100) (hE : w 2 ≤ 1000) (h3 : a3 = nI (w 2) ∨ w 1 = 0) (h4 : a4 = 1 ↔ w 3 = 1) (hw4 : w 4 = C 2 q) (hw5 : w 5 = C 3 q) : T (f_X5_play F 88 (nI q) (nI p) a2 a3 a4 μ) fun μ' => SDr (fun q' i => if q' = q then (if i < nbz C 240 then vR C (plD C p) w i else none) else V q' i) μ' ∧ AgK kSD μ μ' ∧ (∀ k, k ≠ q → μ'.1 91 k = μ.1 91 k ∧ μ'.1 92 k = μ.1 92 k) ∧ μ'.1 91 q = sumr (oM C (plD C p) w (μ.1 18)) (nbz C 240) ∧ μ'.1 92 q = nI (jsee C (pl C p)) := by
  have hnq := hwf.1.2.2.1
  have hnc := hwf.1.2.2.2
  have hpl := pl_lt hwf hp hpq
  have hb80 : nbz C 240 ≤ 80 := by
    have := nbz_le C 240
    have := cntv_le C 240
    omega
  have r0 : aw_rf 88 0 = 5 := by simp only [rf0, rf1, rf4, rf5, rf19, rf23, rf28, rf39, rf53, rf67, rf71, rf76, rf88, rf97, rf101, rf109, rf110, rf124, rf128, rf133, rf144, rf156, rf157, rf171, rf175, rf180, rf191, rf51]
  have r2 : aw_rf 88 2 = 28 := by simp only [rf0, rf1, rf4, rf5, rf19, rf23, rf28, rf39, rf53, rf67, rf71, rf76, rf88, rf97, rf101, rf109, rf110, rf124, rf128, rf133, rf144, rf156, rf157, rf171, rf175, rf180, rf191, rf51]
  have r3 : aw_rf 88 3 = 89 := by simp only [rf0, rf1, rf4, rf5, rf19, rf23, rf28, rf39, rf53, rf67, rf71, rf76, rf88, rf97, rf101, rf109, rf110, rf124, rf128, rf133, rf144, rf156, rf157, rf171, rf175, rf180, rf191, rf51]
  have r4 : aw_rf 88 4 = 90 := by simp only [rf0, rf1, rf4, rf5, rf19, rf23, rf28, rf39, rf53, rf67, rf71, rf76, rf88, rf97, rf101, rf109, rf110, rf124, rf128, rf133, rf144, rf156, rf157, rf171, rf175, rf180, rf191, rf51]
  have r5 : aw_rf 88 5 = 91 := by simp only [rf0, rf1, rf4, rf5, rf19, rf23, rf28, rf39, rf53, rf67, rf71, rf76, rf88, rf97, rf101, rf109, rf110, rf124, rf128, rf133, rf144, rf156, rf157, rf171, rf175, rf180, rf191, rf51]
  have r6 : aw_rf 88 6 = 92 := by simp only [rf0, rf1, rf4, rf5, rf19, rf23, rf28, rf39, rf53, rf67, rf71, rf76, rf88, rf97, rf101, rf109, rf110, rf124, rf128, rf133, rf144, rf156, rf157, rf171, rf175, rf180, rf191, rf51]
  have r7 : aw_rf 88 7 = 93 := by simp only [rf0, rf1, rf4, rf5, rf19, rf23, rf28, rf39, rf53, rf67, rf71, rf76, rf88, rf97, rf101, rf109, rf110, rf124, rf128, rf133, rf144, rf156, rf157, rf171, rf175, rf180, rf191, rf51]
  have g0 : aw_rf 28 0 = 29 := by simp only [rf0, rf1, rf4, rf5, rf19, rf23, rf28, rf39, rf53, rf67, rf71, rf76, rf88, rf97, rf101, rf109, rf110, rf124, rf128, rf133, rf144, rf156, rf157, rf171, rf175, rf180, rf191, rf51]
  have g1 : aw_rf 28 1 = 30 := by simp only [rf0, rf1, rf4, rf5, rf19, rf23, rf28, rf39, rf53, rf67, rf71, rf76, rf88, rf97, rf101, rf109, rf110, rf124, rf128, rf133, rf144, rf156, rf157, rf171, rf175, rf180, rf191, rf51]
  have g9 : aw_rf 28 9 = 36 := by simp only [rf0, rf1, rf4, rf5, rf19, rf23, rf28, rf39, rf53, rf67, rf71, rf76, rf88, rf97, rf101, rf109, rf110, rf124, rf128, rf133, rf144, rf156, rf157, rf171, rf175, rf180, rf191, rf51]
  have g11 : aw_rf 28 11 = 38 := by simp only [rf0, rf1, rf4, rf5, rf19, rf23, rf28, rf39, rf53, rf67, rf71, rf76, rf88, rf97, rf101, rf109, rf110, rf124, rf128, rf133, rf144, rf156, rf157, rf171, rf175, rf180, rf191, rf51]
  have t7 : aw_rf 5 7 = 8 := by simp only [rf0, rf1, rf4, rf5, rf19, rf23, rf28, rf39, rf53, rf67, rf71, rf76, rf88, rf97, rf101, rf109, rf110, rf124, rf128, rf133, rf144, rf156, rf157, rf171, rf175, rf180, rf191, rf51]
  have i9 : aw_in (nI q) 9 = true := pI_in_t (by omega) (by decide)
  have cq : (nI q).toNatClampNeg = q := nI_clamp (by omega)
  unfold f_X5_play
  refine T_call (takeBack_x (by omega) (by omega) hV) ?_
  rintro μ1 ⟨hV1, ag1, o1, s1⟩
  have ev1 := ev.sd ag1
  have es : μ1.1 30 p = nI (jsee C (pl C p)) := (ev1.2.2.1 p hp hpq).2
  rw [pI_in_t hp (by decide), pg_t, i9, pg_t, plet, pg_t, plet, r6, r2, g1, cq, nI_clamp (by omega), es, r5, r7, fil_wr (n := 20) (by omega) (by decide) (by decide), Option.bind_some, pg_t, plet, r0, t7]
  have hus : (aw_wI (aw_wI μ1 92 q (nI (jsee C (pl C p)))) 91 q 0).1 93 = μ1.1 93 := by rw [rI_a (by decide), rI_a (by decide)]
  rw [hus]
  generalize hμ2 : aset (aw_wI (aw_wI μ1 92 q (nI (jsee C (pl C p)))) 91 q 0) 93 (wr (μ1.1 93) 0 20 (fun _ => 0)) = μ2
  have ag2 : AgK kSD μ μ2 := by
    rw [← hμ2]
    exact ((ag1.wI (kSD_f (by omega) (by omega))).wI (kSD_f (by omega) (by omega))).wA (fun k h => by rw [kSD_f (by omega) (by omega)] at h; cases h)
  have u2 : ∀ c, c < 20 → μ2.1 93 c = 0 := fun c hc => by rw [← hμ2, rA_s, wr0 hc]
  have own2 : μ2.1 91 q = 0 ∧ ∀ k, k ≠ q → μ2.1 91 k = μ.1 91 k := by
    refine ⟨by rw [← hμ2, rA_a (by decide), rI_s], fun k hk => by rw [← hμ2, rA_a (by decide), rI_k hk, rI_a (by decide), o1]⟩
  have see2 : μ2.1 92 q = nI (jsee C (pl C p)) ∧ ∀ k, k ≠ q → μ2.1 92 k = μ.1 92 k := by
    refine ⟨by rw [← hμ2, rA_a (by decide), rI_a (by decide), rI_s], fun k hk => by rw [← hμ2, rA_a (by decide), rI_a (by decide), rI_k hk, s1]⟩
  have hV2 : SDr (fun q' i => if q' = q then none else V q' i) μ2 := by
    refine ⟨fun q' i hq' hi => ?_, fun v hv => ?_, hV1.2.2⟩
    · rw [← hμ2, rA_a (by decide), rI_a (by decide), rI_a (by decide)]
      exact hV1.1 q' i hq' hi
    · rw [← hμ2, rA_a (by decide), rI_a (by decide), rI_a (by decide)]
      exact hV1.2.1 v hv
  clear hμ2
  have eb : μ2.1 8 q = nI (w 4) := by rw [hw4]; exact ((ev.sd ag2).1.2.1 q hq).2.1
  rw [eb]
  have hw400 : w 4 ≤ 400 := by rw [hw4]; exact (hwf.2.1 q hq).2.1
  have L18 : ∀ μ3, AgK kSD μ μ3 → μ3.1 18 = μ.1 18 := fun μ3 ag => ag.a fun k => decide_eq_true (by omega)
  refine T_lp (fun i s => ∃ μ', s = (nI q, nI p, a2, a3, a4, nI (rB C (plD C p) w i).1, nI (rB C (plD C p) w i).2.1, nI i, μ') ∧ SDr (fun q' k => if q' = q then (if k < i then vR C (plD C p) w k else none) else V q' k) μ' ∧ AgK kSD μ μ' ∧ (∀ k, k ≠ q → μ'.1 91 k = μ.1 91 k ∧ μ'.1 92 k = μ.1 92 k) ∧ μ'.1 91 q = sumr (oM C (plD C p) w (μ.1 18)) i ∧ μ'.1 92 q = nI (jsee C (pl C p)) ∧ ∀ c, c < 20 → μ'.1 93 c = nI ((rB C (plD C p) w i).2.2 c)) (nbz C 240) (by omega) ⟨μ2, rfl, ?_, ag2, fun k hk => ⟨own2.2 k hk, see2.2 k hk⟩, own2.1, see2.1, u2⟩ ?_ ?_
  · have : (fun q' k => if q' = q then (if k < 0 then vR C (plD C p) w k else none) else V q' k) = fun q' i => if q' = q then none else V q' i := by
      funext q' k
      rw [if_neg (Nat.not_lt_zero k)]
    rw [this]
    exact hV2
  · rintro i hi _ ⟨μ', rfl, hV', ag', oth, hown, hsee, hused⟩ k hk
    have ev' := ev.sd ag'
    obtain ⟨m1, m2, m3⟩ := bzm_ix hi
    have b2 := cntv_le C (bzm C i + 1)
    have b3 := cntv_succ C (bzm C i)
    have hle := rB_le (T := C) (D := plD C p) (w := w) i
    have ebusy : μ'.1 28 7 = nI (nbz C 240) := ev'.2.2.2.2.2.1
    have ki : nI i = nI (nbz C (bzm C i)) := by rw [m3]
    have hrb : rB C (plD C p) w (i + 1) = rNx C (plD C p) w (bzm C i) (rB C (plD C p) w i) := rfl
    have hsum : sumr (oM C (plD C p) w (μ.1 18)) (i + 1) = sumr (oM C (plD C p) w (μ.1 18)) i + oM C (plD C p) w (μ.1 18) i := rfl
    have hk : ∀ (b' mo' : Int32) μ3, b' = nI (rNx C (plD C p) w (bzm C i) (rB C (plD C p) w i)).1 → mo' = nI (rNx C (plD C p) w (bzm C i) (rB C (plD C p) w i)).2.1 → SDr (fun q' k => if q' = q then (if k < i + 1 then vR C (plD C p) w k else none) else V q' k) μ3 → AgK kSD μ μ3 → (∀ k, k ≠ q → μ3.1 91 k = μ.1 91 k ∧ μ3.1 92 k = μ.1 92 k) → μ3.1 91 q = sumr (oM C (plD C p) w (μ.1 18)) i + oM C (plD C p) w (μ.1 18) i → μ3.1 92 q = nI (jsee C (pl C p)) → (∀ c, c < 20 → μ3.1 93 c = nI ((rNx C (plD C p) w (bzm C i) (rB C (plD C p) w i)).2.2 c)) → T (k (nI q, nI p, a2, a3, a4, b', mo', nI (i + 1), μ3)) _ := fun b' mo' μ3 e1 e2 c1 c2 c3 c4 c5 c6 => hk _ ⟨μ3, by rw [hrb, e1, e2], c1, c2, c3, by rw [hsum]; exact c4, c5, by rw [hrb]; exact c6⟩
    -- nothing is thrown
    have hno : rEv C (plD C p) w (bzm C i) (rB C (plD C p) w i) = none → ∀ (b' mo' : Int32), b' = nI (rNx C (plD C p) w (bzm C i) (rB C (plD C p) w i)).1 → mo' = nI (rNx C (plD C p) w (bzm C i) (rB C (plD C p) w i)).2.1 → (rNx C (plD C p) w (bzm C i) (rB C (plD C p) w i)).2.2 = (rB C (plD C p) w i).2.2 → T (k (nI q, nI p, a2, a3, a4, b', mo', nI (i + 1), μ')) _ := fun he b' mo' e1 e2 e3 => by
      refine hk b' mo' μ' e1 e2 ?_ ag' oth (by rw [oM_none he, i32_0]; exact hown) hsee (by rw [e3]; exact hused)
      have : (fun q' k => if q' = q then (if k < i + 1 then vR C (plD C p) w k else none) else V q' k) = fun q' k => if q' = q then (if k < i then vR C (plD C p) w k else none) else V q' k := by
        funext q' k
        by_cases e : q' = q
        · rw [if_pos e, if_pos e]
          by_cases e2 : k = i
          · subst e2
            rw [if_pos (Nat.lt_succ_self _), if_neg (Nat.lt_irrefl _), vR_none he]
          · by_cases e3 : k < i
            · rw [if_pos e3, if_pos (by omega)]
            · rw [if_neg e3, if_neg (by omega)]
        · rw [if_neg e, if_neg e]
      rw [this]
      exact hV'
    show T (f_X5_play_52 F 88 k (nI q) (nI p) a2 a3 a4 (nI (rB C (plD C p) w i).1) (nI (rB C (plD C p) w i).2.1) (nI i) μ') _
    unfold f_X5_play_52
    rw [r2, ebusy, if_neg (nI_ge hi (by omega))]
    by_cases h0 : (rB C (plD C p) w i).1 = 0
    · rw [if_pos (by rw [h0]; decide), T_some]
      have hst : ∀ k, i ≤ k → k < i + (nbz C 240 - i) → rEv C (plD C p) w (bzm C k) (rB C (plD C p) w k) = none := fun k h1 h2 => by
        have := (rB_stop h0 (k - i)).2
        have e : i + (k - i) = k := by omega
        rw [e] at this
        exact this
      have e2 : i + (nbz C 240 - i) = nbz C 240 := by omega
      refine ⟨?_, ag', oth, ?_, hsee⟩
      · have : (fun q' k => if q' = q then (if k < nbz C 240 then vR C (plD C p) w k else none) else V q' k) = fun q' k => if q' = q then (if k < i then vR C (plD C p) w k else none) else V q' k := by
          funext q' k
          by_cases e : q' = q
          · rw [if_pos e, if_pos e]
            by_cases e3 : k < i
            · rw [if_pos e3, if_pos (by omega)]
            · rw [if_neg e3]
              by_cases e4 : k < nbz C 240
              · rw [if_pos e4, vR_none (hst k (by omega) (by omega))]
              · rw [if_neg e4]
          · rw [if_neg e, if_neg e]
        rw [this]
        exact hV'
      · rw [hown]
        have := sumr_0 (g := oM C (plD C p) w (μ.1 18)) (i := i) (nbz C 240 - i) (fun k h1 h2 => oM_none (hst k h1 h2))
        rw [e2] at this
        exact this.symm
    have hb4 := hle.2 0
    rw [if_neg (nI_nle (by omega) (by omega))]
    have hnear : f_X1_nearestVisit F 28 (aw_rf 88 7) (nI p) (nI i) a2 a3 0 μ' = some (xiI (cntv C (bzm C i)) (rAim C (plD C p) w (bzm C i) (rB C (plD C p) w i)), μ') := by
      have ea : rAim C (plD C p) w (bzm C i) (rB C (plD C p) w i) = xi (plD C p) (rB C (plD C p) w i).2.2 (w 1) (w 2) (fun k => (vis C (bzm C i)).getD k 0) (vis C (bzm C i)).length := if_neg h0
      rw [ki, r7]
      by_cases hw0 : w 1 = 0
      · rw [nearest_0 (by omega) hwf ev'.2.2 hp hpq m1 m2 (by rw [h2, hw0]; rfl) hpl, ea, hw0, xi_0]
        rfl
      · rw [h3.resolve_right hw0, ea]
        exact nearest_x (T := C) (U := (rB C (plD C p) w i).2.2) (off := 0) (by omega) hwf ev'.2.2 hp hpq m1 m2 h2 hN hE (by decide) (by decide) (fun c hc => by
          have := hle.2 c
          rw [Nat.zero_add]
          exact ⟨hused c (by omega), by omega⟩) hpl
    rw [hnear, Option.bind_some]
    have hpa : ∀ c, c < C 0 3 → μ'.1 29 (20 * p + c) = nI (plD C p c) := (ev'.2.2.1 p hp hpq).1
    have e20 : ∀ c, nI p * 20 + nI c = nI (20 * p + c) := fun c => by
      have : nI p * 20 + nI c = 20 * nI p + nI c := by grind
      rw [this]
      simp (disch := omega) only [pI_lit, nI_add, nI_clamp, nI_leI, nI_ltI, nI_eq, pk_mul]
    unfold f_X5_play_109 f_X5_play_263
    cases ha : rAim C (plD C p) w (bzm C i) (rB C (plD C p) w i) with
    | none =>
      rw [if_pos (show xiI (cntv C (bzm C i)) none = -1 from rfl), show (0 : Int32) = nI 0 from rfl, e20, pI_in_t (by omega) (by decide), pg_t, plet, if_pos (show xiI (cntv C (bzm C i)) none = -1 from rfl), nI_1]
      exact hno (rEv_none ha) _ _ (by rw [rNx_none ha]) (by rw [rNx_none ha]) (by rw [rNx_none ha])
    | some j =>
      obtain ⟨a1, a2', a3', a4'⟩ := rAim_lt ha
      have hcl : plD C p (caQ C (bzm C i) j) ≤ 18 := dst_le hpl (by
        have h := (hwf.2.2.2.1 _ a4').2.1
        have := hwf.1
        unfold cellok at h
        show C 6 ((vis C (bzm C i)).getD j 0) < 100
        omega)
      have hvl := cntv_lt m1 a2'
      have n1 : ¬ nI (cntv C (bzm C i) + j) = -1 := by
        have := nI_pos' (n := cntv C (bzm C i) + j) (by omega)
        grind
      have ec : μ'.1 38 (cntv C (bzm C i) + j) = nI (caQ C (bzm C i) j) := ((ev'.2.2.2.2.2.2 _ m1).2 m2).2.2.2.2 j a2'
      have hcc : caQ C (bzm C i) j < C 0 3 := a4'
      have em : μ'.1 36 i = nI (bzm C i) := by
        have := ((ev'.2.2.2.2.2.2 _ m1).2 m2).2.1
        rw [m3] at this
        exact this
      have hrE := rEv_some ha
      have hrN := rNx_some ha
      have hcv : (vis C (bzm C i)).getD j 0 = caQ C (bzm C i) j := rfl
      rw [hcv] at hrE hrN
      generalize hcdef : caQ C (bzm C i) j = c at *
      have exi : xiI (cntv C (bzm C i)) (some j) = nI (cntv C (bzm C i) + j) := rfl
      rw [exi]
      dsimp only
      rw [if_neg n1, pI_in_t (by omega) (by decide), pg_t, r2, g11, nI_clamp (by omega), ec, e20, pI_in_t (by omega) (by decide), pg_t, plet, g0, nI_clamp (by omega), hpa c hcc, if_neg n1, bars_x hwf ev'.2.2 hcc (by omega), Option.bind_some]
      by_cases k1 : rBar C (plD C p) c = true
      · have k1' : (decide (3 ≤ plD C p c) && decide (0 < nbr C 9 (C 6 c))) = true := k1
        rw [if_pos k1] at hrE hrN
        rw [if_pos k1', nI_1]
        exact hno hrE _ _ (by rw [hrN]) (by rw [hrN]) (by rw [hrN])
      have k1' : ¬ (decide (3 ≤ plD C p c) && decide (0 < nbr C 9 (C 6 c))) = true := k1
      rw [if_neg k1] at hrE hrN
      rw [if_neg k1']
      have e2 : (2 : Int32) = nI 2 := rfl
      have e1 : (1 : Int32) = nI 1 := rfl
      have hmod : nI (bzm C i) - nI (bzm C i) / 2 * 2 = nI (bzm C i % 2) := by rw [e2, nI_mod (by omega) (by decide)]
      have hhit : ¬ (w 3 = 1 ∧ bzm C i % 2 = 1) → T (f_X5_play_179 F 88 k (nI q) (nI p) a2 a3 a4 (nI (rB C (plD C p) w i).1) (nI (rB C (plD C p) w i).2.1) (nI i) (nI (cntv C (bzm C i) + j)) (nI c) (nI (plD C p c)) μ') _ := fun k2 => by
        rw [if_neg k2] at hrE hrN
        unfold f_X5_play_179
        rw [i9, pg_t, r0, hitOf_x hwf ev'.1 hq hcc (by omega) (by omega), Option.bind_some]
        have eh : (if 2 < plD C p c then C 3 q + (rB C (plD C p) w i).2.1 - (plD C p c + C 8 c) else C 3 q + (rB C (plD C p) w i).2.1 + 2 - C 8 c) = rHit C (plD C p) w c (rB C (plD C p) w i).2.1 := by
          unfold rHit
          rw [hw5]
        rw [eh, r5, cq, hown]
        have key : ∀ z : Bool, (z = true ↔ plD C p c ≤ 2) → T (f_X5_play_215 F 88 k (nI q) (nI p) a2 a3 a4 (nI (rB C (plD C p) w i).1) (nI i) (nI (cntv C (bzm C i) + j)) (nI c) z (nI (rHit C (plD C p) w c (rB C (plD C p) w i).2.1)) (sumr (oM C (plD C p) w (μ.1 18)) i) (nI q) μ') _ := fun z hz => by
          have e80 : nI q * 80 + nI i = nI (80 * q + i) := by
            have : nI q * 80 + nI i = 80 * nI q + nI i := by grind
            rw [this]
            simp (disch := omega) only [pI_lit, nI_add, nI_clamp, nI_leI, nI_ltI, nI_eq, pk_mul]
          have hval : μ'.1 18 0 * nI (rHit C (plD C p) w c (rB C (plD C p) w i).2.1) + (if z = true then μ'.1 18 1 * 2 else 0) + μ'.1 18 2 * 0 - (if nI (rHit C (plD C p) w c (rB C (plD C p) w i).2.1) < 7 then 0 else μ'.1 18 3) = oM C (plD C p) w (μ.1 18) i := by
            rw [oM_some hrE, hcdef, L18 μ' ag']
            cases z with
            | true => rw [if_pos rfl, if_pos (hz.1 rfl)]
            | false => rw [if_neg Bool.false_ne_true, if_neg (fun h => Bool.false_ne_true (hz.2 h))]
          have hu : μ'.1 93 c = nI ((rB C (plD C p) w i).2.2 c) := hused c (by omega)
          have huc := hle.2 c
          have hcr : μ'.1 90 (cntv C (bzm C i) + j) = nI (cw _ (cntv C (bzm C i) + j)) := hV'.2.1 _ (by omega)
          have em1 : nI (rB C (plD C p) w i).1 + -1 = nI ((rB C (plD C p) w i).1 - 1) := by
            have := nI_sub (a := (rB C (plD C p) w i).1) (b := 1) (by omega)
            have e1 : nI 1 = 1 := by decide
            rw [e1] at this
            rw [← this]
            grind
          unfold f_X5_play_215 f_X5_play_263
          rw [r0, marksFor_x, Option.bind_some, hval, i9, pg_t, plet, r5, cq, pI_in_t (by omega) (by decide), pg_t, pg_t, plet, r7, nI_clamp (by omega), rI_a (by decide), hu, nI_1, e80, pI_in_t (by omega) (by decide), pg_t, plet, r3, nI_clamp (by omega), pI_in_t (by omega) (by decide), pg_t, pg_t, plet, r4, nI_clamp (by omega), rI_a (by decide), rI_a (by decide), rI_a (by decide), hcr, nI_1, em1, nI_1]
          refine hk _ _ _ (by rw [hrN]) (by rw [hrN]; rfl) ?_ ((((ag'.wI (kSD_f (by omega) (by omega))).wI (kSD_f (by omega) (by omega))).wI (kSD_f (by omega) (by omega))).wI (kSD_f (by omega) (by omega))) (fun k' hk' => ?_) ?_ ?_ (fun c' hc' => ?_)
          · have hVd : ∀ q' i', ¬ (q' = q ∧ i' = i) → (if q' = q then (if i' < i + 1 then vR C (plD C p) w i' else none) else V q' i') = (if q' = q then (if i' < i then vR C (plD C p) w i' else none) else V q' i') := fun q' i' e => by
              by_cases e2 : q' = q
              · rw [if_pos e2, if_pos e2]
                by_cases e3 : i' < i
                · rw [if_pos e3, if_pos (by omega)]
                · rw [if_neg e3, if_neg (by omega)]
              · rw [if_neg e2, if_neg e2]
            have hVn : (if q = q then (if i < i + 1 then vR C (plD C p) w i else none) else V q i) = some (cntv C (bzm C i) + j) := by
              rw [if_pos rfl, if_pos (Nat.lt_succ_self _), vR_some hrE]
            have hVo : (if q = q then (if i < i then vR C (plD C p) w i else none) else V q i) = none := by
              rw [if_pos rfl, if_neg (Nat.lt_irrefl _)]
            refine hV'.chg (by omega) (by omega) hVd (fun v hv => ?_) _ (fun k' hk' => ?_) ?_ (fun v hv => ?_)
            · have hv : (if q = q then (if i < i + 1 then vR C (plD C p) w i else none) else V q i) = some v := hv
              rw [hVn] at hv
              cases hv
              omega
            · rw [rI_a (by decide), rI_k hk', rI_a (by decide), rI_a (by decide)]
            · rw [rI_a (by decide), rI_s]
              show _ = oI (if q = q then (if i < i + 1 then vR C (plD C p) w i else none) else V q i)
              rw [hVn]
              rfl
            · have hch := cw_chg (V := fun q' k => if q' = q then (if k < i then vR C (plD C p) w k else none) else V q' k) (V' := fun q' k => if q' = q then (if k < i + 1 then vR C (plD C p) w k else none) else V q' k) (q := q) (i := i) (by omega) (by omega) hVd v
              rw [hVo, hVn, if_neg (show ¬ (none : Option Nat) = some v from fun h => by cases h)] at hch
              by_cases e : v = cntv C (bzm C i) + j
              · rw [e, rI_s]
                rw [e, if_pos rfl] at hch
                refine congrArg nI ?_
                omega
              · rw [rI_k e, rI_a (by decide), rI_a (by decide), rI_a (by decide), hV'.2.1 v hv]
                rw [if_neg (fun h => e (Option.some.inj h).symm)] at hch
                refine congrArg nI ?_
                omega
          · rw [rI_a (by decide), rI_a (by decide), rI_a (by decide), rI_k hk', rI_a (by decide), rI_a (by decide), rI_a (by decide), rI_a (by decide)]
            exact oth k' hk'
          · rw [rI_a (by decide), rI_a (by decide), rI_a (by decide), rI_s]
          · rw [rI_a (by decide), rI_a (by decide), rI_a (by decide), rI_a (by decide)]
            exact hsee
          · rw [rI_a (by decide), rI_a (by decide), hrN]
            show _ = nI ((rB C (plD C p) w i).2.2 c' + (if c' = c then 1 else 0))
            by_cases e : c' = c
            · subst e
              rw [rI_s, if_pos rfl]
            · rw [rI_k e, rI_a (by decide), if_neg e, Nat.add_zero]
              exact hused c' hc'
        by_cases k3 : plD C p c ≤ 2
        · rw [if_neg (show ¬ 2 < nI (plD C p c) from nI_nlt (a := plD C p c) (b := 2) |> fun _ => by rw [e2]; exact nI_nlt (by omega) (by omega))]
          exact key true ⟨fun _ => k3, fun _ => rfl⟩
        · rw [if_pos (show 2 < nI (plD C p c) by rw [e2]; exact nI_lt (by omega) (by omega))]
          exact key false ⟨fun h => absurd h Bool.false_ne_true, fun h => absurd h k3⟩
      by_cases k4 : a4 = 1
      · rw [if_pos k4, pI_in_t (by omega) (by decide), pg_t, g9, nI_clamp (by omega)]
        show T (if μ'.1 36 i - μ'.1 36 i / 2 * 2 = 1 then _ else _) _
        rw [em, hmod]
        by_cases k5 : bzm C i % 2 = 1
        · rw [if_pos (show nI (bzm C i % 2) = 1 by rw [k5]; decide), nI_1]
          rw [if_pos ⟨h4.1 k4, k5⟩] at hrE hrN
          exact hno hrE _ _ (by rw [hrN]) (by rw [hrN]; rfl) (by rw [hrN])
        · rw [if_neg (show ¬ nI (bzm C i % 2) = 1 by rw [e1, nI_eq (by omega) (by decide)]; exact k5)]
          exact hhit (fun h => k5 h.2)
      · rw [if_neg k4]
        exact hhit (fun h => k4 (h4.2 h.1))
  · rintro _ ⟨μ', rfl, hV', ag', oth, hown, hsee, hused⟩ k
    have ev' := ev.sd ag'
    have ebusy : μ'.1 28 7 = nI (nbz C 240) := ev'.2.2.2.2.2.1
    show T (f_X5_play_52 F 88 k (nI q) (nI p) a2 a3 a4 _ _ (nI (nbz C 240)) μ') _
    unfold f_X5_play_52
    rw [r2, ebusy, if_pos (nI_le (Nat.le_refl _) (by omega)), T_some]
    exact ⟨hV', ag', oth, hown, hsee⟩
