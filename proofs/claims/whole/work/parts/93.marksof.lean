/-! marks of a sure day out of its rows -/
def gEv (T : Nat → Nat → Nat) (Dq Wq : Nat → Nat → Nat) (i q : Nat) : Option Nat := rEv T (Dq q) (Wq q) (bzm T i) (rB T (Dq q) (Wq q) i)
def gJ (T : Nat → Nat → Nat) (Dq Wq : Nat → Nat → Nat) (i c : Nat) : Nat := cnt (fun q => if (gEv T Dq Wq i q).map (caQ T (bzm T i)) = some c then 1 else 0) (T 0 2)
def mkG (T : Nat → Nat → Nat) (Dq Wq : Nat → Nat → Nat) (sn : Nat → Nat) (L : Nat → Int32) (q i : Nat) : Int32 := match gEv T Dq Wq i q with
  | none => 0
  | some j => (L 7 * nI (rHit T (Dq q) (Wq q) (caQ T (bzm T i) j) (rB T (Dq q) (Wq q) i).2.1) + (if Dq q (caQ T (bzm T i) j) ≤ 2 then 2 * L 8 else 0) + L 9 * nI (gJ T Dq Wq i (caQ T (bzm T i) j) - 1) - (if nI (rHit T (Dq q) (Wq q) (caQ T (bzm T i) j) (rB T (Dq q) (Wq q) i).2.1) < 7 then 0 else L 10)) * nI (sn q)
theorem mkG_none {T : Nat → Nat → Nat} {Dq Wq : Nat → Nat → Nat} {sn : Nat → Nat} {L : Nat → Int32} {q i : Nat} (h : gEv T Dq Wq i q = none) : mkG T Dq Wq sn L q i = 0 := by
  unfold mkG
  rw [h]
theorem mkG_some {T : Nat → Nat → Nat} {Dq Wq : Nat → Nat → Nat} {sn : Nat → Nat} {L : Nat → Int32} {q i j : Nat} (h : gEv T Dq Wq i q = some j) : mkG T Dq Wq sn L q i = (L 7 * nI (rHit T (Dq q) (Wq q) (caQ T (bzm T i) j) (rB T (Dq q) (Wq q) i).2.1) + (if Dq q (caQ T (bzm T i) j) ≤ 2 then 2 * L 8 else 0) + L 9 * nI (gJ T Dq Wq i (caQ T (bzm T i) j) - 1) - (if nI (rHit T (Dq q) (Wq q) (caQ T (bzm T i) j) (rB T (Dq q) (Wq q) i).2.1) < 7 then 0 else L 10)) * nI (sn q) := by
  unfold mkG
  rw [h]
theorem mkD_G {T P : Nat → Nat → Nat} {L : Nat → Int32} {q i : Nat} : mkD T P L q i = mkG T (rD T) (rW T P) (fun q => jsee T (T 1 q)) L q i := rfl
theorem visit_uniq {T : Nat → Nat → Nat} {i i' j j' : Nat} (hi : i < nbz T 240) (hi' : i' < nbz T 240) (hj : j < (vis T (bzm T i)).length) (hj' : j' < (vis T (bzm T i')).length) (e : cntv T (bzm T i) + j = cntv T (bzm T i') + j') : i = i' ∧ j = j' := by
  obtain ⟨-, -, m3⟩ := bzm_ix hi
  obtain ⟨-, -, m3'⟩ := bzm_ix hi'
  have mono : ∀ a b, a < b → cntv T (a + 1) ≤ cntv T b := fun a b h => by
    have := cnt_up (fun k => (vis T k).length) (a + 1) (b - (a + 1))
    have e : a + 1 + (b - (a + 1)) = b := by omega
    rw [e] at this
    exact this
  have s1 := cntv_succ T (bzm T i)
  have s2 := cntv_succ T (bzm T i')
  rcases Nat.lt_trichotomy (bzm T i) (bzm T i') with h | h | h
  · have := mono _ _ h; omega
  · rw [h] at m3 e
    exact ⟨m3.symm.trans m3', by omega⟩
  · have := mono _ _ h; omega
/-- the rows of the first n quarters: each at a place, by its numbers -/
def cfV (T : Nat → Nat → Nat) (n : Nat) (pf : Nat → Nat) (wf : Nat → Nat → Nat) : Nat → Nat → Option Nat := fun q i => if q < n then (if i < nbz T 240 then vR T (plD T (pf q)) (wf q) i else none) else none
def SDC (T : Nat → Nat → Nat) (n : Nat) (pf : Nat → Nat) (wf : Nat → Nat → Nat) (μ : aw_M) : Prop := SDr (cfV T n pf wf) μ ∧ ∀ q, q < n → μ.1 91 q = sumr (oM T (plD T (pf q)) (wf q) (μ.1 18)) (nbz T 240) ∧ μ.1 92 q = nI (jsee T (pl T (pf q)))
theorem cnt_cut {f g : Nat → Nat} {n : Nat} (h1 : ∀ k, k < n → f k = g k) (h2 : ∀ k, n ≤ k → f k = 0) : ∀ d, cnt f (n + d) = cnt g n
  | 0 => cnt_ext n h1
  | d + 1 => by
    show cnt f (n + d) + f (n + d) = _
    rw [cnt_cut h1 h2 d, h2 (n + d) (by omega)]
    rfl
theorem cw_cf {T : Nat → Nat → Nat} {pf : Nat → Nat} {wf : Nat → Nat → Nat} {i j : Nat} (hn : T 0 2 ≤ 9) (hb : nbz T 240 ≤ 80) (hi : i < nbz T 240) (hj : j < (vis T (bzm T i)).length) : cw (cfV T (T 0 2) pf wf) (cntv T (bzm T i) + j) = gJ T (fun q => plD T (pf q)) wf i (caQ T (bzm T i) j) := by
  have key : ∀ q i', q < T 0 2 → ((cfV T (T 0 2) pf wf q i' = some (cntv T (bzm T i) + j)) ↔ (i' = i ∧ gEv T (fun q => plD T (pf q)) wf i q = some j)) := fun q i' hq => by
    unfold cfV
    rw [if_pos hq]
    by_cases h : i' < nbz T 240
    · rw [if_pos h]
      cases he : rEv T (plD T (pf q)) (wf q) (bzm T i') (rB T (plD T (pf q)) (wf q) i') with
      | none =>
        rw [vR_none he]
        refine ⟨fun h => (by cases h), fun ⟨h1, h2⟩ => ?_⟩
        subst h1
        have h2 : rEv T (plD T (pf q)) (wf q) (bzm T i') (rB T (plD T (pf q)) (wf q) i') = some j := h2
        rw [he] at h2
        cases h2
      | some j' =>
        rw [vR_some he]
        have hj' := (rAim_lt (rEv_aim he)).2.1
        constructor
        · intro h3
          obtain ⟨h4, h5⟩ := visit_uniq h hi hj' hj (Option.some.inj h3)
          subst h4
          subst h5
          exact ⟨rfl, he⟩
        · rintro ⟨h1, h2⟩
          subst h1
          have h2 : rEv T (plD T (pf q)) (wf q) (bzm T i') (rB T (plD T (pf q)) (wf q) i') = some j := h2
          rw [he] at h2
          cases h2
          rfl
    · rw [if_neg h]
      exact ⟨fun h => (by cases h), fun ⟨h1, _⟩ => absurd (h1 ▸ hi) h⟩
  have hin : ∀ q, q < T 0 2 → cnt (fun i' => if cfV T (T 0 2) pf wf q i' = some (cntv T (bzm T i) + j) then 1 else 0) 80 = if (gEv T (fun q => plD T (pf q)) wf i q).map (caQ T (bzm T i)) = some (caQ T (bzm T i) j) then 1 else 0 := fun q hq => by
    rw [cnt_1 (g := fun _ => if gEv T (fun q => plD T (pf q)) wf i q = some j then 1 else 0) (b := i) (fun i' => ?_) 80, if_pos (by omega)]
    · by_cases h : gEv T (fun q => plD T (pf q)) wf i q = some j
      · rw [if_pos h, h]
        exact (if_pos rfl).symm
      · rw [if_neg h]
        cases he : gEv T (fun q => plD T (pf q)) wf i q with
        | none => exact (if_neg (fun h => by cases h)).symm
        | some j' =>
          refine (if_neg fun h2 => ?_).symm
          have h3 : caQ T (bzm T i) j' = caQ T (bzm T i) j := Option.some.inj h2
          have hj' := (rAim_lt (rEv_aim (show rEv T (plD T (pf q)) (wf q) (bzm T i) (rB T (plD T (pf q)) (wf q) i) = some j' from he))).2.1
          rw [he, vis_inj hj' hj h3] at h
          exact h rfl
    · by_cases e : i' = i
      · rw [if_pos e]
        by_cases h : gEv T (fun q => plD T (pf q)) wf i q = some j
        · rw [if_pos h, if_pos ((key q i' hq).2 ⟨e, h⟩)]
        · rw [if_neg h, if_neg (fun h2 => h ((key q i' hq).1 h2).2)]
      · rw [if_neg e, if_neg (fun h2 => e ((key q i' hq).1 h2).1)]
  unfold cw gJ
  have := cnt_cut (f := fun q => cnt (fun i' => if cfV T (T 0 2) pf wf q i' = some (cntv T (bzm T i) + j) then 1 else 0) 80) (g := fun q => if (gEv T (fun q => plD T (pf q)) wf i q).map (caQ T (bzm T i)) = some (caQ T (bzm T i) j) then 1 else 0) (n := T 0 2) hin (fun q hq => cnt_0 80 fun i' _ => by
    have hz : cfV T (T 0 2) pf wf q i' = none := if_neg (by omega)
    show (if cfV T (T 0 2) pf wf q i' = some (cntv T (bzm T i) + j) then 1 else 0) = 0
    rw [hz]
    exact if_neg (fun h => by cases h)) (9 - T 0 2)
  have e : T 0 2 + (9 - T 0 2) = 9 := by omega
  rw [e] at this
  exact this
def jO (V : Nat → Nat → Option Nat) (q i : Nat) : Int32 := match V q i with
  | none => 0
  | some v => nI (cw V v) - 1
theorem marksOf_x {F q : Nat} {T P : Nat → Nat → Nat} {pf : Nat → Nat} {wf : Nat → Nat → Nat} {L : Nat → Int32} {μ : aw_M} (hF : 200 ≤ F) (hwf : qTWF T) (ev : env T P μ) (h : SDC T (T 0 2) pf wf μ) (hq : q < T 0 2) (hL : ∀ i, i < 4 → μ.1 18 i = L (7 + i)) : f_X5_marksOf F 88 (nI q) μ = some (sumr (mkG T (fun q => plD T (pf q)) wf (fun q => jsee T (pl T (pf q))) L q) (nbz T 240), μ) := by
  have hnq := hwf.1.2.2.1
  have hnc := hwf.1.2.2.2
  have hb80 : nbz T 240 ≤ 80 := by
    have := nbz_le T 240
    have := cntv_le T 240
    omega
  obtain ⟨hV, ho⟩ := h
  obtain ⟨o1, o2⟩ := ho q hq
  have r0 : aw_rf 88 0 = 5 := by simp only [rf0, rf1, rf4, rf5, rf19, rf23, rf28, rf39, rf53, rf67, rf71, rf76, rf88, rf97, rf101, rf109, rf110, rf124, rf128, rf133, rf144, rf156, rf157, rf171, rf175, rf180, rf191, rf51]
  have r2 : aw_rf 88 2 = 28 := by simp only [rf0, rf1, rf4, rf5, rf19, rf23, rf28, rf39, rf53, rf67, rf71, rf76, rf88, rf97, rf101, rf109, rf110, rf124, rf128, rf133, rf144, rf156, rf157, rf171, rf175, rf180, rf191, rf51]
  have r3 : aw_rf 88 3 = 89 := by simp only [rf0, rf1, rf4, rf5, rf19, rf23, rf28, rf39, rf53, rf67, rf71, rf76, rf88, rf97, rf101, rf109, rf110, rf124, rf128, rf133, rf144, rf156, rf157, rf171, rf175, rf180, rf191, rf51]
  have r4 : aw_rf 88 4 = 90 := by simp only [rf0, rf1, rf4, rf5, rf19, rf23, rf28, rf39, rf53, rf67, rf71, rf76, rf88, rf97, rf101, rf109, rf110, rf124, rf128, rf133, rf144, rf156, rf157, rf171, rf175, rf180, rf191, rf51]
  have r5 : aw_rf 88 5 = 91 := by simp only [rf0, rf1, rf4, rf5, rf19, rf23, rf28, rf39, rf53, rf67, rf71, rf76, rf88, rf97, rf101, rf109, rf110, rf124, rf128, rf133, rf144, rf156, rf157, rf171, rf175, rf180, rf191, rf51]
  have r6 : aw_rf 88 6 = 92 := by simp only [rf0, rf1, rf4, rf5, rf19, rf23, rf28, rf39, rf53, rf67, rf71, rf76, rf88, rf97, rf101, rf109, rf110, rf124, rf128, rf133, rf144, rf156, rf157, rf171, rf175, rf180, rf191, rf51]
  have s17 : aw_rf 5 17 = 18 := by simp only [rf0, rf1, rf4, rf5, rf19, rf23, rf28, rf39, rf53, rf67, rf71, rf76, rf88, rf97, rf101, rf109, rf110, rf124, rf128, rf133, rf144, rf156, rf157, rf171, rf175, rf180, rf191, rf51]
  have ebusy : μ.1 28 7 = nI (nbz T 240) := ev.2.2.2.2.2.1
  have i9 : aw_in (nI q) 9 = true := pI_in_t (by omega) (by decide)
  have cq : (nI q).toNatClampNeg = q := nI_clamp (by omega)
  have i2 : aw_in 2 4 = true := by decide
  have c2 : (2 : Int32).toNatClampNeg = 2 := by decide
  -- the sum
  have hsum : ∀ n, n ≤ nbz T 240 → sumr (mkG T (fun q => plD T (pf q)) wf (fun q => jsee T (pl T (pf q))) L q) n = nI (jsee T (pl T (pf q))) * (sumr (oM T (plD T (pf q)) (wf q) (μ.1 18)) n + L 9 * sumr (jO (cfV T (T 0 2) pf wf) q) n) := fun n => by
    induction n with
    | zero => intro _; show (0 : Int32) = _ * (0 + _ * 0); grind
    | succ n ih =>
      intro hn
      show sumr _ n + mkG T (fun q => plD T (pf q)) wf (fun q => jsee T (pl T (pf q))) L q n = nI (jsee T (pl T (pf q))) * (sumr (oM T (plD T (pf q)) (wf q) (μ.1 18)) n + oM T (plD T (pf q)) (wf q) (μ.1 18) n + L 9 * (sumr (jO (cfV T (T 0 2) pf wf) q) n + jO (cfV T (T 0 2) pf wf) q n))
      rw [ih (by omega)]
      have hv : cfV T (T 0 2) pf wf q n = vR T (plD T (pf q)) (wf q) n := by
        unfold cfV
        rw [if_pos hq, if_pos (by omega)]
      cases he : rEv T (plD T (pf q)) (wf q) (bzm T n) (rB T (plD T (pf q)) (wf q) n) with
      | none =>
        have hj : jO (cfV T (T 0 2) pf wf) q n = 0 := by unfold jO; rw [hv, vR_none he]
        rw [mkG_none (show gEv T (fun q => plD T (pf q)) wf n q = none from he), oM_none he, hj]
        grind
      | some j =>
        have hjl := (rAim_lt (rEv_aim he)).2.1
        have hj : jO (cfV T (T 0 2) pf wf) q n = nI (gJ T (fun q => plD T (pf q)) wf n (caQ T (bzm T n) j)) - 1 := by
          unfold jO
          rw [hv, vR_some he]
          show nI (cw _ (cntv T (bzm T n) + j)) - 1 = _
          rw [cw_cf hnq hb80 (by omega) hjl]
        have hg1 : 1 ≤ gJ T (fun q => plD T (pf q)) wf n (caQ T (bzm T n) j) := by
          rw [← cw_cf (pf := pf) (wf := wf) hnq hb80 (show n < nbz T 240 by omega) hjl]
          exact cw_pos (q := q) (i := n) (by omega) (by omega) (by rw [hv, vR_some he])
        have hgs : nI (gJ T (fun q => plD T (pf q)) wf n (caQ T (bzm T n) j) - 1) = nI (gJ T (fun q => plD T (pf q)) wf n (caQ T (bzm T n) j)) - 1 := (nI_sub (b := 1) hg1).symm
        rw [mkG_some (show gEv T (fun q => plD T (pf q)) wf n q = some j from he), oM_some he, hj, hgs, hL 0 (by decide), hL 1 (by decide), hL 2 (by decide), hL 3 (by decide)]
        generalize nI (gJ T (fun q => plD T (pf q)) wf n (caQ T (bzm T n) j)) = g
        show nI (jsee T (pl T (pf q))) * _ + (L 7 * nI (rHit T (plD T (pf q)) (wf q) (caQ T (bzm T n) j) (rB T (plD T (pf q)) (wf q) n).2.1) + (if plD T (pf q) (caQ T (bzm T n) j) ≤ 2 then 2 * L 8 else 0) + L 9 * (g - 1) - (if nI (rHit T (plD T (pf q)) (wf q) (caQ T (bzm T n) j) (rB T (plD T (pf q)) (wf q) n).2.1) < 7 then 0 else L 10)) * nI (jsee T (pl T (pf q))) = nI (jsee T (pl T (pf q))) * (_ + (L 7 * nI (rHit T (plD T (pf q)) (wf q) (caQ T (bzm T n) j) (rB T (plD T (pf q)) (wf q) n).2.1) + (if plD T (pf q) (caQ T (bzm T n) j) ≤ 2 then L 8 * 2 else 0) + L 9 * 0 - (if nI (rHit T (plD T (pf q)) (wf q) (caQ T (bzm T n) j) (rB T (plD T (pf q)) (wf q) n).2.1) < 7 then 0 else L 10)) + L 9 * (_ + (g - 1)))
        generalize nI (rHit T (plD T (pf q)) (wf q) (caQ T (bzm T n) j) (rB T (plD T (pf q)) (wf q) n).2.1) = h
        generalize (if h < 7 then 0 else L 10) = u
        by_cases k : plD T (pf q) (caQ T (bzm T n) j) ≤ 2
        · rw [if_pos k, if_pos k]
          grind
        · rw [if_neg k, if_neg k]
          grind
  rw [hsum _ (Nat.le_refl _)]
  unfold f_X5_marksOf
  refine lp_u (fun i => (nI q, sumr (jO (cfV T (T 0 2) pf wf) q) i, nI i, μ)) (nbz T 240) rfl ?_ ?_ (by omega)
  · intro i hi k
    have e80 : nI q * 80 + nI i = nI (80 * q + i) := by
      have : nI q * 80 + nI i = 80 * nI q + nI i := by grind
      rw [this]
      simp (disch := omega) only [pI_lit, nI_add, nI_clamp, nI_leI, nI_ltI, nI_eq, pk_mul]
    show f_X5_marksOf_4 F 88 k (nI q) (sumr (jO (cfV T (T 0 2) pf wf) q) i) (nI i) μ = k (nI q, sumr (jO (cfV T (T 0 2) pf wf) q) i + jO (cfV T (T 0 2) pf wf) q i, nI (i + 1), μ)
    unfold f_X5_marksOf_4 f_X5_marksOf_46 jO
    rw [r2, ebusy, if_neg (nI_ge hi (by omega)), e80, pI_in_t (by omega) (by decide), pg_t, plet, r3, nI_clamp (by omega), hV.1 q i (by omega) (by omega), nI_1]
    cases hv : cfV T (T 0 2) pf wf q i with
    | none =>
      rw [if_pos (show oI none = -1 from rfl), i32_0]
    | some v =>
      have hv80 := hV.2.2 q i v hv
      have n1 : ¬ nI v = -1 := by
        have := nI_pos' (n := v) (by omega)
        grind
      rw [if_neg (show ¬ oI (some v) = -1 from n1), show oI (some v) = nI v from rfl, pI_in_t hv80 (by decide), pg_t, plet, r4, nI_clamp (by omega), hV.2.1 v hv80]
  · intro k
    show f_X5_marksOf_4 F 88 k (nI q) _ (nI (nbz T 240)) μ = _
    unfold f_X5_marksOf_4 f_X5_marksOf_52
    rw [r2, ebusy, if_pos (nI_le (Nat.le_refl _) (by omega)), i9, pg_t, pg_t, i2, pg_t, r6, r5, r0, s17, cq, c2, o1, o2, hL 2 (by decide)]
/-- one row played anew among those of n quarters -/
theorem playC {F q p n n' : Nat} {a2 a3 a4 : Int32} {w : Nat → Nat} {pf : Nat → Nat} {wf : Nat → Nat → Nat} {C P : Nat → Nat → Nat} {μ : aw_M} (hF : 2000 ≤ F) (hwf : qTWF C) (ev : env C P μ) (hV : SDC C n pf wf μ) (hq : q < C 0 2) (hp : p < 18) (hpq : p % 9 < C 0 2) (h2 : a2 + 1 = nI (w 1)) (hN : w 1 ≤ 100) (hE : w 2 ≤ 1000) (h3 : a3 = nI (w 2) ∨ w 1 = 0) (h4 : a4 = 1 ↔ w 3 = 1) (hw4 : w 4 = C 2 q) (hw5 : w 5 = C 3 q) (hn : (q < n ∧ n' = n) ∨ (q = n ∧ n' = n + 1)) : T (f_X5_play F 88 (nI q) (nI p) a2 a3 a4 μ) fun μ' => SDC C n' (fun k => if k = q then p else pf k) (fun k => if k = q then w else wf k) μ' ∧ AgK kSD μ μ' := by
  refine T_mono (play_x5 hF hwf ev hV.1 hq hp hpq h2 hN hE h3 h4 hw4 hw5) ?_
  rintro μ' ⟨g1, g2, g3, g4, g5⟩
  have e18 : μ'.1 18 = μ.1 18 := g2.a fun k => decide_eq_true (by omega)
  refine ⟨⟨?_, fun q' hq' => ?_⟩, g2⟩
  · have : cfV C n' (fun k => if k = q then p else pf k) (fun k => if k = q then w else wf k) = fun q' i => if q' = q then (if i < nbz C 240 then vR C (plD C p) w i else none) else cfV C n pf wf q' i := by
      funext q' i
      unfold cfV
      by_cases e : q' = q
      · rw [if_pos e, if_pos (by omega)]
        show (if i < nbz C 240 then vR C (plD C (if q' = q then p else pf q')) (if q' = q then w else wf q') i else none) = _
        rw [if_pos e, if_pos e]
      · rw [if_neg e]
        by_cases e2 : q' < n
        · rw [if_pos e2, if_pos (by omega)]
          show (if i < nbz C 240 then vR C (plD C (if q' = q then p else pf q')) (if q' = q then w else wf q') i else none) = _
          rw [if_neg e, if_neg e]
        · rw [if_neg e2, if_neg (by omega)]
    rw [this]
    exact g1
  · show μ'.1 91 q' = sumr (oM C (plD C (if q' = q then p else pf q')) (if q' = q then w else wf q') (μ'.1 18)) (nbz C 240) ∧ μ'.1 92 q' = nI (jsee C (pl C (if q' = q then p else pf q')))
    rw [e18]
    by_cases e : q' = q
    · subst e
      rw [if_pos rfl, if_pos rfl]
      exact ⟨g4, g5⟩
    · rw [if_neg e, if_neg e, (g3 q' e).1, (g3 q' e).2]
      exact hV.2 q' (by omega)
theorem standAt_x {F q n n' b : Nat} {pf : Nat → Nat} {wf : Nat → Nat → Nat} {C P : Nat → Nat → Nat} {μ : aw_M} (hF : 2000 ≤ F) (hwf : qTWF C) (pw : qPWF P (C 0 2)) (ev : env C P μ) (hV : SDC C n pf wf μ) (hq : q < C 0 2) (hb : b < 2) (hn : (q < n ∧ n' = n) ∨ (q = n ∧ n' = n + 1)) : T (f_X5_standAt F 88 (nI q) (nI b) μ) fun μ' => SDC C n' (fun k => if k = q then 9 * b + q else pf k) (fun k => if k = q then rW C P q else wf k) μ' ∧ AgK kSD μ μ' := by
  have hnq := hwf.1.2.2.1
  have r1 : aw_rf 88 1 = 19 := by simp only [rf0, rf1, rf4, rf5, rf19, rf23, rf28, rf39, rf53, rf67, rf71, rf76, rf88, rf97, rf101, rf109, rf110, rf124, rf128, rf133, rf144, rf156, rf157, rf171, rf175, rf180, rf191, rf51]
  have s1 : aw_rf 19 1 = 20 := by simp only [rf0, rf1, rf4, rf5, rf19, rf23, rf28, rf39, rf53, rf67, rf71, rf76, rf88, rf97, rf101, rf109, rf110, rf124, rf128, rf133, rf144, rf156, rf157, rf171, rf175, rf180, rf191, rf51]
  have s2 : aw_rf 19 2 = 21 := by simp only [rf0, rf1, rf4, rf5, rf19, rf23, rf28, rf39, rf53, rf67, rf71, rf76, rf88, rf97, rf101, rf109, rf110, rf124, rf128, rf133, rf144, rf156, rf157, rf171, rf175, rf180, rf191, rf51]
  have s3 : aw_rf 19 3 = 22 := by simp only [rf0, rf1, rf4, rf5, rf19, rf23, rf28, rf39, rf53, rf67, rf71, rf76, rf88, rf97, rf101, rf109, rf110, rf124, rf128, rf133, rf144, rf156, rf157, rf171, rf175, rf180, rf191, rf51]
  have i9 : aw_in (nI q) 9 = true := pI_in_t (by omega) (by decide)
  have cq : (nI q).toNatClampNeg = q := nI_clamp (by omega)
  obtain ⟨q0, q1, q2⟩ := ev.2.1.2 q (by omega)
  have q0 : μ.1 20 q = nI (P 0 q) - 1 := q0
  have q1 : μ.1 21 q = if P 0 q = 0 then -1 else nI (P 1 q) := q1
  have q2 : μ.1 22 q = if P 0 q = 0 then -1 else nI (P 2 q) := q2
  have hp := pw q
  have key : T (f_X5_standAt_15 F 88 (nI q) (nI (9 * b + q)) (nI q) μ) fun μ' => SDC C n' (fun k => if k = q then 9 * b + q else pf k) (fun k => if k = q then rW C P q else wf k) μ' ∧ AgK kSD μ μ' := by
    unfold f_X5_standAt_15
    rw [i9, pg_t, pg_t, pg_t, r1, s1, s2, s3, cq, T_bind]
    refine T_mono (playC hF hwf ev hV hq (by omega) (by omega) (a2 := μ.1 20 q) (a3 := μ.1 21 q) (a4 := μ.1 22 q) (w := rW C P q) ?_ ?_ ?_ ?_ ?_ rfl rfl hn) fun μ' h => T_some.2 h
    · rw [q0]
      show nI (P 0 q) - 1 + 1 = nI (P 0 q)
      grind
    · show P 0 q ≤ 100; omega
    · show P 1 q ≤ 1000; omega
    · show μ.1 21 q = nI (P 1 q) ∨ P 0 q = 0
      by_cases k : P 0 q = 0
      · exact .inr k
      · rw [q1, if_neg k]; exact .inl rfl
    · show μ.1 22 q = 1 ↔ P 2 q = 1
      have e1 : (1 : Int32) = nI 1 := rfl
      rw [q2]
      by_cases k : P 0 q = 0
      · rw [if_pos k]
        have := (hp.2.2.2.1 k).2
        exact ⟨fun h => absurd h (by decide), fun h => by omega⟩
      · rw [if_neg k, e1, nI_eq (by omega) (by decide)]
  unfold f_X5_standAt
  have hb' : b = 0 ∨ b = 1 := by omega
  rcases hb' with rfl | rfl
  · rw [if_neg (by decide)]
    have e : 9 * 0 + q = q := by omega
    rw [e] at key ⊢
    exact key
  · rw [if_pos (by decide), show (9 : Int32) + nI q = nI (9 * 1 + q) from nI_add 9 q]
    exact key
theorem playAll_x {F : Nat} {C P : Nat → Nat → Nat} {μ : aw_M} (hF : 2000 ≤ F) (hwf : qTWF C) (pw : qPWF P (C 0 2)) (ev : env C P μ) : T (f_X5_playAll F 88 μ) fun μ' => SDC C (C 0 2) (fun q => q) (rW C P) μ' ∧ AgK kSD μ μ' := by
  have hnq := hwf.1.2.2.1
  have r0 : aw_rf 88 0 = 5 := by simp only [rf0, rf1, rf4, rf5, rf19, rf23, rf28, rf39, rf53, rf67, rf71, rf76, rf88, rf97, rf101, rf109, rf110, rf124, rf128, rf133, rf144, rf156, rf157, rf171, rf175, rf180, rf191, rf51]
  have r3 : aw_rf 88 3 = 89 := by simp only [rf0, rf1, rf4, rf5, rf19, rf23, rf28, rf39, rf53, rf67, rf71, rf76, rf88, rf97, rf101, rf109, rf110, rf124, rf128, rf133, rf144, rf156, rf157, rf171, rf175, rf180, rf191, rf51]
  have r4 : aw_rf 88 4 = 90 := by simp only [rf0, rf1, rf4, rf5, rf19, rf23, rf28, rf39, rf53, rf67, rf71, rf76, rf88, rf97, rf101, rf109, rf110, rf124, rf128, rf133, rf144, rf156, rf157, rf171, rf175, rf180, rf191, rf51]
  unfold f_X5_playAll
  rw [r3, fil_wr (n := 720) (by omega) (by decide) (by decide), Option.bind_some, r4, fil_wr (n := 80) (by omega) (by decide) (by decide), Option.bind_some, rA_a (by decide)]
  generalize hμ1 : aset (aset μ 89 (wr (μ.1 89) 0 720 (fun _ => -1))) 90 (wr (μ.1 90) 0 80 (fun _ => 0)) = μ1
  have ag1 : AgK kSD μ μ1 := by
    rw [← hμ1]
    exact ((AgK.rf μ).wA (fun k h => by rw [kSD_f (by omega) (by omega)] at h; cases h)).wA (fun k h => by rw [kSD_f (by omega) (by omega)] at h; cases h)
  have h0 : SDC C 0 (fun q => q) (rW C P) μ1 := by
    have hcf : ∀ q i, cfV C 0 (fun q => q) (rW C P) q i = none := fun q i => if_neg (Nat.not_lt_zero _)
    refine ⟨⟨fun q i hq hi => ?_, fun v hv => ?_, fun q i v h => ?_⟩, fun q hq => absurd hq (Nat.not_lt_zero _)⟩
    · rw [← hμ1, rA_a (by decide), rA_s, wr0 (by omega), hcf]
      rfl
    · rw [← hμ1, rA_s, wr0 hv]
      have : cw (cfV C 0 (fun q => q) (rW C P)) v = 0 := cnt_0 9 fun q _ => cnt_0 80 fun i _ => by rw [hcf, if_neg (fun h => by cases h)]
      rw [this]
      rfl
    · rw [hcf] at h
      cases h
  clear hμ1
  refine T_lp (fun i s => ∃ μ', s = (nI i, μ') ∧ SDC C i (fun q => q) (rW C P) μ' ∧ AgK kSD μ μ') (C 0 2) (by omega) ⟨μ1, rfl, h0, ag1⟩ ?_ ?_
  · rintro i hi _ ⟨μ', rfl, h', ag'⟩ k hk
    have ev' := ev.sd ag'
    show T (f_X5_playAll_18 F 88 k (nI i) μ') _
    unfold f_X5_playAll_18
    rw [r0, show μ'.1 5 3 = nI (C 0 2) from ev'.1.1.2.2.1, if_neg (nI_ge hi (by omega)), nI_1]
    refine T_call (standAt_x (b := 0) (n' := i + 1) hF hwf pw ev' h' hi (by decide) (.inr ⟨rfl, rfl⟩)) ?_
    rintro μ2 ⟨g1, g2⟩
    refine hk _ ⟨μ2, rfl, ?_, ag'.tr g2⟩
    have e1 : (fun k => if k = i then 9 * 0 + i else k) = fun q => q := by
      funext k
      by_cases e : k = i
      · rw [if_pos e]; omega
      · rw [if_neg e]
    have e2 : (fun k => if k = i then rW C P i else rW C P k) = rW C P := by
      funext k
      by_cases e : k = i
      · rw [if_pos e, e]
      · rw [if_neg e]
    rw [e1, e2] at g1
    exact g1
  · rintro _ ⟨μ', rfl, h', ag'⟩ k
    have ev' := ev.sd ag'
    show T (f_X5_playAll_18 F 88 k (nI (C 0 2)) μ') _
    unfold f_X5_playAll_18
    rw [r0, show μ'.1 5 3 = nI (C 0 2) from ev'.1.1.2.2.1, if_pos (nI_le (Nat.le_refl _) (by omega)), T_some]
    exact ⟨h', ag'⟩
