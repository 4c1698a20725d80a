def kV (g a k : Nat) : Bool := decide (¬ (g + 7 ≤ a ∧ a ≤ g + 10) ∧ (a ≠ g ∨ k ≠ 7))
theorem kV_qTX {C : Nat → Nat → Nat} {μ μ' : aw_M} {t g : Nat} (h : AgK (kV g) μ μ') (hl : t + 13 < g) (tx : qTX C μ t) : qTX C μ' t := qTX_ag (fun a _ h2 => h.a fun k => decide_eq_true (by omega)) tx
theorem isThere_x {F g : Nat} {C : Nat → Nat → Nat} {c m : Nat} {μ : aw_M} (h5 : C 5 c < 240) (hm : m < 240) : f_X1_isThere F g (nI (C 5 c)) (nI m) μ = some (ther C c m, μ) := by
  unfold f_X1_isThere ther
  rw [show nI (C 5 c) + 4 = nI (C 5 c + 4) from nI_add _ 4]
  by_cases h1 : m < C 5 c
  · rw [if_pos (nI_lt h1 (by omega)), decide_eq_false (show ¬ C 5 c ≤ m by omega)]
    rfl
  · rw [if_neg (nI_nlt (by omega) (by omega)), decide_eq_true (show C 5 c ≤ m by omega)]
    by_cases h2 : m < C 5 c + 4
    · rw [if_neg (nI_ge h2 (by omega)), if_neg (show ¬ (240 : Int32) ≤ nI m from (show ¬ nI 240 ≤ nI m from nI_ge hm (by decide))), decide_eq_true h2, decide_eq_true hm]
      rfl
    · rw [if_pos (nI_le (by omega) (by omega)), decide_eq_false h2]
      rfl
def visN (C : Nat → Nat → Nat) (m n : Nat) : List Nat := (List.range n).filter (fun c => ther C c m)
theorem visN_s (C : Nat → Nat → Nat) (m n : Nat) : visN C m (n + 1) = if ther C n m = true then visN C m n ++ [n] else visN C m n := by
  unfold visN
  rw [List.range_succ, List.filter_append]
  by_cases h : ther C n m = true
  · simp [h]
  · simp [h]
theorem visN_le (C : Nat → Nat → Nat) (m n : Nat) : ∀ d, (visN C m n).length ≤ (visN C m (n + d)).length
  | 0 => Nat.le_refl _
  | d + 1 => by
    have ih := visN_le C m n d
    rw [← Nat.add_assoc, visN_s]
    split
    · rw [List.length_append]; omega
    · exact ih
theorem nbz_sb (C : Nat → Nat → Nat) (m : Nat) : nbz C (m + 1) = nbz C m + bN (!(vis C m).isEmpty) := rfl
theorem nbz_mono (C : Nat → Nat → Nat) (m : Nat) : ∀ d, nbz C m ≤ nbz C (m + d)
  | 0 => Nat.le_refl _
  | d + 1 => by
    have ih := nbz_mono C m d
    rw [← Nat.add_assoc, nbz_sb]
    omega
theorem cntv_mono (C : Nat → Nat → Nat) (m : Nat) : ∀ d, cntv C m ≤ cntv C (m + d)
  | 0 => Nat.le_refl _
  | d + 1 => by
    have ih := cntv_mono C m d
    rw [← Nat.add_assoc, cntv_succ]
    omega
/-- the minutes before m lie as they must -/
def qVis (C : Nat → Nat → Nat) (n : Nat) (g7 g8 g9 g10 : Nat → Int32) : Prop := (∀ m, m < n → (vis C m = [] → g7 m = -1) ∧ (vis C m ≠ [] → g7 m = nI (nbz C m) ∧ g8 (nbz C m) = nI m ∧ g9 (nbz C m) = nI (cntv C m) ∧ g9 (nbz C m + 1) = nI (cntv C (m + 1)) ∧ ∀ j, j < (vis C m).length → g10 (cntv C m + j) = nI ((vis C m).getD j 0))) ∧ (0 < nbz C n → g9 (nbz C n) = nI (cntv C n))
theorem qVis_0 {C : Nat → Nat → Nat} {n : Nat} {g7 g8 g9 g10 g7' g10' : Nat → Int32} (h : qVis C n g7 g8 g9 g10) (hv : vis C n = []) (h7 : ∀ i, i ≠ n → g7' i = g7 i) (h7n : g7' n = -1) (h10 : ∀ i, i < cntv C n → g10' i = g10 i) : qVis C (n + 1) g7' g8 g9 g10' := by
  have eb : nbz C (n + 1) = nbz C n := by rw [nbz_sb, hv]; rfl
  have ec : cntv C (n + 1) = cntv C n := by rw [cntv_succ, hv]; rfl
  refine ⟨fun m hm => ?_, by rw [eb, ec]; exact h.2⟩
  by_cases e : m = n
  · subst e
    exact ⟨fun _ => h7n, fun h2 => absurd hv h2⟩
  · obtain ⟨a1, a2⟩ := h.1 m (by omega)
    refine ⟨fun h2 => by rw [h7 m e]; exact a1 h2, fun h2 => ?_⟩
    obtain ⟨b1, b2, b3, b4, b5⟩ := a2 h2
    refine ⟨by rw [h7 m e]; exact b1, b2, b3, b4, fun j hj => ?_⟩
    have := cntv_mono C (m + 1) (n - (m + 1))
    rw [show m + 1 + (n - (m + 1)) = n by omega, cntv_succ] at this
    rw [h10 _ (by omega)]
    exact b5 j hj
theorem qVis_1 {C : Nat → Nat → Nat} {n : Nat} {g7 g8 g9 g10 g7' g8' g9' g10' : Nat → Int32} (h : qVis C n g7 g8 g9 g10) (hv : vis C n ≠ []) (h7 : ∀ i, i ≠ n → g7' i = g7 i) (h7n : g7' n = nI (nbz C n)) (h8 : ∀ i, i ≠ nbz C n → g8' i = g8 i) (h8n : g8' (nbz C n) = nI n) (h9 : ∀ i, i < nbz C n → g9' i = g9 i) (h9n : g9' (nbz C n) = nI (cntv C n)) (h9s : g9' (nbz C n + 1) = nI (cntv C (n + 1))) (h10 : ∀ i, i < cntv C n → g10' i = g10 i) (h10n : ∀ j, j < (vis C n).length → g10' (cntv C n + j) = nI ((vis C n).getD j 0)) : qVis C (n + 1) g7' g8' g9' g10' := by
  have be : ∀ m, vis C m ≠ [] → nbz C (m + 1) = nbz C m + 1 := fun m hm => by
    rw [nbz_sb]
    cases e : vis C m with
    | nil => exact absurd e hm
    | cons a l => rfl
  refine ⟨fun m hm => ?_, fun _ => by rw [be n hv]; exact h9s⟩
  by_cases e : m = n
  · subst e
    exact ⟨fun h2 => absurd h2 hv, fun _ => ⟨h7n, h8n, h9n, h9s, h10n⟩⟩
  · obtain ⟨a1, a2⟩ := h.1 m (by omega)
    refine ⟨fun h2 => by rw [h7 m e]; exact a1 h2, fun h2 => ?_⟩
    obtain ⟨b1, b2, b3, b4, b5⟩ := a2 h2
    have q1 := cntv_mono C (m + 1) (n - (m + 1))
    rw [show m + 1 + (n - (m + 1)) = n by omega, cntv_succ] at q1
    have q2 := nbz_mono C (m + 1) (n - (m + 1))
    rw [show m + 1 + (n - (m + 1)) = n by omega, be m h2] at q2
    refine ⟨by rw [h7 m e]; exact b1, by rw [h8 _ (by omega)]; exact b2, by rw [h9 _ (by omega)]; exact b3, ?_, fun j hj => by rw [h10 _ (by omega)]; exact b5 j hj⟩
    by_cases e2 : nbz C m + 1 = nbz C n
    · rw [e2, h9n, ← h.2 (by omega), ← e2]
      exact b4
    · rw [h9 _ (by omega)]
      exact b4
theorem visits_x {F t g : Nat} {C : Nat → Nat → Nat} {μ : aw_M} (hF : 300 ≤ F) (hwf : qTWF C) (rt : tRf t) (rg : gRf g) (hg : g = t + 23) (tx : qTX C μ t) : T (f_X1_deriveVisits F g t μ) fun μ' => AgK (kV g) μ μ' ∧ μ'.1 g 7 = nI (nbz C 240) ∧ qVis C 240 (μ'.1 (g + 7)) (μ'.1 (g + 8)) (μ'.1 (g + 9)) (μ'.1 (g + 10)) := by
  have n20 : C 0 3 ≤ 20 := hwf.1.2.2.2
  unfold f_X1_deriveVisits
  rw [plet]
  refine T_lp (fun m s => ∃ μ', s = (nI (cntv C m), nI m, μ') ∧ AgK (kV g) μ μ' ∧ μ'.1 g 7 = nI (nbz C m) ∧ qVis C m (μ'.1 (g + 7)) (μ'.1 (g + 8)) (μ'.1 (g + 9)) (μ'.1 (g + 10))) 240 (by omega) ⟨_, rfl, (AgK.rf μ).wI (decide_eq_false (by omega)), rI_s, fun m hm => absurd hm (Nat.not_lt_zero _), fun h => absurd h (Nat.lt_irrefl _)⟩ ?_ ?_
  · rintro m hm _ ⟨μ1, rfl, ag1, d1, d2⟩ k hk
    have cs := cntv_succ C m
    have cl := cntv_le C (m + 1)
    have vl : (visN C m (C 0 3)).length = (vis C m).length := rfl
    show T (f_X1_deriveVisits_9 F g t k (nI (cntv C m)) (nI m) μ1) _
    unfold f_X1_deriveVisits_9
    rw [if_neg (show ¬ (240 : Int32) ≤ nI m from (show ¬ nI 240 ≤ nI m from nI_ge hm (by decide)))]
    refine T_lp (fun j s => ∃ μ', s = (nI (cntv C m + (visN C m j).length), nI m, nI (cntv C m), nI j, μ') ∧ AgK (kV g) μ μ' ∧ μ'.1 g = μ1.1 g ∧ μ'.1 (g + 7) = μ1.1 (g + 7) ∧ μ'.1 (g + 8) = μ1.1 (g + 8) ∧ μ'.1 (g + 9) = μ1.1 (g + 9) ∧ (∀ i, i < cntv C m → μ'.1 (g + 10) i = μ1.1 (g + 10) i) ∧ ∀ i, i < (visN C m j).length → μ'.1 (g + 10) (cntv C m + i) = nI ((visN C m j).getD i 0)) (C 0 3) (by omega) ⟨μ1, rfl, ag1, rfl, rfl, rfl, rfl, fun _ _ => rfl, fun i hi => absurd hi (Nat.not_lt_zero _)⟩ ?_ ?_
    · rintro j hj _ ⟨μ', rfl, ag, g0, g7, g8, g9, g10, g11⟩ k2 hk2
      have tx' := kV_qTX ag (by omega) tx
      have e4 : μ'.1 t 4 = nI (C 0 3) := tx'.1.2.2.2
      have e5 : μ'.1 (t + 6) j = nI (C 5 j) := (tx'.2.2.2.1 j hj).1
      have h5 : C 5 j < 240 := (hwf.2.2.2.1 j hj).1
      have es := visN_s C m j
      show T (f_X1_deriveVisits_22 F g t k2 k (nI (cntv C m + (visN C m j).length)) (nI m) (nI (cntv C m)) (nI j) μ') _
      unfold f_X1_deriveVisits_22 f_X1_deriveVisits_63
      rw [e4, if_neg (nI_ge hj (by omega)), pI_in_t (by omega) (by decide), pg_t, rt.2.2.2.2.2.1, nI_clamp (by omega), e5, isThere_x h5 hm, Option.bind_some]
      dsimp only
      rw [nI_1]
      by_cases ht : ther C j m = true
      · rw [if_pos ht] at es
        have hl := visN_le C m (j + 1) (C 0 3 - (j + 1))
        rw [show j + 1 + (C 0 3 - (j + 1)) = C 0 3 by omega, vl, es, List.length_append] at hl
        have hl : (visN C m j).length + 1 ≤ (vis C m).length := hl
        rw [if_pos ht, if_neg (show ¬ (80 : Int32) ≤ nI (cntv C m + (visN C m j).length) from (show ¬ nI 80 ≤ nI _ from nI_ge (by omega) (by decide))), pI_in_t (by omega) (by decide), pg_t, rg.2.2.2.2.2.2.2.2.2, nI_clamp (by omega), plet, nI_1]
        refine hk2 _ ⟨_, by rw [es, List.length_append]; rfl, ag.wI (decide_eq_false (by omega)), by rw [rI_a (by omega)]; exact g0, by rw [rI_a (by omega)]; exact g7, by rw [rI_a (by omega)]; exact g8, by rw [rI_a (by omega)]; exact g9, fun i hi => by rw [rI_k (by omega)]; exact g10 i hi, fun i hi => ?_⟩
        by_cases e : i = (visN C m j).length
        · rw [e, rI_s, es, List.getD_eq_getElem?_getD, List.getElem?_append_right (Nat.le_refl _), Nat.sub_self]
          rfl
        · rw [es, List.length_append] at hi
          have hi : i < (visN C m j).length := by have hi : i < (visN C m j).length + 1 := hi; omega
          rw [rI_k (by omega), g11 i hi, es, List.getD_eq_getElem?_getD, List.getD_eq_getElem?_getD, List.getElem?_append_left hi]
      · rw [if_neg ht] at es
        rw [if_neg ht]
        exact hk2 _ ⟨μ', by rw [es], ag, g0, g7, g8, g9, g10, by rw [es]; exact g11⟩
    · rintro _ ⟨μ', rfl, ag, g0, g7, g8, g9, g10, g11⟩ k2
      have tx' := kV_qTX ag (by omega) tx
      have e4 : μ'.1 t 4 = nI (C 0 3) := tx'.1.2.2.2
      have g11 : ∀ i, i < (vis C m).length → μ'.1 (g + 10) (cntv C m + i) = nI ((vis C m).getD i 0) := g11
      rw [vl, ← cs]
      have e7 : μ'.1 g 7 = nI (nbz C m) := by rw [g0]; exact d1
      have c80 : cntv C m + (vis C m).length ≤ 80 := by omega
      have nbl := nbz_le C (m + 1)
      show T (f_X1_deriveVisits_22 F g t k2 k (nI (cntv C (m + 1))) (nI m) (nI (cntv C m)) (nI (C 0 3)) μ') _
      unfold f_X1_deriveVisits_22 f_X1_deriveVisits_69 f_X1_deriveVisits_142
      rw [e4, if_pos (nI_le (Nat.le_refl _) (by omega)), pI_in_t hm (by decide), pg_t, rg.2.2.2.2.2.2.1, nI_clamp (by omega), plet, nI_1]
      rw [rI_a (by omega), e7]
      by_cases hv : vis C m = []
      · have ec : cntv C (m + 1) = cntv C m := by rw [cntv_succ, hv]; rfl
        have eb : nbz C (m + 1) = nbz C m := by rw [nbz_sb, hv]; rfl
        rw [if_pos (nI_le (by omega) (by omega))]
        refine hk _ ⟨_, rfl, ag.wI (decide_eq_false (by omega)), by rw [rI_a (by omega), e7, eb], ?_⟩
        rw [rI_a (show g + 8 ≠ g + 7 by omega), rI_a (show g + 9 ≠ g + 7 by omega), rI_a (show g + 10 ≠ g + 7 by omega), g8, g9]
        exact qVis_0 d2 hv (fun i hi => by rw [rI_k hi, g7]) rI_s g10
      · have hne : 0 < (vis C m).length := List.length_pos_iff.2 hv
        have eb : nbz C (m + 1) = nbz C m + 1 := by
          rw [nbz_sb]
          cases e : vis C m with
          | nil => exact absurd e hv
          | cons a l => rfl
        have e71 : ∀ v w : Int32, (aw_wI (aw_wI μ' (g + 7) m v) (g + 7) m w).1 g 7 = nI (nbz C m) := fun v w => by rw [rI_a (by omega), rI_a (by omega)]; exact e7
        have c1 : ¬ nI (cntv C (m + 1)) ≤ nI (cntv C m) := nI_ge (by omega) (by omega)
        have c2 : ¬ (80 : Int32) ≤ nI (nbz C m) := (show ¬ nI 80 ≤ nI (nbz C m) from nI_ge (by omega) (by decide))
        rw [if_neg c1, if_neg c2, pg_t, plet, e71, pI_in_t (show nbz C m < 80 by omega) (by decide), pg_t, rg.2.2.2.2.2.2.2.1, nI_clamp (by omega), plet, rI_a (show g ≠ g + 8 by omega), e71, pI_in_t (show nbz C m < 81 by omega) (by decide), pg_t, rg.2.2.2.2.2.2.2.2.1, nI_clamp (by omega), plet, plet, rI_a (show g ≠ g + 9 by omega), rI_a (show g ≠ g + 8 by omega), e71, nI_1, rI_s, pI_in_t (show nbz C m + 1 < 81 by omega) (by decide), pg_t, nI_clamp (by omega), plet]
        refine hk _ ⟨_, rfl, ((((((ag.wI (decide_eq_false (by omega))).wI (decide_eq_false (by omega))).wI (decide_eq_false (by omega))).wI (decide_eq_false (by omega))).wI (decide_eq_false (by omega))).wI (decide_eq_false (by omega))), ?_, ?_⟩
        · rw [rI_a (by omega), rI_s, eb]
        · refine qVis_1 d2 hv (fun i hi => ?_) ?_ (fun i hi => ?_) ?_ (fun i hi => ?_) ?_ ?_ (fun i hi => ?_) (fun j hj => ?_)
          · rw [rI_a (by omega), rI_a (by omega), rI_a (by omega), rI_a (by omega), rI_k hi, rI_k hi, g7]
          · rw [rI_a (by omega), rI_a (by omega), rI_a (by omega), rI_a (by omega), rI_s]
          · rw [rI_a (by omega), rI_a (by omega), rI_a (by omega), rI_k hi, rI_a (by omega), rI_a (by omega), g8]
          · rw [rI_a (by omega), rI_a (by omega), rI_a (by omega), rI_s]
          · rw [rI_k (by omega), rI_a (by omega), rI_k (by omega), rI_a (by omega), rI_a (by omega), rI_a (by omega), g9]
          · rw [rI_k (by omega), rI_a (by omega), rI_s]
          · rw [rI_s]
          · rw [rI_a (by omega), rI_a (by omega), rI_a (by omega), rI_a (by omega), rI_a (by omega), rI_a (by omega)]
            exact g10 i hi
          · rw [rI_a (by omega), rI_a (by omega), rI_a (by omega), rI_a (by omega), rI_a (by omega), rI_a (by omega)]
            exact g11 j hj
  · rintro _ ⟨μ', rfl, ag, d1, d2⟩ k
    show T (f_X1_deriveVisits_9 F g t k (nI (cntv C 240)) (nI 240) μ') _
    unfold f_X1_deriveVisits_9
    rw [if_pos (show (240 : Int32) ≤ nI 240 by decide), T_some]
    exact ⟨ag, d1, d2⟩
