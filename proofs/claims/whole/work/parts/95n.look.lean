/-! laws that rows tell -/
abbrev lw (B : Nat → Nat) (v : Int32) (r : Nat) : Prop :=
  ((((v / 1000) * nI (B (5 * r))) + ((((v / 100) - (v / 100) / 10 * 10) * 2) * nI (B (5 * r + 1)))) + (((v / 10) - (v / 10) / 10 * 10) * nI (B (5 * r + 2)))) - ((v - v / 10 * 10) * nI (B (5 * r + 3))) = nI (B (5 * r + 4)) - 100
abbrev lws (B : Nat → Nat) (n : Nat) (v : Int32) : Prop := ∀ r, r < n → lw B v r
def rwOK (B : Nat → Nat) (n : Nat) : Prop := 5 ≤ n ∧ n ≤ 60 ∧ n % 5 = 0 ∧ ∀ r, r < n / 5 → B (5 * r) ≤ 20 ∧ B (5 * r + 1) ≤ 1 ∧ B (5 * r + 2) ≤ 8 ∧ B (5 * r + 3) ≤ 1
def tpX (B : Nat → Nat) (n : Nat) (μ : aw_M) : Prop := ∀ i, i < n → B i < 256 ∧ μ.1 2 i = nI (B i)
def tpM (B : Nat → Nat) (n : Nat) (μ : aw_M) : Prop := ∀ i, i < n → B i < 256 ∧ μ.1 204 i = (nI (B i)).toInt8.toInt32
theorem le_lit {a : Nat} {b : Nat} (ha : a < 256) (hb : b < 256) : ¬ (nI b < nI a) ↔ a ≤ b := by
  constructor
  · intro h
    by_cases e : a ≤ b
    · exact e
    · exact absurd (nI_lt (by omega) (by omega)) h
  · intro h
    exact nI_nlt h (by omega)
theorem areRows_x {F n : Nat} {B : Nat → Nat} {μ : aw_M} (hF : 100 ≤ F) (hn : n ≤ 940) (e1 : μ.1 1 1 = nI n) (hB : tpX B n μ) : T (f_X7_areRows F 1 μ) fun r => r.2 = μ ∧ (r.1 = true ↔ rwOK B n) := by
  have r2 : aw_rf 1 0 = 2 := by simp only [rf0, rf1, rf4, rf5, rf19, rf23, rf28, rf39, rf53, rf67, rf71, rf76, rf88, rf97, rf101, rf109, rf110, rf124, rf128, rf133, rf144, rf156, rf157, rf171, rf175, rf180, rf191, rf51]
  have hmod : nI n - nI n / 5 * 5 = nI (n % 5) := by rw [show (5 : Int32) = nI 5 from rfl, nI_mod (by omega) (by decide)]
  unfold f_X7_areRows
  rw [e1, hmod]
  by_cases h1 : n < 5
  · rw [if_pos (show nI n < (5 : Int32) from (show nI n < nI 5 from nI_lt h1 (by decide))), T_some]
    exact ⟨rfl, fun h => absurd h Bool.false_ne_true, fun h => absurd h.1 (by omega)⟩
  rw [if_neg (show ¬ (nI n < (5 : Int32)) from (show ¬ (nI n < nI 5) from nI_nlt (by omega) (by omega)))]
  by_cases h2 : 60 < n
  · rw [if_pos (show (60 : Int32) < nI n from (show nI 60 < nI n from nI_lt h2 (by omega))), T_some]
    exact ⟨rfl, fun h => absurd h Bool.false_ne_true, fun h => absurd h.2.1 (by omega)⟩
  rw [if_neg (show ¬ ((60 : Int32) < nI n) from (show ¬ (nI 60 < nI n) from nI_nlt (by omega) (by omega)))]
  by_cases h3 : n % 5 = 0
  · rw [if_pos (by rw [h3]; rfl)]
    refine T_lp (fun r s => s = (nI (5 * r), μ) ∧ ∀ r', r' < r → B (5 * r') ≤ 20 ∧ B (5 * r' + 1) ≤ 1 ∧ B (5 * r' + 2) ≤ 8 ∧ B (5 * r' + 3) ≤ 1) (n / 5) (by omega) ⟨rfl, fun r' h => absurd h (Nat.not_lt_zero _)⟩ ?_ ?_
    · rintro r hr _ ⟨rfl, h⟩ k hk
      obtain ⟨a1, a2⟩ := hB (5 * r) (by omega)
      obtain ⟨b1, b2⟩ := hB (5 * r + 1) (by omega)
      obtain ⟨c1, c2⟩ := hB (5 * r + 2) (by omega)
      obtain ⟨d1, d2⟩ := hB (5 * r + 3) (by omega)
      have x2 : nI (5 * r) + 2 = nI (5 * r + 2) := nI_add (5 * r) 2
      have x3 : nI (5 * r) + 3 = nI (5 * r + 3) := nI_add (5 * r) 3
      have x5 : nI (5 * r) + 5 = nI (5 * (r + 1)) := nI_add (5 * r) 5
      show T (f_X7_areRows_35 F 1 k (nI (5 * r)) μ) _
      unfold f_X7_areRows_35
      have bad : ¬ (B (5 * r) ≤ 20 ∧ B (5 * r + 1) ≤ 1 ∧ B (5 * r + 2) ≤ 8 ∧ B (5 * r + 3) ≤ 1) → T (some (false, μ)) fun r => r.2 = μ ∧ (r.1 = true ↔ rwOK B n) := fun hb => ⟨_, rfl, rfl, fun h => absurd h Bool.false_ne_true, fun h => absurd (h.2.2.2 r hr) hb⟩
      rw [e1, if_neg (nI_ge (by omega) (by omega)), nI_1, x2, x3, x5, r2, pI_in_t (by omega) (by decide), pg_t, nI_clamp (by omega), a2]
      by_cases q1 : B (5 * r) ≤ 20
      · rw [if_neg (show ¬ ((20 : Int32) < nI (B (5 * r))) from (le_lit (b := 20) a1 (by decide)).2 q1), pI_in_t (by omega) (by decide), pg_t, nI_clamp (by omega), b2]
        by_cases q2 : B (5 * r + 1) ≤ 1
        · rw [if_neg (show ¬ ((1 : Int32) < nI (B (5 * r + 1))) from (le_lit (b := 1) b1 (by decide)).2 q2), pI_in_t (by omega) (by decide), pg_t, nI_clamp (by omega), c2]
          by_cases q3 : B (5 * r + 2) ≤ 8
          · rw [if_neg (show ¬ ((8 : Int32) < nI (B (5 * r + 2))) from (le_lit (b := 8) c1 (by decide)).2 q3), pI_in_t (by omega) (by decide), pg_t, nI_clamp (by omega), d2]
            by_cases q4 : B (5 * r + 3) ≤ 1
            · rw [if_pos (show nI (B (5 * r + 3)) ≤ (1 : Int32) from (show nI (B (5 * r + 3)) ≤ nI 1 from nI_le q4 (by decide)))]
              refine hk _ ⟨rfl, fun r' hr' => ?_⟩
              by_cases e : r' = r
              · rw [e]; exact ⟨q1, q2, q3, q4⟩
              · exact h r' (by omega)
            · rw [if_neg (show ¬ (nI (B (5 * r + 3)) ≤ (1 : Int32)) from (show ¬ (nI (B (5 * r + 3)) ≤ nI 1) from nI_ge (by omega) (by omega)))]
              exact bad fun h => q4 h.2.2.2
          · rw [if_pos (show (8 : Int32) < nI (B (5 * r + 2)) from (show nI 8 < nI (B (5 * r + 2)) from nI_lt (by omega) (by omega)))]
            exact bad fun h => q3 h.2.2.1
        · rw [if_pos (show (1 : Int32) < nI (B (5 * r + 1)) from (show nI 1 < nI (B (5 * r + 1)) from nI_lt (by omega) (by omega)))]
          exact bad fun h => q2 h.2.1
      · rw [if_pos (show (20 : Int32) < nI (B (5 * r)) from (show nI 20 < nI (B (5 * r)) from nI_lt (by omega) (by omega)))]
        exact bad fun h => q1 h.1
    · rintro _ ⟨rfl, h⟩ k
      have e : 5 * (n / 5) = n := by omega
      show T (f_X7_areRows_35 F 1 k (nI (5 * (n / 5))) μ) _
      unfold f_X7_areRows_35
      rw [e, e1, if_pos (nI_le (Nat.le_refl _) (by omega)), T_some]
      exact ⟨rfl, fun _ => ⟨by omega, by omega, h3, h⟩, fun _ => rfl⟩
  · rw [if_neg (nI_ne0 (by omega) (by omega)), T_some]
    exact ⟨rfl, fun h => absurd h Bool.false_ne_true, fun h => absurd h.2.2.1 h3⟩
theorem tells_x {F n : Nat} {v : Int32} {B : Nat → Nat} {μ : aw_M} (hF : 100 ≤ F) (hn : n ≤ 60) (h5 : n % 5 = 0) (e1 : μ.1 1 1 = nI n) (hB : tpX B n μ) : T (f_X7_tellsRows F 1 v μ) fun r => r.2 = μ ∧ (r.1 = true ↔ lws B (n / 5) v) := by
  have r2 : aw_rf 1 0 = 2 := by simp only [rf0, rf1, rf4, rf5, rf19, rf23, rf28, rf39, rf53, rf67, rf71, rf76, rf88, rf97, rf101, rf109, rf110, rf124, rf128, rf133, rf144, rf156, rf157, rf171, rf175, rf180, rf191, rf51]
  unfold f_X7_tellsRows
  rw [plet, plet, plet, plet]
  refine T_lp (fun r s => s = (v / 1000, (v / 100) - (v / 100) / 10 * 10, (v / 10) - (v / 10) / 10 * 10, v - v / 10 * 10, nI (5 * r), μ) ∧ lws B r v) (n / 5) (by omega) ⟨rfl, fun r' h => absurd h (Nat.not_lt_zero _)⟩ ?_ ?_
  · rintro r hr _ ⟨rfl, h⟩ k hk
    obtain ⟨a1, a2⟩ := hB (5 * r) (by omega)
    obtain ⟨b1, b2⟩ := hB (5 * r + 1) (by omega)
    obtain ⟨c1, c2⟩ := hB (5 * r + 2) (by omega)
    obtain ⟨d1, d2⟩ := hB (5 * r + 3) (by omega)
    obtain ⟨g1, g2⟩ := hB (5 * r + 4) (by omega)
    have x2 : nI (5 * r) + 2 = nI (5 * r + 2) := nI_add (5 * r) 2
    have x3 : nI (5 * r) + 3 = nI (5 * r + 3) := nI_add (5 * r) 3
    have x4 : nI (5 * r) + 4 = nI (5 * r + 4) := nI_add (5 * r) 4
    have x5 : nI (5 * r) + 5 = nI (5 * (r + 1)) := nI_add (5 * r) 5
    show T (f_X7_tellsRows_38 F 1 k _ _ _ _ (nI (5 * r)) μ) _
    unfold f_X7_tellsRows_38
    rw [e1, if_neg (nI_ge (by omega) (by omega)), nI_1, x2, x3, x4, x5, r2, pI_in_t (by omega) (by decide), pg_t, pI_in_t (by omega) (by decide), pg_t, pI_in_t (by omega) (by decide), pg_t, pI_in_t (by omega) (by decide), pg_t, plet, pI_in_t (by omega) (by decide), pg_t, nI_clamp (by omega), nI_clamp (by omega), nI_clamp (by omega), nI_clamp (by omega), nI_clamp (by omega), a2, b2, c2, d2, g2]
    by_cases q : lw B v r
    · rw [if_pos (show _ = _ from q)]
      refine hk _ ⟨rfl, fun r' hr' => ?_⟩
      by_cases e : r' = r
      · rw [e]; exact q
      · exact h r' (by omega)
    · rw [if_neg (show ¬ (_ = _) from q), T_some]
      exact ⟨rfl, fun h => absurd h Bool.false_ne_true, fun h => absurd (h r hr) q⟩
  · rintro _ ⟨rfl, h⟩ k
    have e : 5 * (n / 5) = n := by omega
    show T (f_X7_tellsRows_38 F 1 k _ _ _ _ (nI (5 * (n / 5))) μ) _
    unfold f_X7_tellsRows_38
    rw [e, e1, if_pos (nI_le (Nat.le_refl _) (by omega)), T_some]
    exact ⟨rfl, fun _ => h, fun _ => rfl⟩
theorem isLaw_m {F n : Nat} {v : Int32} {B : Nat → Nat} {μ : aw_M} (hF : 100 ≤ F) (hn : n ≤ 60) (h5 : n % 5 = 0) (e1 : μ.1 203 3 = nI n) (hB : tpM B n μ) : T (f_X11_isLaw F 203 v μ) fun r => r.2 = μ ∧ (r.1 = true ↔ lws B (n / 5) v) := by
  unfold f_X11_isLaw
  refine T_lp (fun r s => s = (v, nI (5 * r), μ) ∧ lws B r v) (n / 5) (by omega) ⟨rfl, fun r' h => absurd h (Nat.not_lt_zero _)⟩ ?_ ?_
  · rintro r hr _ ⟨rfl, h⟩ k hk
    have oc : ∀ i, i < n → f_X11_octet F 203 (nI i) μ = some (nI (B i), μ) := fun i hi => octet_m (by omega) (hB i hi).1 (hB i hi).2
    have x2 : nI (5 * r) + 2 = nI (5 * r + 2) := nI_add (5 * r) 2
    have x3 : nI (5 * r) + 3 = nI (5 * r + 3) := nI_add (5 * r) 3
    have x4 : nI (5 * r) + 4 = nI (5 * r + 4) := nI_add (5 * r) 4
    have x5 : nI (5 * r) + 5 = nI (5 * (r + 1)) := nI_add (5 * r) 5
    show T (f_X11_isLaw_2 F 203 k v (nI (5 * r)) μ) _
    unfold f_X11_isLaw_2
    rw [e1, if_neg (nI_ge (by omega) (by omega)), nI_1, x2, x3, x4, x5, oc _ (by omega), Option.bind_some]
    dsimp only
    rw [oc _ (by omega), Option.bind_some]
    dsimp only
    rw [oc _ (by omega), Option.bind_some]
    dsimp only
    rw [oc _ (by omega), Option.bind_some]
    dsimp only
    rw [oc _ (by omega), Option.bind_some]
    dsimp only
    by_cases q : lw B v r
    · rw [if_pos (show _ = _ from q)]
      refine hk _ ⟨rfl, fun r' hr' => ?_⟩
      by_cases e : r' = r
      · rw [e]; exact q
      · exact h r' (by omega)
    · rw [if_neg (show ¬ (_ = _) from q), T_some]
      exact ⟨rfl, fun h => absurd h Bool.false_ne_true, fun h => absurd (h r hr) q⟩
  · rintro _ ⟨rfl, h⟩ k
    have e : 5 * (n / 5) = n := by omega
    show T (f_X11_isLaw_2 F 203 k v (nI (5 * (n / 5))) μ) _
    unfold f_X11_isLaw_2
    rw [e, e1, if_pos (nI_le (Nat.le_refl _) (by omega)), T_some]
    exact ⟨rfl, fun _ => h, fun _ => rfl⟩
