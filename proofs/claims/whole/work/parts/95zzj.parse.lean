/-! reading: names, signs, numbers on both sides -/
theorem tV_sg {B : Nat → Nat} {n lim p : Nat} (hK : tK B n lim p = 3) : sgn (tVl B n p) = true := by
  unfold tK at hK
  unfold tVl
  by_cases h1 : lim < n ∧ lim ≤ tA B n p
  · rw [if_pos h1] at hK; cases hK
  · rw [if_neg h1] at hK
    by_cases h2 : n ≤ tA B n p
    · rw [if_pos h2] at hK; cases hK
    · rw [if_neg h2] at hK
      by_cases h3 : tE B n p = tA B n p
      · rw [if_pos h3] at hK ⊢
        by_cases c : sgn (B (tA B n p)) = true
        · exact c
        · rw [if_neg c] at hK; cases hK
      · rw [if_neg h3] at hK
        unfold tR at hK
        split at hK
        · cases hK
        · split at hK <;> cases hK
theorem sgn_lt {c : Nat} (h : sgn c = true) : c ≤ 62 := by
  have := of_decide_eq_true h
  omega
theorem PXk_ag {B : Nat → Nat} {n lim p : Nat} {μ μ' : aw_M} {K : Nat → Nat → Bool} (ag : AgK K μ μ') (hK : ∀ a k, (a = 1 ∧ k ≤ 10) ∨ a = 2 ∨ a = 3 → K a k = true) (h : PXk B n lim p μ) : PXk B n lim p μ' := by
  obtain ⟨h1, h2, h3, g4, g5, g6, g1, g7, g10⟩ := h
  have f : ∀ k, k ≤ 10 → μ'.1 1 k = μ.1 1 k ∧ μ'.2 1 k = μ.2 1 k := fun k hk => ag 1 k (hK 1 k (by omega))
  refine ⟨h1, h2, XC_ag ag (fun a k h => hK a k (by omega)) h3, ?_, ?_, ?_, fun h => ?_, fun h => ?_, fun h => ?_⟩
  · rw [(f 4 (by decide)).1]; exact g4
  · rw [(f 5 (by decide)).1]; exact g5
  · rw [(f 6 (by decide)).1]; exact g6
  · rw [(f 8 (by decide)).2, (f 9 (by decide)).1]; exact g1 h
  · rw [(f 7 (by decide)).1]; exact g7 h
  · rw [(f 10 (by decide)).1]; exact g10 h
theorem PMk_ag {B : Nat → Nat} {n lim p : Nat} {μ μ' : aw_M} {K : Nat → Nat → Bool} (ag : AgK K μ μ') (hK : ∀ a k, (a = 203 ∧ ((3 ≤ k ∧ k ≤ 5) ∨ k = 11 ∨ k = 12 ∨ k = 14 ∨ k = 17)) ∨ a = 204 ∨ a = 209 → K a k = true) (h : PMk B n lim p μ) : PMk B n lim p μ' := by
  obtain ⟨h1, h2, h3, g4, g12, g11, g17, g14⟩ := h
  refine ⟨h1, h2, MC_ag ag (fun a k h => hK a k (by omega)) h3, ?_, ?_, ?_, fun h => ?_, fun h => ?_⟩
  · rw [(ag 203 4 (hK _ _ (by omega))).1]; exact g4
  · rw [(ag 203 12 (hK _ _ (by omega))).1]; exact g12
  · rw [(ag 203 11 (hK _ _ (by omega))).1]; exact g11
  · rw [(ag 203 17 (hK _ _ (by omega))).2]; exact g17 h
  · rw [(ag 203 14 (hK _ _ (by omega))).1]; exact g14 h
theorem ix_is {w : List Nat} {i : Nat} (hi : i < 20) : kwl.idxOf w = i ↔ w = kw i := by
  constructor
  · intro h
    obtain ⟨j, hj, e2⟩ := kw_mem.1 (List.idxOf_lt_length_iff.1 (show kwl.idxOf w < 20 by omega))
    rw [← e2, kw_ix j hj] at h
    rw [← h]
    exact e2.symm
  · intro h
    rw [h]
    exact kw_ix i hi
theorem kx_ix {w : List Nat} : kx w = -1 ↔ ¬ kwl.idxOf w < 20 := by
  rw [kx_no]
  constructor
  · intro h h2
    exact h _ h2 ((ix_is h2).1 rfl)
  · intro h i hi e
    have := (ix_is hi).2 e
    omega
def isNm (B : Nat → Nat) (n lim p : Nat) : Bool := decide (tK B n lim p = 1 ∧ ¬ kwl.idxOf (tW B n p) < 20)
def isKw (B : Nat → Nat) (n lim p i : Nat) : Bool := decide (tK B n lim p = 1 ∧ kwl.idxOf (tW B n p) = i)
def isSg (B : Nat → Nat) (n lim p c : Nat) : Bool := decide (tK B n lim p = 3 ∧ tVl B n p = c)
theorem km_is {k : Nat} (h : k = 1 ∨ k = 2 ∨ k = 3 ∨ k = 4 ∨ k = 5) : (nI (km k) = 1 ↔ k = 1) ∧ (nI (km k) = 2 ↔ k = 2) ∧ (nI (km k) = 3 ↔ k = 3) ∧ (nI (km k) = 0 ↔ k = 4) := by
  rcases h with rfl | rfl | rfl | rfl | rfl <;> decide
theorem kk_is {k : Nat} (h : k = 1 ∨ k = 2 ∨ k = 3 ∨ k = 4 ∨ k = 5) : (nI k = 1 ↔ k = 1) ∧ (nI k = 2 ↔ k = 2) ∧ (nI k = 3 ↔ k = 3) ∧ (nI k = 4 ↔ k = 4) := by
  rcases h with rfl | rfl | rfl | rfl | rfl <;> decide
theorem atName_x {F n lim p : Nat} {B : Nat → Nat} {μ : aw_M} (px : PXk B n lim p μ) : f_X6_atName F 1 μ = some (isNm B n lim p, μ) := by
  obtain ⟨g4, g5, g6, g1, g7, g10⟩ := px.2.2.2
  have hk := kk_is (tK_le B n lim p)
  unfold f_X6_atName isNm
  rw [g6]
  by_cases h : tK B n lim p = 1
  · rw [if_pos (hk.1.2 h), (g1 h).2]
    by_cases c : kx (tW B n p) = -1
    · rw [if_pos c, decide_eq_true ⟨h, kx_ix.1 c⟩]
    · rw [if_neg c, decide_eq_false fun h2 => c (kx_ix.2 h2.2)]
  · rw [if_neg fun h2 => h (hk.1.1 h2), decide_eq_false fun h2 => h h2.1]
theorem atKey_x {F n lim p i : Nat} {B : Nat → Nat} {μ : aw_M} (px : PXk B n lim p μ) (hi : i < 20) : f_X6_atKey F 1 (nI i) μ = some (isKw B n lim p i, μ) := by
  obtain ⟨g4, g5, g6, g1, g7, g10⟩ := px.2.2.2
  have hk := kk_is (tK_le B n lim p)
  unfold f_X6_atKey isKw
  rw [g6]
  by_cases h : tK B n lim p = 1
  · rw [if_pos (hk.1.2 h), (g1 h).2]
    by_cases c : tW B n p = kw i
    · rw [if_pos ((kx_is hi).2 c), decide_eq_true ⟨h, (ix_is hi).2 c⟩]
    · rw [if_neg fun h2 => c ((kx_is hi).1 h2), decide_eq_false fun h2 => c ((ix_is hi).1 h2.2)]
  · rw [if_neg fun h2 => h (hk.1.1 h2), decide_eq_false fun h2 => h h2.1]
theorem isWord_m {F n lim p i : Nat} {B : Nat → Nat} {μ : aw_M} {c : Int64} (pm : PMk B n lim p μ) (hi : i < 20) (hc : c = e8 (kw i)) : f_X11_isWord F 203 c μ = some (isKw B n lim p i, μ) := by
  obtain ⟨g4, g12, g11, g17, g14⟩ := pm.2.2.2
  have hk := km_is (tK_le B n lim p)
  unfold f_X11_isWord isKw
  rw [g11]
  by_cases h : tK B n lim p = 1
  · rw [if_pos (hk.1.2 h), g17 h, hc]
    by_cases c : tW B n p = kw i
    · rw [if_pos ((lg_cmp_eq _ _).2 (by rw [c])), decide_eq_true ⟨h, (ix_is hi).2 c⟩]
    · rw [if_neg fun h2 => c (e8_inj (tW_ok pm.1 h) (kw_ok i hi) ((lg_cmp_eq _ _).1 h2)), decide_eq_false fun h2 => c ((ix_is hi).1 h2.2)]
  · rw [if_neg fun h2 => h (hk.1.1 h2), decide_eq_false fun h2 => h h2.1]
theorem atSign_x {F n lim p c : Nat} {B : Nat → Nat} {μ : aw_M} (px : PXk B n lim p μ) (hc : c < 256) : f_X6_atSign F 1 (nI c) μ = some (isSg B n lim p c, μ) := by
  obtain ⟨g4, g5, g6, g1, g7, g10⟩ := px.2.2.2
  have hk := kk_is (tK_le B n lim p)
  unfold f_X6_atSign isSg
  rw [g6]
  by_cases h : tK B n lim p = 3
  · have := sgn_lt (tV_sg h)
    rw [if_pos (hk.2.2.1.2 h), g10 h]
    by_cases e : tVl B n p = c
    · rw [if_pos (by rw [e]), decide_eq_true ⟨h, e⟩]
    · rw [if_neg fun h2 => e ((nI_eq (by omega) (by omega)).1 h2), decide_eq_false fun h2 => e h2.2]
  · rw [if_neg fun h2 => h (hk.2.2.1.1 h2), decide_eq_false fun h2 => h h2.1]
theorem isSign_m {F n lim p c : Nat} {B : Nat → Nat} {μ : aw_M} (pm : PMk B n lim p μ) (hc : c < 256) : f_X11_isSign F 203 (nI c) μ = some (isSg B n lim p c, μ) := by
  obtain ⟨g4, g12, g11, g17, g14⟩ := pm.2.2.2
  have hk := km_is (tK_le B n lim p)
  unfold f_X11_isSign isSg
  rw [g11]
  by_cases h : tK B n lim p = 3
  · have := sgn_lt (tV_sg h)
    rw [if_pos (hk.2.2.1.2 h), g14 (.inr h)]
    by_cases e : tVl B n p = c
    · rw [if_pos (by rw [e]), decide_eq_true ⟨h, e⟩]
    · rw [if_neg fun h2 => e ((nI_eq (by omega) (by omega)).1 h2), decide_eq_false fun h2 => e h2.2]
  · rw [if_neg fun h2 => h (hk.2.2.1.1 h2), decide_eq_false fun h2 => h h2.1]
theorem isName_m {F n lim p : Nat} {B : Nat → Nat} {μ : aw_M} (hF : 100 ≤ F) (pm : PMk B n lim p μ) : f_X11_isName F 203 μ = some (isNm B n lim p, μ) := by
  obtain ⟨g4, g12, g11, g17, g14⟩ := pm.2.2.2
  have r10 : aw_rf 203 10 = 209 := by simp only [rf203, rf203b]
  have hkw := pm.2.2.1.2.2.2.2
  have hk := km_is (tK_le B n lim p)
  have f13 : ∀ z, z = decide (tK B n lim p = 1) → f_X11_isName_13 F 203 z μ = some (isNm B n lim p, μ) := fun z hz => by
    unfold f_X11_isName_13
    have h20 : isNm B n lim p = (z && !decide (kwl.idxOf (tW B n p) < 20)) := by
      unfold isNm
      rw [hz]
      by_cases h : tK B n lim p = 1
      · by_cases h2 : kwl.idxOf (tW B n p) < 20
        · rw [decide_eq_true h, decide_eq_true h2, decide_eq_false fun h3 => h3.2 h2]; rfl
        · rw [decide_eq_true h, decide_eq_false h2, decide_eq_true ⟨h, h2⟩]; rfl
      · rw [decide_eq_false h, decide_eq_false fun h3 => h h3.1]; rfl
    rw [h20]
    refine lp_u (fun i => (z && !decide (kwl.idxOf (tW B n p) < i), nI i, μ)) 20 ?_ ?_ ?_ (by omega)
    · rw [decide_eq_false (Nat.not_lt_zero _), Bool.not_false, Bool.and_true]
      rfl
    · intro i hi k
      show f_X11_isName_16 F 203 k (z && !decide (kwl.idxOf (tW B n p) < i)) (nI i) μ = k (z && !decide (kwl.idxOf (tW B n p) < i + 1), nI (i + 1), μ)
      have hs : (z && !decide (kwl.idxOf (tW B n p) < i + 1)) = ((z && !decide (kwl.idxOf (tW B n p) < i)) && !decide (kwl.idxOf (tW B n p) = i)) := by
        rw [Bool.and_assoc]
        refine congrArg (z && ·) ?_
        by_cases h1 : kwl.idxOf (tW B n p) < i
        · rw [decide_eq_true h1, decide_eq_true (show kwl.idxOf (tW B n p) < i + 1 by omega)]
          rfl
        · by_cases h2 : kwl.idxOf (tW B n p) = i
          · rw [decide_eq_false h1, decide_eq_true h2, decide_eq_true (show kwl.idxOf (tW B n p) < i + 1 by omega)]
            rfl
          · rw [decide_eq_false h1, decide_eq_false h2, decide_eq_false (show ¬ kwl.idxOf (tW B n p) < i + 1 by omega)]
            rfl
      rw [hs]
      unfold f_X11_isName_16 f_X11_isName_44 f_X11_isName_45
      rw [if_neg (show ¬ (20 : Int32) ≤ nI i from (show ¬ nI 20 ≤ nI i from nI_ge hi (by decide))), nI_1]
      by_cases c : (z && !decide (kwl.idxOf (tW B n p) < i)) = true
      · have hz1 : tK B n lim p = 1 := by
          rw [Bool.and_eq_true, hz, decide_eq_true_eq] at c
          exact c.1
        rw [c, if_pos rfl, pI_in_t (by omega) (by decide), pg_t, r10, nI_clamp (by omega), hkw i hi, g17 hz1]
        by_cases e : tW B n p = kw i
        · rw [if_pos ((lg_cmp_eq _ _).2 (by rw [e])), decide_eq_true ((ix_is hi).2 e)]
          rfl
        · rw [if_neg fun h2 => e (e8_inj (tW_ok pm.1 hz1) (kw_ok i hi) ((lg_cmp_eq _ _).1 h2)), decide_eq_false fun h => e ((ix_is hi).1 h)]
          rfl
      · rw [if_neg c]
        have : (z && !decide (kwl.idxOf (tW B n p) < i)) = false := by
          cases e : (z && !decide (kwl.idxOf (tW B n p) < i)) with
          | false => rfl
          | true => exact absurd e c
        rw [this]
        rfl
    · intro k
      show f_X11_isName_16 F 203 k _ (nI 20) μ = _
      unfold f_X11_isName_16
      rw [if_pos (show (20 : Int32) ≤ nI 20 by decide)]
  unfold f_X11_isName
  rw [g11]
  by_cases h : tK B n lim p = 1
  · rw [if_pos (hk.1.2 h)]
    exact f13 true (decide_eq_true h).symm
  · rw [if_neg fun h2 => h (hk.1.1 h2)]
    exact f13 false (decide_eq_false h).symm
theorem named_x {F t nq : Nat} {W : Nat → List Nat} {w : List Nat} {μ : aw_M} (hF : 100 ≤ F) (rt : aw_rf t 5 = t + 1) (hn : nq ≤ 9) (h3 : μ.1 t 3 = nI nq) (hW : ∀ q, q < nq → wordok (W q) ∧ μ.2 (t + 1) q = e27 (W q)) (hw : wordok w) : T (f_X8_quarterNamed F t (e27 w) μ) fun r => r.2 = μ ∧ ((∃ q, q < nq ∧ W q = w ∧ r.1 = nI q) ∨ (r.1 = -1 ∧ ∀ q, q < nq → W q ≠ w)) := by
  unfold f_X8_quarterNamed
  refine T_lp (fun i s => s = (e27 w, nI i, μ) ∧ ∀ q, q < i → W q ≠ w) nq (by omega) ⟨rfl, fun q h => absurd h (Nat.not_lt_zero q)⟩ ?_ ?_
  · rintro i hi _ ⟨rfl, hno⟩ k hk
    show T (f_X8_quarterNamed_2 F t k (e27 w) (nI i) μ) _
    unfold f_X8_quarterNamed_2
    rw [h3, if_neg (nI_ge hi (by omega)), pI_in_t (by omega) (by decide), pg_t, rt, nI_clamp (by omega), (hW i hi).2]
    by_cases e : W i = w
    · rw [if_pos ((lg_cmp_eq _ _).2 (by rw [e])), T_some]
      exact ⟨rfl, .inl ⟨i, hi, e, rfl⟩⟩
    · rw [if_neg fun h => e (e27_inj (hW i hi).1 hw ((lg_cmp_eq _ _).1 h)), nI_1]
      refine hk _ ⟨rfl, fun q hq => ?_⟩
      by_cases eq : q = i
      · rw [eq]; exact e
      · exact hno q (by omega)
  · rintro _ ⟨rfl, hno⟩ k
    show T (f_X8_quarterNamed_2 F t k (e27 w) (nI nq) μ) _
    unfold f_X8_quarterNamed_2
    rw [h3, if_pos (nI_le (Nat.le_refl _) (by omega)), T_some]
    exact ⟨rfl, .inr ⟨rfl, hno⟩⟩
theorem find_m {F f nq : Nat} {W : Nat → List Nat} {w : List Nat} {μ : aw_M} (hF : 100 ≤ F) (hn : nq ≤ 9) (hf : f ≤ 9) (h17 : μ.2 203 17 = e8 w) (hW : ∀ q, q < nq → wordok (W q) ∧ μ.2 208 (f + q) = e8 (W q)) (hw : wordok w) : T (f_X11_find F 203 (nI f) (nI nq) μ) fun r => r.2 = μ ∧ ((∃ q, q < nq ∧ W q = w ∧ r.1 = nI q) ∨ (r.1 = -1 ∧ ∀ q, q < nq → W q ≠ w)) := by
  have r9 : aw_rf 203 9 = 208 := rf203.2.2.2.2.1
  unfold f_X11_find
  refine T_lp (fun i s => s = (nI f, nI nq, nI i, μ) ∧ ∀ q, q < i → W q ≠ w) nq (by omega) ⟨rfl, fun q h => absurd h (Nat.not_lt_zero q)⟩ ?_ ?_
  · rintro i hi _ ⟨rfl, hno⟩ k hk
    show T (f_X11_find_2 F 203 k (nI f) (nI nq) (nI i) μ) _
    unfold f_X11_find_2
    rw [if_neg (nI_ge hi (by omega)), nI_add, pI_in_t (by omega) (by decide), pg_t, r9, nI_clamp (by omega), (hW i hi).2, h17]
    by_cases e : W i = w
    · rw [if_pos ((lg_cmp_eq _ _).2 (by rw [e])), T_some]
      exact ⟨rfl, .inl ⟨i, hi, e, rfl⟩⟩
    · rw [if_neg fun h => e (e8_inj (hW i hi).1 hw ((lg_cmp_eq _ _).1 h)), nI_1]
      refine hk _ ⟨rfl, fun q hq => ?_⟩
      by_cases eq : q = i
      · rw [eq]; exact e
      · exact hno q (by omega)
  · rintro _ ⟨rfl, hno⟩ k
    show T (f_X11_find_2 F 203 k (nI f) (nI nq) (nI nq) μ) _
    unfold f_X11_find_2
    rw [if_pos (nI_le (Nat.le_refl _) (by omega)), T_some]
    exact ⟨rfl, .inr ⟨rfl, hno⟩⟩
