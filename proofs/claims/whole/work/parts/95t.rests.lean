theorem flip_I : ∀ c, c < 64 → ∀ j, j < 6 → nI c ^^^ ((1 : Int32) <<< (nI j &&& 31)) = nI (c ^^^ 2 ^ j) := by decide +kernel
theorem flip_lt {c m j : Nat} (h : c < 2 ^ m) (hj : j < m) : c ^^^ 2 ^ j < 2 ^ m := Nat.xor_lt_two_pow h (Nat.pow_lt_pow_right (by decide) hj)
/-- nobody would rather change -/
abbrev restP (C P : Nat → Nat → Nat) (S : Nat → Int32) (c : Nat) : Prop := ∀ i, i < C 0 2 → C 4 i ≠ 0 → hasV C P S (c ^^^ 2 ^ nN (bC C) i) i ≤ hasV C P S c i
theorem isAtRest_x {F m c : Nat} {C P : Nat → Nat → Nat} {S : Nat → Int32} {μ : aw_M} (hF : 100 ≤ F) (hm : m = nN (bC C) (C 0 2)) (h6 : m ≤ 6) (hcm : c < 2 ^ m) (hs : hasI C P S (2 ^ m) 0 (μ.1 95)) : T (f_X5_isAtRest F 88 (nI c) (nI m) μ) fun r => r.2 = μ ∧ (r.1 = true ↔ restP C P S c) := by
  have r9 : aw_rf 88 9 = 95 := by simp only [rf0, rf1, rf4, rf5, rf19, rf23, rf28, rf39, rf53, rf67, rf71, rf76, rf88, rf97, rf101, rf109, rf110, rf124, rf128, rf133, rf144, rf156, rf157, rf171, rf175, rf180, rf191, rf51]
  have h64 : 2 ^ m ≤ 64 := Nat.pow_le_pow_right (n := 2) (by decide) h6
  unfold f_X5_isAtRest
  refine T_lp (fun j s => s = (nI c, nI m, nI j, μ) ∧ ∀ i, i < C 0 2 → C 4 i ≠ 0 → nN (bC C) i < j → hasV C P S (c ^^^ 2 ^ nN (bC C) i) i ≤ hasV C P S c i) m (by omega) ⟨rfl, fun i _ _ h => absurd h (Nat.not_lt_zero _)⟩ ?_ ?_
  · rintro j hj _ ⟨rfl, h⟩ k hk
    obtain ⟨i, i1, i2, i3⟩ := nN_at (b := bC C) (j := j) (C 0 2) (by omega)
    have i4 : C 4 i ≠ 0 := bC_t.1 i2
    have hd := flip_lt hcm hj
    have e6 : ∀ c, nI c * 6 + nI j = nI (6 * c + j) := fun c => by
      have : nI c * 6 + nI j = 6 * nI c + nI j := by grind
      rw [this]
      simp (disch := omega) only [pI_lit, nI_add, nI_clamp, nI_leI, nI_ltI, nI_eq, pk_mul]
    have v1 : μ.1 95 (6 * c + j) = hasV C P S c i := by rw [← i3]; exact hs c i i1 i4 (.inl hcm)
    have v2 : μ.1 95 (6 * (c ^^^ 2 ^ j) + j) = hasV C P S (c ^^^ 2 ^ j) i := by
      have := hs (c ^^^ 2 ^ j) i i1 i4 (.inl hd)
      rw [i3] at this
      exact this
    show T (f_X5_isAtRest_2 F 88 k (nI c) (nI m) (nI j) μ) _
    unfold f_X5_isAtRest_2
    rw [if_neg (nI_ge hj (by omega)), flip_I c (by omega) j (by omega), plet, e6, e6, pI_in_t (by omega) (by decide), pg_t, pI_in_t (by omega) (by decide), pg_t, r9, nI_clamp (by omega), nI_clamp (by omega), v1, v2, nI_1]
    by_cases q : hasV C P S (c ^^^ 2 ^ j) i ≤ hasV C P S c i
    · rw [if_pos q]
      refine hk _ ⟨rfl, fun i' h1 h2 h3 => ?_⟩
      by_cases e : i' = i
      · rw [e, i3]; exact q
      · refine h i' h1 h2 ?_
        by_cases e2 : nN (bC C) i' = j
        · exfalso
          rcases Nat.lt_or_gt_of_ne e with h | h
          · have := nN_le (b := bC C) h (bC_t.2 h2); omega
          · have := nN_le (b := bC C) h i2; omega
        · omega
    · rw [if_neg q, T_some]
      refine ⟨rfl, fun h => absurd h Bool.false_ne_true, fun h => absurd ?_ q⟩
      have := h i i1 i4
      rw [i3] at this
      exact this
  · rintro _ ⟨rfl, h⟩ k
    show T (f_X5_isAtRest_2 F 88 k (nI c) (nI m) (nI m) μ) _
    unfold f_X5_isAtRest_2
    rw [if_pos (nI_le (Nat.le_refl _) (by omega)), T_some]
    refine ⟨rfl, fun _ i h1 h2 => h i h1 h2 ?_, fun _ => rfl⟩
    rw [hm]
    exact nN_le h1 (bC_t.2 h2)
/-- bits of the mask, up to rank j -/
def pdj (C : Nat → Nat → Nat) (c j : Nat) : Nat → Nat
  | 0 => 0
  | q + 1 => if C 4 q ≠ 0 ∧ nN (bC C) q < j ∧ bitN c (nN (bC C) q) = 1 then pdj C c j q ||| 2 ^ q else pdj C c j q
theorem pdj_tb (C : Nat → Nat → Nat) (c j i : Nat) : ∀ q, (pdj C c j q).testBit i = decide (i < q ∧ C 4 i ≠ 0 ∧ nN (bC C) i < j ∧ bitN c (nN (bC C) i) = 1)
  | 0 => by
    show (0 : Nat).testBit i = _
    rw [Nat.zero_testBit]
    exact (decide_eq_false (by omega)).symm
  | q + 1 => by
    unfold pdj
    by_cases e : C 4 q ≠ 0 ∧ nN (bC C) q < j ∧ bitN c (nN (bC C) q) = 1
    · rw [if_pos e, Nat.testBit_or, pdj_tb C c j i q, Nat.testBit_two_pow]
      by_cases e2 : q = i
      · subst e2
        rw [decide_eq_true (show q = q from rfl), Bool.or_true]
        exact (decide_eq_true ⟨by omega, e⟩).symm
      · rw [decide_eq_false e2, Bool.or_false]
        exact decide_eq_decide.2 ⟨fun h => ⟨by omega, h.2⟩, fun h => ⟨by omega, h.2⟩⟩
    · rw [if_neg e, pdj_tb C c j i q]
      refine decide_eq_decide.2 ⟨fun h => ⟨by omega, h.2⟩, fun h => ⟨?_, h.2⟩⟩
      by_cases e2 : i = q
      · subst e2; exact absurd h.2 e
      · omega
theorem bit_or_I : ∀ x, x < 512 → ∀ q, q < 9 → ∀ t, t < 2 → nI x ||| (nI t <<< (nI q &&& 31)) = nI (x ||| (if t = 1 then 2 ^ q else 0)) := by decide +kernel
theorem spotsOf_x {F m c : Nat} {C : Nat → Nat → Nat} {μ : aw_M} (hF : 100 ≤ F) (hq : C 0 2 ≤ 9) (hm : m = nN (bC C) (C 0 2)) (h6 : m ≤ 6) (hcm : c < 2 ^ m) (hl : slI C (C 0 2) (μ.1 94)) : f_X5_spotsOf F 88 (nI c) (nI m) μ = some (nI (pd (bC C) (C 0 2) c), μ) := by
  have r8 : aw_rf 88 8 = 94 := by simp only [rf0, rf1, rf4, rf5, rf19, rf23, rf28, rf39, rf53, rf67, rf71, rf76, rf88, rf97, rf101, rf109, rf110, rf124, rf128, rf133, rf144, rf156, rf157, rf171, rf175, rf180, rf191, rf51]
  have h64 : 2 ^ m ≤ 64 := Nat.pow_le_pow_right (n := 2) (by decide) h6
  have lt : ∀ j, pdj C c j (C 0 2) < 512 := fun j => by
    refine Nat.lt_of_lt_of_le (Nat.lt_pow_two_of_testBit (n := C 0 2) _ fun i hi => ?_) (Nat.pow_le_pow_right (n := 2) (by decide) hq)
    rw [pdj_tb]
    exact decide_eq_false (by omega)
  have key : T (f_X5_spotsOf F 88 (nI c) (nI m) μ) fun r => r = (nI (pd (bC C) (C 0 2) c), μ) := by
    unfold f_X5_spotsOf
    refine T_lp (fun j s => s = (nI c, nI m, nI (pdj C c j (C 0 2)), nI j, μ)) m (by omega) ?_ ?_ ?_
    · have : pdj C c 0 (C 0 2) = 0 := Nat.eq_of_testBit_eq fun i => by
        rw [pdj_tb, Nat.zero_testBit]
        exact decide_eq_false (by omega)
      rw [this]
      rfl
    · rintro j hj _ rfl k hk
      obtain ⟨i, i1, i2, i3⟩ := nN_at (b := bC C) (j := j) (C 0 2) (by omega)
      have i4 : C 4 i ≠ 0 := bC_t.1 i2
      have l3 : μ.1 94 j = nI i := by
        rw [← i3]
        exact hl i i1 i4 (by omega)
      have es : pdj C c j (C 0 2) ||| (if bitN c j = 1 then 2 ^ i else 0) = pdj C c (j + 1) (C 0 2) := Nat.eq_of_testBit_eq fun k => by
        rw [Nat.testBit_or, pdj_tb, pdj_tb]
        by_cases e : k = i
        · subst e
          by_cases e2 : bitN c j = 1
          · rw [if_pos e2, Nat.testBit_two_pow, decide_eq_true (show k = k from rfl), Bool.or_true]
            exact (decide_eq_true ⟨i1, i4, by omega, by rw [i3]; exact e2⟩).symm
          · rw [if_neg e2, Nat.zero_testBit, Bool.or_false]
            exact decide_eq_decide.2 ⟨fun h => by omega, fun h => by rw [i3] at h; exact absurd h.2.2.2 e2⟩
        · have h0 : (if bitN c j = 1 then 2 ^ i else 0).testBit k = false := by
            split
            · rw [Nat.testBit_two_pow]; exact decide_eq_false (fun h => e h.symm)
            · rw [Nat.zero_testBit]
          rw [h0, Bool.or_false]
          refine decide_eq_decide.2 ⟨fun h => ⟨h.1, h.2.1, by omega, h.2.2.2⟩, fun h => ⟨h.1, h.2.1, ?_, h.2.2.2⟩⟩
          by_cases e2 : nN (bC C) k = j
          · exfalso
            rcases Nat.lt_or_gt_of_ne e with h' | h'
            · have := nN_le (b := bC C) h' (bC_t.2 h.2.1); omega
            · have := nN_le (b := bC C) h' i2; omega
          · omega
      show T (f_X5_spotsOf_5 F 88 k (nI c) (nI m) (nI (pdj C c j (C 0 2))) (nI j) μ) _
      unfold f_X5_spotsOf_5
      rw [if_neg (nI_ge hj (by omega)), pI_in_t (by omega) (by decide), pg_t, bit_I (by omega) (by omega), r8, nI_clamp (by omega), l3, bit_or_I _ (lt j) i (by omega) _ (bitN_lt c j), plet, nI_1, es]
      exact hk _ rfl
    · rintro _ rfl k
      show T (f_X5_spotsOf_5 F 88 k (nI c) (nI m) (nI (pdj C c m (C 0 2))) (nI m) μ) _
      unfold f_X5_spotsOf_5
      rw [if_pos (nI_le (Nat.le_refl _) (by omega)), T_some]
      have : pdj C c m (C 0 2) = pd (bC C) (C 0 2) c := Nat.eq_of_testBit_eq fun k => by
        rw [pdj_tb]
        have hcm' : c < 2 ^ nN (bC C) (C 0 2) := by rw [← hm]; exact hcm
        have hsb := (sb_bit (C 0 2) _).1 (pd_sb (C 0 2) c hcm') k
        by_cases e : k < C 0 2 ∧ C 4 k ≠ 0
        · have hb := pd_bit (bC_t.2 e.2) (C 0 2) c e.1 hcm'
          have := nN_le e.1 (bC_t.2 e.2)
          cases h2 : (pd (bC C) (C 0 2) c).testBit k with
          | true =>
            rw [bit_tb, hb] at h2
            exact decide_eq_true ⟨e.1, e.2, by omega, h2⟩
          | false =>
            refine decide_eq_false fun h => ?_
            rw [← hb, ← bit_tb, h2] at h
            exact Bool.false_ne_true h.2.2.2
        · cases h2 : (pd (bC C) (C 0 2) c).testBit k with
          | true =>
            have := hsb ((bit_tb _ _).1 h2)
            exact absurd ⟨this.1, bC_t.1 this.2⟩ e
          | false => exact decide_eq_false fun h => e ⟨h.1, h.2.1⟩
      rw [this]
  obtain ⟨r, h1, h2⟩ := key
  rw [h1, h2]
