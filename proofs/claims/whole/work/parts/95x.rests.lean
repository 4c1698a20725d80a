theorem pd_tb {b : Nat → Bool} {q c k : Nat} (hc : c < 2 ^ nN b q) : (pd b q c).testBit k = (decide (k < q) && b k && c.testBit (nN b k)) := by
  have hsb := (sb_bit q _).1 (pd_sb q c hc) k
  by_cases e : k < q ∧ b k = true
  · rw [decide_eq_true e.1, e.2, Bool.true_and, Bool.true_and]
    have h1 := pd_bit e.2 q c e.1 hc
    have h2 := bit_tb (pd b q c) k
    have h3 := bit_tb c (nN b k)
    rw [h1, ← h3] at h2
    exact Bool.eq_iff_iff.2 h2
  · have h0 : (decide (k < q) && b k && c.testBit (nN b k)) = false := by
      cases e1 : b k with
      | false => rw [Bool.and_false, Bool.false_and]
      | true => rw [decide_eq_false (fun h => e ⟨h, e1⟩)]; rfl
    rw [h0]
    cases h : (pd b q c).testBit k with
    | false => rfl
    | true => exact absurd (hsb ((bit_tb _ _).1 h)) e
theorem nN_inj {b : Nat → Bool} {i k : Nat} (hi : b i = true) (hk : b k = true) (h : nN b i = nN b k) : i = k := by
  by_cases e : i = k
  · exact e
  · exfalso
    rcases Nat.lt_or_gt_of_ne e with h' | h'
    · have := nN_le h' hi; omega
    · have := nN_le h' hk; omega
theorem pdx1 {b : Nat → Bool} {q c i : Nat} (hc : c < 2 ^ nN b q) (hi : i < q) (hb : b i = true) : pd b q (c ^^^ 2 ^ nN b i) = pd b q c ^^^ 2 ^ i := by
  refine Nat.eq_of_testBit_eq fun k => ?_
  rw [pd_tb (flip_lt hc (nN_le hi hb)), Nat.testBit_xor, Nat.testBit_xor, pd_tb hc, Nat.testBit_two_pow, Nat.testBit_two_pow]
  by_cases e : k = i
  · subst e
    rw [decide_eq_true hi, hb, decide_eq_true rfl, decide_eq_true rfl, Bool.true_and, Bool.true_and, Bool.true_and]
  · rw [decide_eq_false (show ¬ i = k from fun h => e h.symm), Bool.xor_false]
    cases e1 : b k with
    | false => rw [Bool.and_false, Bool.false_and, Bool.false_and]
    | true => rw [decide_eq_false (show ¬ nN b i = nN b k from fun h => e (nN_inj hb e1 h).symm), Bool.xor_false]
theorem pd_inj {b : Nat → Bool} {q c d : Nat} (hc : c < 2 ^ nN b q) (hd : d < 2 ^ nN b q) (h : pd b q c = pd b q d) : c = d := by
  refine Nat.eq_of_testBit_eq fun r => ?_
  by_cases e : r < nN b q
  · obtain ⟨k, k1, k2, k3⟩ := nN_at q e
    have h1 := pd_tb (k := k) hc
    have h2 := pd_tb (k := k) hd
    rw [h, h2, decide_eq_true k1, k2, k3, Bool.true_and, Bool.true_and, Bool.true_and] at h1
    exact h1.symm
  · rw [Nat.testBit_lt_two_pow (Nat.lt_of_lt_of_le hc (Nat.pow_le_pow_right (by decide) (by omega))), Nat.testBit_lt_two_pow (Nat.lt_of_lt_of_le hd (Nat.pow_le_pow_right (by decide) (by omega)))]
theorem pdx2 {b : Nat → Bool} {q c d i : Nat} (hc : c < 2 ^ nN b q) (hd : d < 2 ^ nN b q) (h : pd b q c ^^^ pd b q d = 2 ^ i) : i < q ∧ b i = true ∧ d = c ^^^ 2 ^ nN b i := by
  have h1 : (pd b q c ^^^ pd b q d).testBit i = true := by rw [h, Nat.testBit_two_pow]; exact decide_eq_true rfl
  rw [Nat.testBit_xor, pd_tb hc, pd_tb hd] at h1
  have hib : i < q ∧ b i = true := by
    by_cases e : i < q
    · cases e1 : b i with
      | true => exact ⟨e, rfl⟩
      | false => rw [e1, Bool.and_false, Bool.false_and, Bool.false_and] at h1; exact absurd h1 (by decide)
    · rw [decide_eq_false e, Bool.false_and, Bool.false_and, Bool.false_and] at h1; exact absurd h1 (by decide)
  refine ⟨hib.1, hib.2, pd_inj hd (flip_lt hc (nN_le hib.1 hib.2)) ?_⟩
  rw [pdx1 hc hib.1 hib.2, ← h, ← Nat.xor_assoc, Nat.xor_self, Nat.zero_xor]
theorem pow_I : ∀ v, v < 512 → v ≠ 0 → ((nI v &&& (nI v - 1) = 0) ↔ ∃ i, i < 9 ∧ v = 2 ^ i) := by decide +kernel
theorem shp_I : ∀ i, i < 9 → ∀ j, j < 9 → ((nI (2 ^ i) >>> (nI j &&& 31) = 1) ↔ j = i) := by decide +kernel
