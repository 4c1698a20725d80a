theorem bitN_of {x y i j : Nat} (h : x.testBit i = y.testBit j) : bitN x i = bitN y j := by
  have h1 := bit_tb x i
  have h2 := bit_tb y j
  have h3 := bitN_lt x i
  have h4 := bitN_lt y j
  rw [h, h2] at h1
  omega
theorem bitN_add {q y i : Nat} (h : i < q) : bitN (2 ^ q + y) i = bitN y i := bitN_of (Nat.testBit_two_pow_add_gt h y)
theorem bitN_0 {x i : Nat} (h : x < 2 ^ i) : bitN x i = 0 := by
  unfold bitN
  rw [Nat.div_eq_of_lt h]
theorem bitN_top {q y : Nat} (h : y < 2 ^ q) : bitN (2 ^ q + y) q = 1 := by
  unfold bitN
  rw [Nat.add_comm, Nat.add_div_right _ (Nat.two_pow_pos q), Nat.div_eq_of_lt h]
theorem bitN_hi {x q i : Nat} (h : x < 2 ^ q) (hi : q ≤ i) : bitN x i = 0 := bitN_0 (Nat.lt_of_lt_of_le h (Nat.pow_le_pow_right (by decide) hi))
theorem sb_bit {b : Nat → Bool} : ∀ (q x : Nat), sb b q x = true ↔ ∀ i, bitN x i = 1 → i < q ∧ b i = true
  | 0, x => by
    constructor
    · intro h i hi
      have : x = 0 := of_decide_eq_true h
      rw [this] at hi
      unfold bitN at hi
      rw [Nat.zero_div] at hi
      exact absurd hi (by decide)
    · intro h
      refine decide_eq_true (Nat.eq_of_testBit_eq fun i => ?_)
      rw [Nat.zero_testBit]
      cases e : x.testBit i with
      | false => rfl
      | true => exact absurd (h i ((bit_tb x i).1 e)).1 (Nat.not_lt_zero _)
  | q + 1, x => by
    unfold sb
    by_cases c : x < 2 ^ q
    · rw [if_pos c, sb_bit q x]
      constructor
      · intro h i hi
        have := h i hi
        exact ⟨by omega, this.2⟩
      · intro h i hi
        have h2 := h i hi
        by_cases e : i = q
        · rw [e, bitN_0 c] at hi
          omega
        · exact ⟨by omega, h2.2⟩
    · obtain ⟨y, rfl⟩ : ∃ y, x = 2 ^ q + y := ⟨x - 2 ^ q, by omega⟩
      rw [if_neg c, Nat.add_sub_cancel_left, Bool.and_eq_true, sb_bit q y]
      constructor
      · rintro ⟨h1, h2⟩ i hi
        have hy : y < 2 ^ q := sb_lt ((sb_bit q y).2 h2)
        by_cases e : i < q
        · rw [bitN_add e] at hi
          have := h2 i hi
          exact ⟨by omega, this.2⟩
        · by_cases e2 : i = q
          · rw [e2]; exact ⟨by omega, h1⟩
          · rw [bitN_hi (q := q + 1) (by rw [Nat.pow_succ]; omega) (by omega)] at hi
            omega
      · intro h
        have hx : 2 ^ q + y < 2 ^ (q + 1) := by
          refine Nat.lt_pow_two_of_testBit _ fun i hi => ?_
          cases e : (2 ^ q + y).testBit i with
          | false => rfl
          | true => have := (h i ((bit_tb _ i).1 e)).1; omega
        rw [Nat.pow_succ] at hx
        have hy : y < 2 ^ q := by omega
        refine ⟨(h q (bitN_top hy)).2, fun i hi => ?_⟩
        by_cases e : i < q
        · exact ⟨e, (h i (by rw [bitN_add e]; exact hi)).2⟩
        · rw [bitN_hi hy (by omega)] at hi
          omega
theorem nN_le {b : Nat → Bool} : ∀ {i q : Nat}, i < q → b i = true → nN b i < nN b q
  | i, 0, h, _ => absurd h (Nat.not_lt_zero _)
  | i, q + 1, h, hb => by
    show nN b i < if b q = true then nN b q + 1 else nN b q
    by_cases e : i = q
    · rw [← e, if_pos hb]; omega
    · have := nN_le (q := q) (by omega) hb
      split <;> omega
theorem pd_sb {b : Nat → Bool} : ∀ (q c : Nat), c < 2 ^ nN b q → sb b q (pd b q c) = true
  | 0, _, _ => rfl
  | q + 1, c, h => by
    have h : c < 2 ^ (if b q = true then nN b q + 1 else nN b q) := h
    unfold pd
    by_cases e : b q = true ∧ 2 ^ nN b q ≤ c
    · rw [if_pos e]
      rw [if_pos e.1, Nat.pow_succ] at h
      unfold sb
      rw [if_neg (by omega), Nat.add_sub_cancel_left, e.1, pd_sb q _ (by omega)]
      rfl
    · rw [if_neg e]
      have hc : c < 2 ^ nN b q := by
        by_cases e2 : b q = true
        · exact Nat.lt_of_not_le fun h3 => e ⟨e2, h3⟩
        · rw [if_neg e2] at h
          exact h
      have := pd_sb q c hc
      unfold sb
      rw [if_pos (sb_lt this)]
      exact this
theorem pd_bit {b : Nat → Bool} {i : Nat} (hb : b i = true) : ∀ (q c : Nat), i < q → c < 2 ^ nN b q → bitN (pd b q c) i = bitN c (nN b i)
  | 0, _, h, _ => absurd h (Nat.not_lt_zero _)
  | q + 1, c, hi, h => by
    have h : c < 2 ^ (if b q = true then nN b q + 1 else nN b q) := h
    unfold pd
    by_cases e : b q = true ∧ 2 ^ nN b q ≤ c
    · rw [if_pos e]
      rw [if_pos e.1, Nat.pow_succ] at h
      obtain ⟨c', rfl⟩ : ∃ c', c = 2 ^ nN b q + c' := ⟨c - 2 ^ nN b q, by omega⟩
      rw [Nat.add_sub_cancel_left]
      by_cases e2 : i = q
      · subst e2
        rw [bitN_top (sb_lt (pd_sb i c' (by omega))), bitN_top (by omega)]
      · rw [bitN_add (by omega), bitN_add (nN_le (by omega) hb)]
        exact pd_bit hb q c' (by omega) (by omega)
    · rw [if_neg e]
      have hc : c < 2 ^ nN b q := by
        by_cases e2 : b q = true
        · exact Nat.lt_of_not_le fun h3 => e ⟨e2, h3⟩
        · rw [if_neg e2] at h
          exact h
      by_cases e2 : i = q
      · subst e2
        rw [bitN_0 hc, bitN_0 (sb_lt (pd_sb i c hc))]
      · exact pd_bit hb q c (by omega) hc
