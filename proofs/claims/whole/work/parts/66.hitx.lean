theorem pos_part2 {a b : Nat} (ha : a < 1000) (hb : b < 1000) : (if nI a - nI b < 0 then 0 else nI a - nI b) = nI (a - b) := by
  rw [← pos_part ha hb]
  by_cases h : 0 ≤ nI a - nI b
  · have : ¬ nI a - nI b < 0 := by grind
    rw [if_neg this, if_pos h]
  · have : nI a - nI b < 0 := by grind
    rw [if_pos this, if_neg h]
/-- the same on the class's side, at any distance, with any number of more -/
theorem hitOf_x {F q c d s : Nat} {T : Nat → Nat → Nat} {μ : aw_M} (hwf : qTWF T) (tx : qTX T μ 5) (hq : q < T 0 2) (hc : c < T 0 3) (hd : d ≤ 100) (hs : s ≤ 100) : f_X8_hitOf F 5 (nI q) (nI c) (nI d) (nI s) μ = some (nI (if 2 < d then T 3 q + s - (d + T 8 c) else T 3 q + s + 2 - T 8 c), μ) := by
  have hnq := hwf.1.2.2.1
  have hnc := hwf.1.2.2.2
  have h3 := (hwf.2.1 q hq).2.2.2.1
  have h8 := (hwf.2.2.2.1 c hc).2.2.2
  have t3 : μ.1 9 q = nI (T 3 q) := (tx.2.1 q hq).2.2
  have t8 : μ.1 14 c = nI (T 8 c) := (tx.2.2.2.1 c hc).2.2.2
  have r8 : aw_rf 5 8 = 9 := by simp only [rf0, rf1, rf4, rf5, rf19, rf23, rf28, rf39, rf53, rf67, rf71, rf76, rf88, rf97, rf101, rf109, rf110, rf124, rf128, rf133, rf144, rf156, rf157, rf171, rf175, rf180, rf191, rf51]
  have r13 : aw_rf 5 13 = 14 := by simp only [rf0, rf1, rf4, rf5, rf19, rf23, rf28, rf39, rf53, rf67, rf71, rf76, rf88, rf97, rf101, rf109, rf110, rf124, rf128, rf133, rf144, rf156, rf157, rf171, rf175, rf180, rf191, rf51]
  have e2 : (2 : Int32) = nI 2 := rfl
  unfold f_X8_hitOf f_X8_hitOf_20
  rw [pI_in_t (by omega) (by decide), pg_t, r8, r13, nI_clamp (by omega), t3, pI_in_t (by omega) (by decide), pg_t, pg_t, nI_clamp (by omega), t8, nI_add]
  by_cases k : 2 < d
  · rw [e2, if_pos (nI_lt k (by omega)), if_pos k, plet]
    have e : nI (T 3 q + s) + -nI d - nI (T 8 c) = nI (T 3 q + s) - nI (d + T 8 c) := by
      rw [← nI_add d]
      grind
    rw [e, pos_part2 (by omega) (by omega)]
  · rw [e2, if_neg (fun h => k ((nI_ltI (by omega) (by omega)).1 h)), if_neg k, plet, nI_add, pos_part2 (by omega) (by omega)]
