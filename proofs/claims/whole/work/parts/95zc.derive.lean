/-! what the ground makes of a town, wherever both lie -/
theorem abs_I : ∀ x, x < 10 → ∀ y, y < 10 → (if 0 ≤ nI x - nI y then nI x - nI y else 0 - (nI x - nI y)) = nI (adiff x y) := by decide
theorem distT {F a b : Nat} {μ : aw_M} (ha : a < 100) (hb : b < 100) : f_X8_distance F (nI a) (nI b) μ = some (nI (dst a b), μ) := by
  have m : ∀ x, x < 100 → nI x - nI x / 10 * 10 = nI (x % 10) := fun x hx => by rw [show (10 : Int32) = nI 10 from rfl, nI_mod (by omega) (by decide)]
  have d : ∀ x, x < 100 → nI x / 10 = nI (x / 10) := fun x hx => nI_div (b := 10) (by omega) (by decide)
  unfold f_X8_distance
  rw [m a ha, m b hb, d a ha, d b hb, abs_I _ (by omega) _ (by omega), abs_I _ (by omega) _ (by omega), nI_add]
  rfl
/-- where a town's arrays lie -/
def tRf (t : Nat) : Prop := aw_rf t 5 = t + 1 ∧ aw_rf t 6 = t + 2 ∧ aw_rf t 7 = t + 3 ∧ aw_rf t 8 = t + 4 ∧ aw_rf t 9 = t + 5 ∧ aw_rf t 10 = t + 6 ∧ aw_rf t 11 = t + 7 ∧ aw_rf t 12 = t + 8 ∧ aw_rf t 13 = t + 9 ∧ aw_rf t 14 = t + 10 ∧ aw_rf t 15 = t + 11 ∧ aw_rf t 16 = t + 12 ∧ aw_rf t 17 = t + 13
theorem tRf_5 : tRf 5 ∧ tRf 110 ∧ tRf 157 := by
  unfold tRf
  simp only [rf0, rf1, rf4, rf5, rf19, rf23, rf28, rf39, rf53, rf67, rf71, rf76, rf88, rf97, rf101, rf109, rf110, rf124, rf128, rf133, rf144, rf156, rf157, rf171, rf175, rf180, rf191, rf51, and_self, Nat.reduceAdd]
theorem onT {F t a k : Nat} {T : Nat → Nat → Nat} {μ : aw_M} (hwf : qTWF T) (rt : tRf t) (tx : qTX T μ t) (ha : a < 100) (hk : k < 3) : f_X8_hasOn F t (nI k) (nI a) μ = some (decide (T (9 + k) a = 1), μ) := by
  have hs := hwf.2.2.2.2.1
  have s9 := ((hs 9 (by decide) (by decide)).1 a).1
  have s10 := ((hs 10 (by decide) (by decide)).1 a).1
  have s11 := ((hs 11 (by decide) (by decide)).1 a).1
  have t9 := bits_t _ s9 _ s10 _ s11 _ (bN_le (own T a (T 0 2)).isSome)
  have t10 := bits_t1 _ s9 _ s10 _ s11 _ (bN_le (own T a (T 0 2)).isSome)
  have t11 := bits_t2 _ s9 _ s10 _ s11 _ (bN_le (own T a (T 0 2)).isSome)
  have e : μ.1 (t + 11) a = nI (things T a) := (tx.2.2.2.2.2.1 a ha).1
  have hw : T (9 + k) a ≤ 1 := ((hs (9 + k) (by omega) (by omega)).1 a).1
  have hb : (((nI (things T a) >>> (nI k &&& 31)) &&& 1) = 0 ↔ T (9 + k) a = 0) := by
    have hk3 : k = 0 ∨ k = 1 ∨ k = 2 := by omega
    rcases hk3 with rfl | rfl | rfl
    · exact t9
    · exact t10
    · exact t11
  unfold f_X8_hasOn
  rw [if_neg (nI_pos (by omega)), if_neg (show ¬ ((100 : Int32) ≤ nI a) from (show ¬ (nI 100 ≤ nI a) from nI_ge ha (by decide))), pI_in_t ha (by decide), pg_t, rt.2.2.2.2.2.2.2.2.2.2.1, nI_clamp (by omega), e]
  by_cases h : T (9 + k) a = 0
  · rw [if_pos (hb.2 h), decide_eq_false (by omega)]
  · rw [if_neg (fun q => h (hb.1 q)), decide_eq_true (by omega)]
