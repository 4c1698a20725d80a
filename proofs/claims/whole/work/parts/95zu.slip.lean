/-! sand: near and a step apart are one -/
theorem near_dst {C : Nat → Nat → Nat} {a b : Nat} (w1 : C 0 0 ≤ 10) (ha : cellok C a) (ha1 : a < 100) (hb1 : b < 100) : (∃ k, k < 5 ∧ side C a k = some b) ↔ cellok C b ∧ dst a b ≤ 1 := by
  unfold cellok at *
  unfold dst adiff
  constructor
  · rintro ⟨k, hk, hs⟩
    have hk5 : k = 0 ∨ k = 1 ∨ k = 2 ∨ k = 3 ∨ k = 4 := by omega
    rcases hk5 with rfl | rfl | rfl | rfl | rfl
    · rw [show side C a 0 = if cellok C a then some a else none from rfl] at hs
      by_cases c : cellok C a
      · rw [if_pos c] at hs
        cases hs
        unfold cellok at c
        omega
      · rw [if_neg c] at hs
        cases hs
    · rw [show side C a 1 = if a % 10 + 1 < C 0 0 ∧ a / 10 < C 0 1 then some (a + 1) else none from rfl] at hs
      by_cases c : a % 10 + 1 < C 0 0 ∧ a / 10 < C 0 1
      · rw [if_pos c] at hs
        cases hs
        omega
      · rw [if_neg c] at hs
        cases hs
    · rw [show side C a 2 = if 1 ≤ a % 10 ∧ a % 10 - 1 < C 0 0 ∧ a / 10 < C 0 1 then some (a - 1) else none from rfl] at hs
      by_cases c : 1 ≤ a % 10 ∧ a % 10 - 1 < C 0 0 ∧ a / 10 < C 0 1
      · rw [if_pos c] at hs
        cases hs
        omega
      · rw [if_neg c] at hs
        cases hs
    · rw [show side C a 3 = if a % 10 < C 0 0 ∧ a / 10 + 1 < C 0 1 then some (a + 10) else none from rfl] at hs
      by_cases c : a % 10 < C 0 0 ∧ a / 10 + 1 < C 0 1
      · rw [if_pos c] at hs
        cases hs
        omega
      · rw [if_neg c] at hs
        cases hs
    · rw [show side C a 4 = if a % 10 < C 0 0 ∧ 1 ≤ a / 10 ∧ a / 10 - 1 < C 0 1 then some (a - 10) else none from rfl] at hs
      by_cases c : a % 10 < C 0 0 ∧ 1 ≤ a / 10 ∧ a / 10 - 1 < C 0 1
      · rw [if_pos c] at hs
        cases hs
        omega
      · rw [if_neg c] at hs
        cases hs
  · rintro ⟨⟨h1, h2⟩, hd⟩
    have hc : b = a ∨ (b = a + 1 ∧ b % 10 = a % 10 + 1) ∨ (b + 1 = a ∧ b % 10 + 1 = a % 10) ∨ b = a + 10 ∨ b + 10 = a := by omega
    rcases hc with rfl | ⟨rfl, hx⟩ | ⟨hx, hy⟩ | rfl | hx
    · exact ⟨0, by decide, (show (if cellok C b then some b else none) = some b from if_pos ⟨h1, h2⟩)⟩
    · exact ⟨1, by decide, (show (if a % 10 + 1 < C 0 0 ∧ a / 10 < C 0 1 then some (a + 1) else none) = some (a + 1) from if_pos (by omega))⟩
    · refine ⟨2, by decide, ?_⟩
      rw [show side C a 2 = if 1 ≤ a % 10 ∧ a % 10 - 1 < C 0 0 ∧ a / 10 < C 0 1 then some (a - 1) else none from rfl, if_pos (by omega)]
      exact congrArg some (by omega)
    · exact ⟨3, by decide, (show (if a % 10 < C 0 0 ∧ a / 10 + 1 < C 0 1 then some (a + 10) else none) = some (a + 10) from if_pos (by omega))⟩
    · refine ⟨4, by decide, ?_⟩
      rw [show side C a 4 = if a % 10 < C 0 0 ∧ 1 ≤ a / 10 ∧ a / 10 - 1 < C 0 1 then some (a - 10) else none from rfl, if_pos (by omega)]
      exact congrArg some (by omega)
theorem nearK_ex (C : Nat → Nat → Nat) (q a : Nat) : ∀ n, nearK C q a n = true ↔ ∃ k, k < n ∧ side C (C 1 q) k = some a
  | 0 => ⟨fun h => (by cases h), fun ⟨k, h, _⟩ => absurd h (Nat.not_lt_zero k)⟩
  | n + 1 => by
    show (nearK C q a n || decide (side C (C 1 q) n = some a)) = true ↔ _
    rw [Bool.or_eq_true, nearK_ex C q a n, decide_eq_true_eq]
    constructor
    · rintro (⟨k, hk, h⟩ | h)
      · exact ⟨k, by omega, h⟩
      · exact ⟨n, by omega, h⟩
    · rintro ⟨k, hk, h⟩
      by_cases e : k = n
      · subst e; exact .inr h
      · exact .inl ⟨k, by omega, h⟩
theorem snc_ex (C G : Nat → Nat → Nat) (a : Nat) : ∀ n, 0 < snc C G a n ↔ ∃ k b, k < n ∧ side C a k = some b ∧ G 4 b ≠ 0
  | 0 => ⟨fun h => absurd h (Nat.lt_irrefl 0), fun ⟨k, _, h, _⟩ => absurd h (Nat.not_lt_zero k)⟩
  | n + 1 => by
    rw [snc_s]
    constructor
    · intro h
      by_cases h2 : 0 < snc C G a n
      · obtain ⟨k, b, h3, h4⟩ := (snc_ex C G a n).1 h2
        exact ⟨k, b, by omega, h4⟩
      · cases e : side C a n with
        | none =>
          rw [e] at h
          dsimp only at h
          omega
        | some b =>
          rw [e] at h
          dsimp only at h
          exact ⟨n, b, by omega, e, by omega⟩
    · rintro ⟨k, b, hk, hs, hg⟩
      by_cases e : k = n
      · subst e
        rw [hs]
        dsimp only
        omega
      · have := (snc_ex C G a n).2 ⟨k, b, by omega, hs, hg⟩
        omega
/-- the reference's: sand by its cells -/
def syS (C G : Nat → Nat → Nat) (q : Nat) : Nat → Bool
  | 0 => false
  | n + 1 => syS C G q n || (decide (G 4 n = 1) && decide (dst (C 1 q) n ≤ 1))
theorem syS_ex (C G : Nat → Nat → Nat) (q : Nat) : ∀ n, syS C G q n = true ↔ ∃ a, a < n ∧ G 4 a = 1 ∧ dst (C 1 q) a ≤ 1
  | 0 => ⟨fun h => (by cases h), fun ⟨a, h, _⟩ => absurd h (Nat.not_lt_zero a)⟩
  | n + 1 => by
    show (syS C G q n || (decide (G 4 n = 1) && decide (dst (C 1 q) n ≤ 1))) = true ↔ _
    rw [Bool.or_eq_true, syS_ex C G q n, Bool.and_eq_true, decide_eq_true_eq, decide_eq_true_eq]
    constructor
    · rintro (⟨k, hk, h⟩ | h)
      · exact ⟨k, by omega, h⟩
      · exact ⟨n, by omega, h⟩
    · rintro ⟨k, hk, h⟩
      by_cases e : k = n
      · subst e; exact .inr h
      · exact .inl ⟨k, by omega, h⟩
def dSl (C : Nat → Nat → Nat) (a : Nat) : Nat := if cellok C a then mk (fun q => decide (dst (C 1 q) a ≤ 1)) (C 0 2) else 0
def wetM (C G : Nat → Nat → Nat) (q : Nat) : Bool := decide (10 ≤ G 3 (C 1 q)) && !(syS C G q 100)
theorem wet_eq {C G : Nat → Nat → Nat} (hwf : qTWF C) (hg : ∀ a, a < 100 → G 4 a ≤ bN (decide (cellok C a))) {q : Nat} (hq : q < C 0 2) : wetM C G q = wetS C G q := by
  have c1 := (hwf.2.1 q hq).1
  have c2 : C 1 q < 100 := by have := hwf.1; unfold cellok at *; omega
  unfold wetM wetS
  refine congrArg (fun b => decide (10 ≤ G 3 (C 1 q)) && !b) ?_
  have : syS C G q 100 = true ↔ decide (0 < snc C G (C 1 q) 5) = true := by
    rw [decide_eq_true_eq, syS_ex, snc_ex]
    constructor
    · rintro ⟨a, ha, h1, h2⟩
      have hc : cellok C a := by
        have := hg a ha
        rw [h1] at this
        exact Classical.byContradiction fun h => by rw [decide_eq_false h] at this; exact absurd this (by decide)
      obtain ⟨k, hk, hs⟩ := (near_dst hwf.1.1 c1 c2 ha).2 ⟨hc, h2⟩
      exact ⟨k, a, hk, hs, by omega⟩
    · rintro ⟨k, b, hk, hs, h0⟩
      have hb := side_lt hwf c2 hs
      obtain ⟨h1, h2⟩ := (near_dst hwf.1.1 c1 c2 hb).1 ⟨k, hk, hs⟩
      have := hg b hb
      have := bN_le (decide (cellok C b))
      exact ⟨b, hb, by omega, h2⟩
  cases e : syS C G q 100 with
  | true => exact (this.1 e).symm
  | false =>
    cases e2 : decide (0 < snc C G (C 1 q) 5) with
    | false => rfl
    | true => rw [this.2 e2] at e; cases e
theorem nm_eq {C G : Nat → Nat → Nat} (hwf : qTWF C) {a : Nat} (ha : a < 100) : nmS C G a (C 0 2) = dSl C a &&& mk (wetS C G) (C 0 2) := Nat.eq_of_testBit_eq fun i => by
  unfold nmS dSl
  rw [mk_tb, Nat.testBit_and, mk_tb]
  by_cases hi : i < C 0 2
  · rw [decide_eq_true hi, Bool.true_and, Bool.true_and]
    have c1 := (hwf.2.1 i hi).1
    have c2 : C 1 i < 100 := by have := hwf.1; unfold cellok at *; omega
    have hn := (nearK_ex C i a 5).trans (near_dst hwf.1.1 c1 c2 ha)
    by_cases hc : cellok C a
    · rw [if_pos hc, mk_tb, decide_eq_true hi, Bool.true_and, Bool.and_comm]
      refine congrArg (fun b => b && wetS C G i) ?_
      by_cases hd : dst (C 1 i) a ≤ 1
      · rw [decide_eq_true hd]; exact hn.2 ⟨hc, hd⟩
      · rw [decide_eq_false hd]
        cases e : nearK C i a 5 with
        | false => rfl
        | true => exact absurd (hn.1 e).2 hd
    · rw [if_neg hc, Nat.zero_testBit, Bool.false_and]
      cases e : nearK C i a 5 with
      | false => rw [Bool.and_false]
      | true => exact absurd (hn.1 e).1 hc
  · rw [decide_eq_false hi, Bool.false_and, Bool.false_and, Bool.and_false]
