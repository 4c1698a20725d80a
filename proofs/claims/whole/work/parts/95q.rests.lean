/-! choices of spots, in order of their masks -/
def cN (p : Nat → Bool) : Nat → Nat
  | 0 => 0
  | k + 1 => cN p k + if p k = true then 1 else 0
theorem cN_add (p : Nat → Bool) (d : Nat) : ∀ k, cN p (d + k) = cN p d + cN (fun y => p (d + y)) k
  | 0 => rfl
  | k + 1 => by
    show cN p (d + k) + _ = cN p d + (cN (fun y => p (d + y)) k + _)
    rw [cN_add p d k, Nat.add_assoc]
    rfl
theorem cN_ext {p p' : Nat → Bool} : ∀ k, (∀ y, y < k → p y = p' y) → cN p k = cN p' k
  | 0, _ => rfl
  | k + 1, h => by
    show cN p k + _ = cN p' k + _
    rw [cN_ext k fun y hy => h y (by omega), h k (by omega)]
theorem cN_lt {p : Nat → Bool} {x k : Nat} (h : x < k) (hx : p x = true) : cN p x < cN p k := by
  obtain ⟨d, rfl⟩ : ∃ d, k = (x + 1) + d := ⟨k - (x + 1), by omega⟩
  rw [cN_add]
  show cN p x < cN p x + (if p x = true then 1 else 0) + _
  rw [if_pos hx]
  omega
def sb (b : Nat → Bool) : Nat → Nat → Bool
  | 0, x => decide (x = 0)
  | q + 1, x => if x < 2 ^ q then sb b q x else b q && sb b q (x - 2 ^ q)
theorem sb_lt {b : Nat → Bool} : ∀ {q x : Nat}, sb b q x = true → x < 2 ^ q
  | 0, x, h => by
    have : x = 0 := of_decide_eq_true h
    rw [this]
    decide
  | q + 1, x, h => by
    unfold sb at h
    have e : 2 ^ (q + 1) = 2 ^ q + 2 ^ q := by rw [Nat.pow_succ]; omega
    by_cases c : x < 2 ^ q
    · omega
    · rw [if_neg c, Bool.and_eq_true] at h
      have := sb_lt h.2
      omega
def nN (b : Nat → Bool) : Nat → Nat
  | 0 => 0
  | q + 1 => if b q = true then nN b q + 1 else nN b q
theorem cN_sb {b : Nat → Bool} : ∀ q, cN (sb b q) (2 ^ q) = 2 ^ nN b q
  | 0 => rfl
  | q + 1 => by
    have e : 2 ^ (q + 1) = 2 ^ q + 2 ^ q := by rw [Nat.pow_succ]; omega
    rw [e, cN_add]
    have h1 : cN (sb b (q + 1)) (2 ^ q) = cN (sb b q) (2 ^ q) := cN_ext _ fun y hy => by
      show (if y < 2 ^ q then _ else _) = _
      rw [if_pos hy]
    have h2 : cN (fun y => sb b (q + 1) (2 ^ q + y)) (2 ^ q) = if b q = true then cN (sb b q) (2 ^ q) else 0 := by
      by_cases c : b q = true
      · rw [if_pos c]
        refine cN_ext _ fun y hy => ?_
        show (if 2 ^ q + y < 2 ^ q then _ else b q && sb b q (2 ^ q + y - 2 ^ q)) = _
        rw [if_neg (by omega), c, Nat.add_sub_cancel_left]
        rfl
      · rw [if_neg c]
        have h3 : cN (fun y => sb b (q + 1) (2 ^ q + y)) (2 ^ q) = cN (fun _ => false) (2 ^ q) := cN_ext _ fun y hy => by
          show (if 2 ^ q + y < 2 ^ q then _ else b q && sb b q (2 ^ q + y - 2 ^ q)) = _
          rw [if_neg (by omega), Bool.eq_false_iff.2 c]
          rfl
        rw [h3]
        generalize 2 ^ q = k
        induction k with
        | zero => rfl
        | succ k ih => show cN _ k + 0 = 0; rw [ih]
    rw [h1, h2, cN_sb q]
    show _ = 2 ^ (if b q = true then nN b q + 1 else nN b q)
    by_cases c : b q = true
    · rw [if_pos c, if_pos c, Nat.pow_succ]; omega
    · rw [if_neg c, if_neg c]; omega
/-- the c-th choice's mask -/
def pd (b : Nat → Bool) : Nat → Nat → Nat
  | 0, _ => 0
  | q + 1, c => if b q = true ∧ 2 ^ nN b q ≤ c then 2 ^ q + pd b q (c - 2 ^ nN b q) else pd b q c
theorem pd_cN {b : Nat → Bool} : ∀ {q x : Nat}, sb b q x = true → pd b q (cN (sb b q) x) = x
  | 0, x, h => by
    have : x = 0 := of_decide_eq_true h
    rw [this]
    rfl
  | q + 1, x, h => by
    by_cases c : x < 2 ^ q
    · have h1 : cN (sb b (q + 1)) x = cN (sb b q) x := cN_ext _ fun y hy => by
        show (if y < 2 ^ q then _ else _) = _
        rw [if_pos (by omega)]
      have h2 : sb b q x = true := by
        unfold sb at h
        rw [if_pos c] at h
        exact h
      have h3 := cN_lt c h2
      rw [cN_sb] at h3
      rw [h1]
      show (if b q = true ∧ 2 ^ nN b q ≤ cN (sb b q) x then _ else pd b q (cN (sb b q) x)) = x
      rw [if_neg (by omega)]
      exact pd_cN h2
    · obtain ⟨y, rfl⟩ : ∃ y, x = 2 ^ q + y := ⟨x - 2 ^ q, by omega⟩
      unfold sb at h
      rw [if_neg c, Bool.and_eq_true, Nat.add_sub_cancel_left] at h
      have h1 : cN (sb b (q + 1)) (2 ^ q + y) = 2 ^ nN b q + cN (sb b q) y := by
        rw [cN_add]
        have h4 := sb_lt h.2
        have h2 : cN (sb b (q + 1)) (2 ^ q) = cN (sb b q) (2 ^ q) := cN_ext _ fun y hy => by
          show (if y < 2 ^ q then _ else _) = _
          rw [if_pos hy]
        rw [h2, cN_sb]
        refine congrArg (2 ^ nN b q + ·) (cN_ext _ fun z hz => ?_)
        show (if 2 ^ q + z < 2 ^ q then _ else b q && sb b q (2 ^ q + z - 2 ^ q)) = _
        rw [if_neg (by omega), h.1, Nat.add_sub_cancel_left]
        rfl
      rw [h1]
      show (if b q = true ∧ 2 ^ nN b q ≤ _ then 2 ^ q + pd b q (2 ^ nN b q + cN (sb b q) y - 2 ^ nN b q) else _) = _
      rw [if_pos ⟨h.1, by omega⟩, Nat.add_sub_cancel_left, pd_cN h.2]
