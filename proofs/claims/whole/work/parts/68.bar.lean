def b9 (T : Nat → Nat → Nat) (o : Option Nat) : Bool := match o with
  | none => false
  | some b => decide (T 9 b = 1)
def v9 (T : Nat → Nat → Nat) (o : Option Nat) : Nat := match o with
  | none => 0
  | some b => T 9 b
def bf (T : Nat → Nat → Nat) (a : Nat) : Nat → Bool
  | 0 => decide (T 9 a = 1)
  | k + 1 => bf T a k || b9 T (side T a (bperm k))
theorem bf_nbr {T : Nat → Nat → Nat} {a : Nat} (hwf : qTWF T) (hc : cellok T a) : bf T a 4 = decide (0 < nbr T 9 a) := by
  have h9 := fun b => ((hwf.2.2.2.2.1 9 (by decide) (by decide)).1 b).1
  have e : nbr T 9 a = 0 + T 9 a + v9 T (side T a 1) + v9 T (side T a 2) + v9 T (side T a 3) + v9 T (side T a 4) := by
    have e0 : side T a 0 = some a := by
      show (if cellok T a then some a else none) = some a
      rw [if_pos hc]
    have : nbr T 9 a = 0 + v9 T (side T a 0) + v9 T (side T a 1) + v9 T (side T a 2) + v9 T (side T a 3) + v9 T (side T a 4) := rfl
    rw [this, e0]
    rfl
  have hb : ∀ o : Option Nat, ∃ x, x ≤ 1 ∧ v9 T o = x ∧ b9 T o = decide (x = 1) := fun o => by
    cases o with
    | none => exact ⟨0, by decide, rfl, rfl⟩
    | some b => exact ⟨T 9 b, h9 b, rfl, rfl⟩
  have e2 : bf T a 4 = ((((decide (T 9 a = 1) || b9 T (side T a 4)) || b9 T (side T a 1)) || b9 T (side T a 3)) || b9 T (side T a 2)) := rfl
  obtain ⟨x1, l1, m1, n1⟩ := hb (side T a 1)
  obtain ⟨x2, l2, m2, n2⟩ := hb (side T a 2)
  obtain ⟨x3, l3, m3, n3⟩ := hb (side T a 3)
  obtain ⟨x4, l4, m4, n4⟩ := hb (side T a 4)
  have l0 := h9 a
  rw [e2, e, m1, m2, m3, m4, n1, n2, n3, n4]
  generalize T 9 a = x0 at l0
  have : ∀ x0, x0 ≤ 1 → ∀ x1, x1 ≤ 1 → ∀ x2, x2 ≤ 1 → ∀ x3, x3 ≤ 1 → ∀ x4, x4 ≤ 1 → ((((decide (x0 = 1) || decide (x4 = 1)) || decide (x1 = 1)) || decide (x3 = 1)) || decide (x2 = 1)) = decide (0 < 0 + x0 + x1 + x2 + x3 + x4) := by decide
  exact this _ l0 _ l1 _ l2 _ l3 _ l4
theorem side_lt {T : Nat → Nat → Nat} {a k b : Nat} (hwf : qTWF T) (ha : a < 100) (h : side T a k = some b) : b < 100 := by
  unfold side at h
  have := hwf.1
  repeat' split at h
  all_goals first | (cases h; omega) | cases h
theorem isBarred_m {F q c : Nat} {T : Nat → Nat → Nat} {μ : aw_M} (hF : 100 ≤ F) (hwf : qTWF T) (tm : qTM T (μ.1 205)) (hq : q < T 0 2) (hc : c < T 0 3) : f_X11_isBarred F 203 (nI q) (nI c) μ = some (decide (3 ≤ dst (T 1 q) (T 6 c)) && decide (0 < nbr T 9 (T 6 c)), μ) := by
  have hnq := hwf.1.2.2.1
  have hnc := hwf.1.2.2.2
  have hcell : ∀ a, cellok T a → a < 100 := fun a h => by
    have := hwf.1
    unfold cellok at h
    omega
  have h1 := hcell _ (hwf.2.1 q hq).1
  have h6' := (hwf.2.2.2.1 c hc).2.1
  have h6 := hcell _ h6'
  have hd := dst_le h1 h6
  have t1 := (tm.2.2.2.1 q hq).1
  have t6 := (tm.2.2.2.2.2.1 c hc).2.1
  have t9 : ∀ b, b < 100 → μ.1 205 (127 + b) = nI (T 9 b) := fun b hb => (tm.2.2.2.2.2.2 b hb).1
  have h9 := fun b => ((hwf.2.2.2.2.1 9 (by decide) (by decide)).1 b).1
  have one : ∀ b, (nI (T 9 b) = 1 ↔ T 9 b = 1) := fun b => by
    have := h9 b
    exact nI_eq (a := T 9 b) (b := 1) (by omega) (by decide)
  have hloop : ∀ z : Bool, z = bf T (T 6 c) 0 → f_X11_isBarred_47 F 203 (nI (T 6 c)) z μ = some (bf T (T 6 c) 4, μ) := fun z hz => by
    subst hz
    unfold f_X11_isBarred_47
    refine lp_up (fun k => (nI (T 6 c), bf T (T 6 c) k, nI k, μ)) 4 _ ?_ ?_ (by omega)
    · intro k hk g
      show f_X11_isBarred_52 F 203 g (nI (T 6 c)) (bf T (T 6 c) k) (nI k) μ = g (nI (T 6 c), (bf T (T 6 c) k || b9 T (side T (T 6 c) (bperm k))), nI (k + 1), μ)
      unfold f_X11_isBarred_52 f_X11_isBarred_92 f_X11_isBarred_96 f_X11_isBarred_97
      rw [if_neg (show ¬ (4 : Int32) ≤ nI k from nI_ge (a := k) (b := 4) hk (by decide)), nI_1]
      cases hb : bf T (T 6 c) k with
      | true => rw [if_pos rfl, Bool.true_or]
      | false =>
        rw [if_neg Bool.false_ne_true, besides_eq hwf tm h6 hk, Option.bind_some, Bool.false_or]
        cases hs : side T (T 6 c) (bperm k) with
        | none =>
          rw [if_pos (show oI none < 0 by decide)]
          rfl
        | some b =>
          have hb100 := side_lt hwf h6 hs
          have eo : oI (some b) = nI b := rfl
          rw [eo, if_neg (nI_pos (by omega)), besides_eq hwf tm h6 hk, Option.bind_some, hs, eo, show (127 : Int32) + nI b = nI (127 + b) from nI_add 127 b, pI_in_t (by omega) (by decide), pg_t, rf203.2.1, nI_clamp (by omega), t9 b hb100]
          have e9 : b9 T (some b) = decide (T 9 b = 1) := rfl
          rw [e9]
          by_cases k1 : T 9 b = 1
          · rw [if_pos ((one b).2 k1), decide_eq_true k1]
          · rw [if_neg (fun h => k1 ((one b).1 h)), decide_eq_false k1]
    · intro g
      show f_X11_isBarred_52 F 203 g (nI (T 6 c)) (bf T (T 6 c) 4) (nI 4) μ = _
      unfold f_X11_isBarred_52
      rw [if_pos (show (4 : Int32) ≤ nI 4 by decide)]
  unfold f_X11_isBarred
  have e3 : (3 : Int32) = nI 3 := rfl
  rw [show (11 : Int32) + nI q = nI (11 + q) from nI_add 11 q, show (67 : Int32) + nI c = nI (67 + c) from nI_add 67 c, pI_in_t (by omega) (by decide), pg_t, plet, rf203.2.1, nI_clamp (by omega), nI_clamp (by omega), t1, t6, pI_in_t (by omega) (by decide), pg_t, apart_eq (by omega) (by omega), Option.bind_some, e3]
  by_cases k : 3 ≤ dst (T 1 q) (T 6 c)
  · rw [if_pos (nI_le k (by omega)), decide_eq_true k, Bool.true_and, show (127 : Int32) + nI (T 6 c) = nI (127 + T 6 c) from nI_add 127 _, pI_in_t (by omega) (by decide), pg_t, nI_clamp (by omega), t9 _ h6, ← bf_nbr hwf h6']
    by_cases k1 : T 9 (T 6 c) = 1
    · rw [if_pos ((one _).2 k1)]
      exact hloop true (decide_eq_true k1).symm
    · rw [if_neg (fun h => k1 ((one _).1 h))]
      exact hloop false (decide_eq_false k1).symm
  · rw [if_neg (fun h => k ((nI_leI (by omega) (by omega)).1 h)), decide_eq_false k, Bool.false_and]
