/-- what a throw of the quarter does to the cart -/
def hitN (T G : Nat → Nat → Nat) (q c d : Nat) : Nat := if 2 < d then T 3 q + G 6 q - (d + T 8 c) else T 3 q + G 6 q + 2 - T 8 c
theorem pos_part {a b : Nat} (ha : a < 1000) (hb : b < 1000) : (if 0 ≤ nI a - nI b then nI a - nI b else 0) = nI (a - b) := by
  rcases Nat.le_total b a with h | h
  · rw [nI_sub h, if_pos (nI_pos' (by omega))]
  · by_cases e : a = b
    · subst e
      rw [nI_sub h, if_pos (nI_pos' (by omega))]
    · have : ¬ 0 ≤ nI a - nI b := by
        have h1 := nI_lt (a := a) (b := b) (by omega) (by omega)
        have h2 := nI_pos' (n := a) (by omega)
        have h3 := nI_lt (a := b) (b := 1000) hb (by decide)
        have h4 : nI 1000 = 1000 := by decide
        grind
      have e2 : a - b = 0 := by omega
      rw [if_neg this, e2, nI_0]
theorem hitOf_m {F q c : Nat} {T G : Nat → Nat → Nat} {μ : aw_M} (hwf : qTWF T) (fw : qFWF T G) (tm : qTM T (μ.1 205)) (fm : qFM T G (μ.1 205)) (hq : q < T 0 2) (hc : c < T 0 3) : f_X11_hitOf F 203 (nI q) (nI c) μ = some (nI (hitN T G q c (dst (T 1 q) (T 6 c))), μ) := by
  have hnq := hwf.1.2.2.1
  have hnc := hwf.1.2.2.2
  have hcell : ∀ a, cellok T a → a < 100 := fun a h => by
    have := hwf.1
    unfold cellok at h
    omega
  have h1 := hcell _ (hwf.2.1 q hq).1
  have h3 := (hwf.2.1 q hq).2.2.2.1
  have h6 := hcell _ (hwf.2.2.2.1 c hc).2.1
  have h8 := (hwf.2.2.2.1 c hc).2.2.2
  have hg := (fw.2.1 q).2
  have hd := dst_le h1 h6
  obtain ⟨t1, -, t3⟩ := tm.2.2.2.1 q hq
  obtain ⟨-, t6, -, t8⟩ := tm.2.2.2.2.2.1 c hc
  have g6 := (fm.2.1 q hq).2.1
  unfold f_X11_hitOf f_X11_hitOf_53
  rw [show (11 : Int32) + nI q = nI (11 + q) from nI_add 11 q, show (67 : Int32) + nI c = nI (67 + c) from nI_add 67 c, show (29 : Int32) + nI q = nI (29 + q) from nI_add 29 q, show (485 : Int32) + nI q = nI (485 + q) from nI_add 485 q, show (107 : Int32) + nI c = nI (107 + c) from nI_add 107 c, pI_in_t (by omega) (by decide), pg_t, pI_in_t (by omega) (by decide), pg_t, rf203.2.1, nI_clamp (by omega), nI_clamp (by omega), t1, t6, apart_eq (by omega) (by omega), Option.bind_some, pI_in_t (by omega) (by decide), pg_t, pI_in_t (by omega) (by decide), pg_t, pI_in_t (by omega) (by decide), pg_t, pg_t, nI_clamp (by omega), nI_clamp (by omega), nI_clamp (by omega), t3, g6, t8, nI_add]
  have e2 : (2 : Int32) = nI 2 := rfl
  unfold hitN
  by_cases k : 2 < dst (T 1 q) (T 6 c)
  · rw [e2, if_pos (nI_lt k (by omega)), if_pos k, plet]
    have e : nI (T 3 q + G 6 q) + -nI (dst (T 1 q) (T 6 c)) - nI (T 8 c) = nI (T 3 q + G 6 q) - nI (dst (T 1 q) (T 6 c) + T 8 c) := by
      rw [← nI_add (dst _ _)]
      grind
    have hp := pos_part (a := T 3 q + G 6 q) (b := dst (T 1 q) (T 6 c) + T 8 c) (by omega) (by omega)
    show (if 0 ≤ nI (T 3 q + G 6 q) + -nI (dst (T 1 q) (T 6 c)) - nI (T 8 c) then some (nI (T 3 q + G 6 q) + -nI (dst (T 1 q) (T 6 c)) - nI (T 8 c), μ) else some (0, μ)) = _
    rw [e, ← hp]
    split <;> rfl
  · rw [e2, if_neg (fun h => k ((nI_ltI (by omega) (by omega)).1 h)), if_neg k, plet]
    have hp := pos_part (a := T 3 q + G 6 q + 2) (b := T 8 c) (by omega) (by omega)
    rw [nI_add, ← hp]
    split <;> rfl
