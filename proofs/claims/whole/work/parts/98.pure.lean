theorem pure_main (xs : Nat → Int32) (L : Nat) (hL : L ≤ 3072) : ∃ F, f_L_law F xs L mu_0 0 = some () := by
  sorry
