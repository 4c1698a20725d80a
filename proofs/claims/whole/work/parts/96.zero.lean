/-! the state at the start -/
theorem z0_5 : mu_0.1 5 1 = 0 ∧ mu_0.1 5 2 = 0 ∧ mu_0.1 5 3 = 0 ∧ mu_0.1 5 4 = 0 ∧ (∀ q, q < 9 → mu_0.1 10 q = nI 0 - 1) ∧ (∀ i, i < 3 → mu_0.1 15 i = 0) ∧ ∀ i, i < 4 → mu_0.1 18 i = nI (T00 12 i) := by decide +kernel
theorem z0_16 : ∀ a, a < 100 → mu_0.1 16 a = 0 ∧ mu_0.1 17 a = -1 := by decide +kernel
theorem z0_205 : ∀ i, i < 427 → mu_0.1 205 i = if 7 ≤ i ∧ i < 10 then 1 else 0 := by decide +kernel
theorem z0_205b : ∀ i, i < 548 → mu_0.1 205 (427 + i) = 0 := by decide +kernel
theorem z0_19 : mu_0.1 19 0 = 0 ∧ mu_0.1 23 1 = 0 ∧ ∀ q, q < 9 → mu_0.1 20 q = -1 ∧ mu_0.1 21 q = -1 ∧ mu_0.1 22 q = -1 := by decide +kernel
theorem z0_39 : (mu_0.1 39 3 = 0 ∧ mu_0.1 39 4 = 0 ∧ mu_0.1 39 5 = 0 ∧ mu_0.1 39 6 = 0 ∧ mu_0.1 39 7 = 0 ∧ mu_0.1 39 18 = 0) ∧ (∀ k, k < 3 → mu_0.1 40 k = 0) ∧ ∀ a, a < 100 → mu_0.1 48 a = 0 ∧ mu_0.1 49 a = 0 := by decide +kernel
theorem z0_28 : mu_0.1 28 4 = 0 ∧ mu_0.1 28 7 = 0 ∧ (∀ a, a < 100 → mu_0.1 34 a = 0) ∧ ∀ m, m < 240 → mu_0.1 35 m = -1 := by decide +kernel
theorem z0_1 : mu_0.1 1 1 = 0 ∧ mu_0.1 203 2 = 0 ∧ mu_0.1 0 11 = 0 ∧ mu_0.1 203 15 = 0 ∧ (∀ k, k < 2 → mu_0.1 52 k = 0 ∧ mu_0.1 229 k = 0) := by decide +kernel
theorem z0_p : mu_0.1 203 26 = 0 ∧ mu_0.1 97 2 = 0 ∧ mu_0.1 203 31 = 0 ∧ mu_0.1 101 0 = 0 ∧ mu_0.1 203 35 = 0 ∧ mu_0.1 101 8 = 0 ∧ mu_0.1 203 38 = 0 ∧ mu_0.1 88 10 = 0 ∧ mu_0.1 203 41 = 0 ∧ mu_0.1 99 0 = 0 ∧ ∀ d, d < 3 → mu_0.1 98 d = -1 := by decide +kernel
theorem z0_k : ∀ i, i < 20 → mu_0.2 3 i = e27 (kw i) ∧ mu_0.2 209 i = e8 (kw i) := by decide +kernel
