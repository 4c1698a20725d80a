theorem onT_neg {F t : Nat} {v : Int32} {μ : aw_M} : f_X8_hasOn F t v (-1) μ = some (false, μ) := by
  unfold f_X8_hasOn
  rw [if_pos (by decide)]
theorem sideT {F t a k : Nat} {T : Nat → Nat → Nat} {μ : aw_M} (hwf : qTWF T) (tx : qTX T μ t) (ha : a < 100) (hk : k < 5) : f_X8_sideOf F t (nI a) (nI k) μ = some (oI (side T a k), μ) := by
  obtain ⟨w1, w2, -⟩ := hwf.1
  have x1 : μ.1 t 1 = nI (T 0 0) := tx.1.1
  have x2 : μ.1 t 2 = nI (T 0 1) := tx.1.2.1
  have hm : nI a - nI a / 10 * 10 = nI (a % 10) := by rw [show (10 : Int32) = nI 10 from rfl, nI_mod (by omega) (by decide)]
  have hd : nI a / 10 = nI (a / 10) := nI_div (b := 10) (by omega) (by decide)
  have core : ∀ (x y : Nat), x < 1000 → y < 1000 → (if nI x < 0 then some ((-1 : Int32), μ) else if nI (T 0 0) ≤ nI x then some (-1, μ) else if nI y < 0 then some (-1, μ) else if nI (T 0 1) ≤ nI y then some (-1, μ) else some (10 * nI y + nI x, μ)) = some (oI (if x < T 0 0 ∧ y < T 0 1 then some (10 * y + x) else none), μ) := fun x y hx hy => by
    rw [if_neg (nI_pos (by omega)), if_neg (nI_pos (by omega))]
    by_cases c1 : x < T 0 0
    · rw [if_neg (nI_ge c1 (by omega))]
      by_cases c2 : y < T 0 1
      · rw [if_neg (nI_ge c2 (by omega)), if_pos ⟨c1, c2⟩]
        have : (10 : Int32) * nI y + nI x = nI (10 * y + x) := by simp (disch := omega) only [pI_lit, nI_add, nI_clamp, nI_leI, nI_ltI, nI_eq, pk_mul]
        rw [this]
        rfl
      · rw [if_pos (nI_le (by omega) (by omega)), if_neg (fun h => c2 h.2)]
        rfl
    · rw [if_pos (nI_le (by omega) (by omega)), if_neg (fun h => c1 h.1)]
      rfl
  have z : ∀ x : Int32, x + 0 = x := fun x => by grind
  have p1 : nI (a % 10) + 1 = nI (a % 10 + 1) := nI_add _ 1
  have p2 : nI (a / 10) + 1 = nI (a / 10 + 1) := nI_add _ 1
  have e10 : 10 * (a / 10) + a % 10 = a := by omega
  have hk5 : k = 0 ∨ k = 1 ∨ k = 2 ∨ k = 3 ∨ k = 4 := by omega
  unfold f_X8_sideOf f_X8_sideOf_23 f_X8_sideOf_48
  rw [hm, hd, x1, x2]
  rcases hk5 with rfl | rfl | rfl | rfl | rfl
  · rw [if_neg (show ¬ nI 0 = 1 by decide), if_neg (show ¬ nI 0 = 2 by decide), plet, if_neg (show ¬ nI 0 = 3 by decide), if_neg (show ¬ nI 0 = 4 by decide), plet, z, z, core _ _ (by omega) (by omega)]
    rw [show side T a 0 = if cellok T a then some a else none from rfl, e10]
  · rw [if_pos (show nI 1 = 1 by decide), plet, if_neg (show ¬ nI 1 = 3 by decide), if_neg (show ¬ nI 1 = 4 by decide), plet, z, p1, core _ _ (by omega) (by omega)]
    rw [show side T a 1 = if a % 10 + 1 < T 0 0 ∧ a / 10 < T 0 1 then some (a + 1) else none from rfl, show 10 * (a / 10) + (a % 10 + 1) = a + 1 by omega]
  · rw [if_neg (show ¬ nI 2 = 1 by decide), if_pos (show nI 2 = 2 by decide), plet, if_neg (show ¬ nI 2 = 3 by decide), if_neg (show ¬ nI 2 = 4 by decide), plet, z]
    rw [show side T a 2 = if 1 ≤ a % 10 ∧ a % 10 - 1 < T 0 0 ∧ a / 10 < T 0 1 then some (a - 1) else none from rfl]
    by_cases c : 1 ≤ a % 10
    · have : nI (a % 10) + -1 = nI (a % 10 - 1) := by
        obtain ⟨x, hx⟩ : ∃ x, a % 10 = x + 1 := ⟨a % 10 - 1, by omega⟩
        rw [hx, Nat.add_sub_cancel, ← nI_1]
        grind
      rw [this, core _ _ (by omega) (by omega), show 10 * (a / 10) + (a % 10 - 1) = a - 1 by omega]
      refine congrArg (fun o => some (oI o, μ)) ?_
      by_cases c2 : a % 10 - 1 < T 0 0 ∧ a / 10 < T 0 1
      · rw [if_pos c2, if_pos ⟨c, c2⟩]
      · rw [if_neg c2, if_neg (fun h => c2 h.2)]
    · rw [if_pos (show nI (a % 10) + -1 < 0 by rw [show a % 10 = 0 by omega]; decide), if_neg (fun h => c h.1)]
      rfl
  · rw [if_neg (show ¬ nI 3 = 1 by decide), if_neg (show ¬ nI 3 = 2 by decide), plet, if_pos (show nI 3 = 3 by decide), plet, z, p2, core _ _ (by omega) (by omega)]
    rw [show side T a 3 = if a % 10 < T 0 0 ∧ a / 10 + 1 < T 0 1 then some (a + 10) else none from rfl, show 10 * (a / 10 + 1) + a % 10 = a + 10 by omega]
  · rw [if_neg (show ¬ nI 4 = 1 by decide), if_neg (show ¬ nI 4 = 2 by decide), plet, if_neg (show ¬ nI 4 = 3 by decide), if_pos (show nI 4 = 4 by decide), plet, z]
    rw [show side T a 4 = if a % 10 < T 0 0 ∧ 1 ≤ a / 10 ∧ a / 10 - 1 < T 0 1 then some (a - 10) else none from rfl]
    by_cases c : 1 ≤ a / 10
    · have : nI (a / 10) + -1 = nI (a / 10 - 1) := by
        obtain ⟨x, hx⟩ : ∃ x, a / 10 = x + 1 := ⟨a / 10 - 1, by omega⟩
        rw [hx, Nat.add_sub_cancel, ← nI_1]
        grind
      rw [this, core _ _ (by omega) (by omega), show 10 * (a / 10 - 1) + a % 10 = a - 10 by omega]
      refine congrArg (fun o => some (oI o, μ)) ?_
      by_cases c2 : a % 10 < T 0 0 ∧ a / 10 - 1 < T 0 1
      · rw [if_pos c2, if_pos ⟨c2.1, c, c2.2⟩]
      · rw [if_neg c2, if_neg (fun h => c2 ⟨h.1, h.2.2⟩)]
    · rw [if_neg (nI_pos (by omega)), if_pos (show nI (a / 10) + -1 < 0 by rw [show a / 10 = 0 by omega]; decide), ite_self, if_neg (fun h => c h.2.1)]
      rfl
