theorem bes_core {F : Nat} {X z0 z1 : Int32} {w h : Nat} {μ : aw_M} (y0 : μ.1 205 0 = nI w) (y1 : μ.1 205 1 = nI h) : f_X11_besides_47 F 203 X z0 z1 μ = some (if (0 ≤ X ∧ X ≤ nI w - 1) ∧ (0 ≤ z1 + z0 ∧ z1 + z0 ≤ nI h - 1) then 10 * (z1 + z0) + X else -1, μ) := by
  have i0 : aw_in 0 1155 = true := by decide
  have i1 : aw_in 1 1155 = true := by decide
  have c0 : (0 : Int32).toNatClampNeg = 0 := by decide
  have c1 : (1 : Int32).toNatClampNeg = 1 := by decide
  unfold f_X11_besides_47
  rw [plet, i0, pg_t, c0, rf203.2.1, y0, isIn_eq, Option.bind_some]
  by_cases k1 : 0 ≤ X ∧ X ≤ nI w - 1
  · rw [decide_eq_true k1, if_pos rfl, i1, pg_t, c1, y1, isIn_eq, Option.bind_some]
    by_cases k2 : 0 ≤ z1 + z0 ∧ z1 + z0 ≤ nI h - 1
    · rw [decide_eq_true k2, if_pos rfl, if_pos ⟨k1, k2⟩]
    · rw [decide_eq_false k2, if_neg Bool.false_ne_true, if_neg (fun q => k2 q.2)]
  · rw [decide_eq_false k1, if_neg Bool.false_ne_true, if_neg (fun q => k1 q.1)]
theorem in_w {x w : Nat} (hx : x < 1000) (hw : w < 1000) : (0 ≤ nI x ∧ nI x ≤ nI w - 1) ↔ x < w := by
  have hw0 := nI_pos' (n := w) (by omega)
  constructor
  · intro h
    have : nI x < nI w := by
      have h1 := nI_lt (a := w) (b := 1000) hw (by decide)
      have : nI 1000 = 1000 := by decide
      grind
    exact (nI_ltI (by omega) (by omega)).1 this
  · intro h
    exact ⟨(nI_b h (by omega)).1, (nI_b h (by omega)).2.2⟩
def bperm (k : Nat) : Nat := if k = 0 then 4 else if k = 1 then 1 else if k = 2 then 3 else 2
theorem besides_eq {F a k : Nat} {T : Nat → Nat → Nat} {μ : aw_M} (hwf : qTWF T) (tm : qTM T (μ.1 205)) (ha : a < 100) (hk : k < 4) : f_X11_besides F 203 (nI a) (nI k) μ = some (oI (side T a (bperm k)), μ) := by
  have y0 := tm.1.1
  have y1 := tm.1.2.1
  obtain ⟨w0, w1, -, -⟩ := hwf.1
  have e10 : (10 : Int32) = nI 10 := rfl
  have hm := Nat.mod_lt a (y := 10) (by decide)
  have hd : a / 10 < 10 := by omega
  have hdm := Nat.div_add_mod a 10
  have hk' : k = 0 ∨ k = 1 ∨ k = 2 ∨ k = 3 := by omega
  have z0 : ∀ x : Int32, x + 0 = x := fun x => by grind
  have key : ∀ (X Y : Int32) (o : Option Nat), ((0 ≤ X ∧ X ≤ nI (T 0 0) - 1) ∧ (0 ≤ Y ∧ Y ≤ nI (T 0 1) - 1) → ∃ b, o = some b ∧ 10 * Y + X = nI b) → (¬ ((0 ≤ X ∧ X ≤ nI (T 0 0) - 1) ∧ (0 ≤ Y ∧ Y ≤ nI (T 0 1) - 1)) → o = none) → (if (0 ≤ X ∧ X ≤ nI (T 0 0) - 1) ∧ (0 ≤ Y ∧ Y ≤ nI (T 0 1) - 1) then 10 * Y + X else -1) = oI o := fun X Y o h1 h2 => by
    by_cases h : (0 ≤ X ∧ X ≤ nI (T 0 0) - 1) ∧ (0 ≤ Y ∧ Y ≤ nI (T 0 1) - 1)
    · obtain ⟨b, hb, hb2⟩ := h1 h
      rw [if_pos h, hb, hb2]
      rfl
    · rw [if_neg h, h2 h]
      rfl
  have kn : ∀ (x y : Nat) (o : Option Nat), x < 1000 → y < 1000 → (x < T 0 0 ∧ y < T 0 1 → o = some (10 * y + x)) → (¬ (x < T 0 0 ∧ y < T 0 1) → o = none) → (if (0 ≤ nI x ∧ nI x ≤ nI (T 0 0) - 1) ∧ (0 ≤ nI y ∧ nI y ≤ nI (T 0 1) - 1) then 10 * nI y + nI x else -1) = oI o := fun x y o hx hy h1 h2 => by
    refine key _ _ _ (fun h => ⟨10 * y + x, h1 ?_, ?_⟩) (fun h => h2 ?_)
    · exact ⟨(in_w hx (by omega)).1 h.1, (in_w hy (by omega)).1 h.2⟩
    · rw [e10, pk_mul, nI_add]
    · intro g
      exact h ⟨(in_w hx (by omega)).2 g.1, (in_w hy (by omega)).2 g.2⟩
  unfold f_X11_besides f_X11_besides_23
  rw [e10, nI_mod (by omega) (by decide), nI_div (by omega) (by decide)]
  rcases hk' with rfl | rfl | rfl | rfl
  · rw [if_neg (show ¬ nI 0 = 1 by decide), if_neg (show ¬ nI 0 = 3 by decide), plet, if_neg (show ¬ nI 0 = 2 by decide), if_pos (show nI 0 = 0 by decide), bes_core y0 y1, z0]
    have hs : side T a (bperm 0) = if a % 10 < T 0 0 ∧ 1 ≤ a / 10 ∧ a / 10 - 1 < T 0 1 then some (a - 10) else none := rfl
    rw [hs]
    rcases Nat.eq_zero_or_pos (a / 10) with hz | hz
    · rw [hz, if_neg (show ¬ (a % 10 < T 0 0 ∧ 1 ≤ 0 ∧ 0 - 1 < T 0 1) by omega), if_neg (fun h => absurd h.2.1 (by decide))]
      rfl
    · have : nI (a / 10) + -1 = nI (a / 10 - 1) := by
        have := nI_sub (a := a / 10) (b := 1) hz
        have e1 : nI 1 = 1 := by decide
        rw [e1] at this
        rw [← this]
        grind
      rw [this]
      refine congrArg some (congrArg (fun x => (x, μ)) (kn _ _ _ (by omega) (by omega) (fun h => ?_) (fun h => ?_)))
      · rw [if_pos ⟨h.1, hz, h.2⟩]; congr 1; omega
      · rw [if_neg (fun g => h ⟨g.1, g.2.2⟩)]
  · rw [if_pos (show nI 1 = 1 by decide), plet, if_neg (show ¬ nI 1 = 2 by decide), if_neg (show ¬ nI 1 = 0 by decide), bes_core y0 y1, z0, nI_1]
    have hs : side T a (bperm 1) = if a % 10 + 1 < T 0 0 ∧ a / 10 < T 0 1 then some (a + 1) else none := rfl
    rw [hs]
    refine congrArg some (congrArg (fun x => (x, μ)) (kn _ _ _ (by omega) (by omega) (fun h => ?_) (fun h => ?_)))
    · rw [if_pos h]; congr 1; omega
    · rw [if_neg h]
  · rw [if_neg (show ¬ nI 2 = 1 by decide), if_neg (show ¬ nI 2 = 3 by decide), plet, if_pos (show nI 2 = 2 by decide), bes_core y0 y1, z0, nI_1]
    have hs : side T a (bperm 2) = if a % 10 < T 0 0 ∧ a / 10 + 1 < T 0 1 then some (a + 10) else none := rfl
    rw [hs]
    refine congrArg some (congrArg (fun x => (x, μ)) (kn _ _ _ (by omega) (by omega) (fun h => ?_) (fun h => ?_)))
    · rw [if_pos h]; congr 1; omega
    · rw [if_neg h]
  · rw [if_neg (show ¬ nI 3 = 1 by decide), if_pos (show nI 3 = 3 by decide), plet, if_neg (show ¬ nI 3 = 2 by decide), if_neg (show ¬ nI 3 = 0 by decide), bes_core y0 y1, z0]
    have hs : side T a (bperm 3) = if 1 ≤ a % 10 ∧ a % 10 - 1 < T 0 0 ∧ a / 10 < T 0 1 then some (a - 1) else none := rfl
    rw [hs]
    rcases Nat.eq_zero_or_pos (a % 10) with hz | hz
    · rw [hz, if_neg (show ¬ (1 ≤ 0 ∧ 0 - 1 < T 0 0 ∧ a / 10 < T 0 1) by omega), if_neg (fun h => absurd h.1.1 (by decide))]
      rfl
    · have : nI (a % 10) + -1 = nI (a % 10 - 1) := by
        have := nI_sub (a := a % 10) (b := 1) hz
        have e1 : nI 1 = 1 := by decide
        rw [e1] at this
        rw [← this]
        grind
      rw [this]
      refine congrArg some (congrArg (fun x => (x, μ)) (kn _ _ _ (by omega) (by omega) (fun h => ?_) (fun h => ?_)))
      · rw [if_pos ⟨hz, h.1, h.2⟩]; congr 1; omega
      · rw [if_neg (fun g => h ⟨g.2.1, g.2.2⟩)]
