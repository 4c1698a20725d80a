def ckP (C P : Nat → Nat → Nat) (S : Nat → Int32) (c y : Nat) : Prop := ∀ d, d < y → ∀ i, pd (bC C) (C 0 2) c ^^^ pd (bC C) (C 0 2) d = 2 ^ i → hasV C P S d i ≤ hasV C P S c i
theorem ckP_r {C P : Nat → Nat → Nat} {S : Nat → Int32} {c : Nat} (hc : c < 2 ^ nN (bC C) (C 0 2)) : ckP C P S c (2 ^ nN (bC C) (C 0 2)) ↔ restP C P S c := by
  constructor
  · intro h i h1 h2
    refine h _ (flip_lt hc (nN_le h1 (bC_t.2 h2))) i ?_
    rw [pdx1 hc h1 (bC_t.2 h2), ← Nat.xor_assoc, Nat.xor_self, Nat.zero_xor]
  · intro h d hd i hi
    obtain ⟨h1, h2, h3⟩ := pdx2 hc hd hi
    rw [h3]
    exact h i h1 (bC_t.1 h2)
theorem check_m {F N c : Nat} {a x4 : Int32} {C P : Nat → Nat → Nat} {S : Nat → Int32} {μ : aw_M} {k133 : Int32 × Int32 × Int32 × Int32 × aw_M → Option (Int32 × aw_M)} {Q : Int32 × aw_M → Prop} (hF : 1000 ≤ F) (hq : C 0 2 ≤ 9) (h6 : nN (bC C) (C 0 2) ≤ 6) (hN : N = 2 ^ nN (bC C) (C 0 2)) (hcN : c < N) (hl : ∀ c, c < N → μ.1 216 c = nI (pd (bC C) (C 0 2) c)) (hv : ∀ c i, c < N → i < C 0 2 → μ.1 215 (9 * c + i) = hasV C P S c i) (hgo : ∀ b : Bool, (b = true ↔ restP C P S c) → T (f_X11_rests_251 F 203 k133 a (nI N) x4 (nI c) b μ) Q) : T (aw_loop (fun k s => f_X11_rests_145 F 203 k k133 s.1 s.2.1 s.2.2.1 s.2.2.2.1 s.2.2.2.2.1 s.2.2.2.2.2.1 s.2.2.2.2.2.2) F (a, nI N, x4, nI c, true, 0, μ)) Q := by
  have r29 : aw_rf 203 29 = 216 := by simp only [rf203, rf203b]
  have r28 : aw_rf 203 28 = 215 := by simp only [rf203, rf203b]
  have h64 : N ≤ 2 ^ 6 := by rw [hN]; exact Nat.pow_le_pow_right (by decide) h6
  refine T_lp (fun y s => ∃ b : Bool, s = (a, nI N, x4, nI c, b, nI y, μ) ∧ (b = true ↔ ckP C P S c y)) N (by omega) ⟨true, rfl, fun _ d h => absurd h (Nat.not_lt_zero _), fun _ => rfl⟩ ?_ ?_
  · rintro y hy _ ⟨b, rfl, hb⟩ k hk
    have hcm : c < 2 ^ nN (bC C) (C 0 2) := by rw [← hN]; exact hcN
    have hym : y < 2 ^ nN (bC C) (C 0 2) := by rw [← hN]; exact hy
    have l1 := pd_lt hq hcm
    have l2 := pd_lt hq hym
    have lx : pd (bC C) (C 0 2) c ^^^ pd (bC C) (C 0 2) y < 2 ^ 9 := Nat.xor_lt_two_pow l1 l2
    show T (f_X11_rests_145 F 203 k k133 a (nI N) x4 (nI c) b (nI y) μ) _
    unfold f_X11_rests_145
    have skip : (∀ i, pd (bC C) (C 0 2) c ^^^ pd (bC C) (C 0 2) y ≠ 2 ^ i) → T (f_X11_rests_245 F 203 k133 k a (nI N) x4 (nI c) b (nI y) μ) Q := fun hne => by
      unfold f_X11_rests_245
      rw [nI_1]
      refine hk _ ⟨b, rfl, hb.trans ⟨fun h d hd i hi => ?_, fun h d hd i hi => h d (by omega) i hi⟩⟩
      by_cases e : d = y
      · rw [e] at hi; exact absurd hi (hne i)
      · exact h d (by omega) i hi
    rw [if_neg (nI_ge hy (by omega)), pI_in_t (by omega) (by decide), pg_t, pI_in_t (by omega) (by decide), pg_t, plet, r29, nI_clamp (by omega), nI_clamp (by omega), hl c hcN, hl y hy, xor_I]
    by_cases e0 : pd (bC C) (C 0 2) c ^^^ pd (bC C) (C 0 2) y = 0
    · rw [if_pos (by rw [e0]; rfl)]
      exact skip fun i h => by
        have := Nat.two_pow_pos i
        omega
    rw [if_neg (nI_ne0 (by omega) (by omega))]
    by_cases ep : ∃ i, i < 9 ∧ pd (bC C) (C 0 2) c ^^^ pd (bC C) (C 0 2) y = 2 ^ i
    · rw [if_pos ((pow_I _ lx e0).2 ep)]
      obtain ⟨i, i9, hi⟩ := ep
      obtain ⟨i1, i2, i3⟩ := pdx2 hcm hym hi
      rw [hi]
      refine T_lp (fun j s => s = (a, nI N, x4, nI c, b, nI y, nI (2 ^ i), nI j, μ)) i (by omega) rfl ?_ ?_
      · rintro j hj _ rfl k' hk'
        show T (f_X11_rests_189 F 203 k' k133 k a (nI N) x4 (nI c) b (nI y) (nI (2 ^ i)) (nI j) μ) _
        unfold f_X11_rests_189
        rw [if_neg (fun h => by have := (shp_I i i9 j (by omega)).1 h; omega), nI_1]
        exact hk' _ rfl
      · rintro _ rfl k'
        show T (f_X11_rests_189 F 203 k' k133 k a (nI N) x4 (nI c) b (nI y) (nI (2 ^ i)) (nI i) μ) _
        unfold f_X11_rests_189
        rw [if_pos ((shp_I i i9 i i9).2 rfl)]
        have done : ∀ b' : Bool, (b' = true ↔ (b = true ∧ hasV C P S y i ≤ hasV C P S c i)) → T (f_X11_rests_243 F 203 k133 k a (nI N) x4 (nI c) (nI y) b' μ) Q := fun b' hb' => by
          unfold f_X11_rests_243 f_X11_rests_245
          rw [nI_1]
          refine hk _ ⟨b', rfl, hb'.trans ?_⟩
          rw [hb]
          constructor
          · rintro ⟨h1, h2⟩ d hd i' hi'
            by_cases e : d = y
            · rw [e, hi] at hi'
              have : i = i' := by
                have h5 : (2 ^ i).testBit i' = (2 ^ i').testBit i' := by rw [hi']
                rw [Nat.testBit_two_pow, Nat.testBit_two_pow, decide_eq_true (show i' = i' from rfl)] at h5
                exact of_decide_eq_true h5
              rw [e, ← this]; exact h2
            · exact h1 d (by omega) i' hi'
          · intro h
            exact ⟨fun d hd i' hi' => h d (by omega) i' hi', h y (by omega) i hi⟩
        have e9 : ∀ z, (9 : Int32) * nI z + nI i = nI (9 * z + i) := fun z => by simp (disch := omega) only [pI_lit, nI_add, nI_clamp, nI_leI, nI_ltI, nI_eq, pk_mul]
        unfold f_X11_rests_204 f_X11_rests_242
        by_cases ebt : b = true
        · rw [if_pos ebt, e9, e9, pI_in_t (by omega) (by decide), pg_t, pI_in_t (by omega) (by decide), pg_t, r28, nI_clamp (by omega), nI_clamp (by omega), hv y i hy i1, hv c i hcN i1]
          by_cases q : hasV C P S c i < hasV C P S y i
          · rw [if_pos q]
            exact done false ⟨fun h => absurd h Bool.false_ne_true, fun h => by have := h.2; exfalso; grind⟩
          · rw [if_neg q]
            exact done true ⟨fun _ => ⟨ebt, by grind⟩, fun _ => rfl⟩
        · rw [if_neg ebt]
          exact done false ⟨fun h => absurd h Bool.false_ne_true, fun h => absurd h.1 ebt⟩
    · rw [if_neg (fun h => ep ((pow_I _ lx e0).1 h))]
      refine skip fun i h => ep ⟨i, ?_, h⟩
      have := (pdx2 hcm hym h).1
      omega
  · rintro _ ⟨b, rfl, hb⟩ k
    have hcm : c < 2 ^ nN (bC C) (C 0 2) := by rw [← hN]; exact hcN
    show T (f_X11_rests_145 F 203 k k133 a (nI N) x4 (nI c) b (nI N) μ) _
    unfold f_X11_rests_145
    rw [if_pos (nI_le (Nat.le_refl _) (by omega))]
    refine hgo b (hb.trans ?_)
    rw [hN]
    exact ckP_r hcm
