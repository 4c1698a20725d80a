theorem pd_lt {C : Nat → Nat → Nat} {c : Nat} (hq : C 0 2 ≤ 9) (h : c < 2 ^ nN (bC C) (C 0 2)) : pd (bC C) (C 0 2) c < 512 := by
  have h1 := sb_lt (pd_sb (b := bC C) (C 0 2) c h)
  have h512 : 2 ^ (C 0 2) ≤ 2 ^ 9 := Nat.pow_le_pow_right (by decide) hq
  omega
theorem allm_m {F N : Nat} {a : Int32} {C P : Nat → Nat → Nat} {μ : aw_M} {Q : Int32 × aw_M → Prop} (hF : 3000 ≤ F) (hc : ctx C P μ) (h6 : nN (bC C) (C 0 2) ≤ 6) (hN : N = 2 ^ nN (bC C) (C 0 2)) (hl : ∀ c, c < N → μ.1 216 c = nI (pd (bC C) (C 0 2) c)) (hgo : ∀ μ', AgK kScr μ μ' → μ'.1 216 = μ.1 216 → (∀ c i, c < N → i < C 0 2 → μ'.1 215 (9 * c + i) = hasV C P (μ.1 205) c i) → T (f_X11_rests_127 F 203 a (nI N) μ') Q) : T (f_X11_rests_65 F 203 a (nI N) μ) Q := by
  have hwf := hc.1
  have hnq := hwf.1.2.2.1
  have r29 : aw_rf 203 29 = 216 := by simp only [rf203, rf203b]
  have r28 : aw_rf 203 28 = 215 := by simp only [rf203, rf203b]
  have r23 : aw_rf 203 23 = 211 := by simp only [rf203, rf203b]
  have h64 : N ≤ 2 ^ 6 := by rw [hN]; exact Nat.pow_le_pow_right (by decide) h6
  unfold f_X11_rests_65
  refine T_lp (fun c s => ∃ μ', s = (a, nI N, nI c, μ') ∧ AgK kScr μ μ' ∧ μ'.1 216 = μ.1 216 ∧ ∀ c' i, c' < c → i < C 0 2 → μ'.1 215 (9 * c' + i) = hasV C P (μ.1 205) c' i) N (by omega) ⟨μ, rfl, AgK.rf μ, rfl, fun c' i h => absurd h (Nat.not_lt_zero _)⟩ ?_ ?_
  · rintro c hcN _ ⟨μ1, rfl, ag, h216, hs⟩ k hk
    have hc1 := hc.sc ag
    have e205 : μ1.1 205 = μ.1 205 := ag.a fun k => rfl
    have hcm : c < 2 ^ nN (bC C) (C 0 2) := by rw [← hN]; exact hcN
    have hpl := pd_lt hnq hcm
    have hsp : spOK C (pd (bC C) (C 0 2) c) := sb_sp.1 (pd_sb _ c hcm)
    show T (f_X11_rests_68 F 203 k a (nI N) (nI c) μ1) _
    unfold f_X11_rests_68
    rw [if_neg (nI_ge hcN (by omega)), pI_in_t (by omega) (by decide), pg_t, r29, nI_clamp (by omega), h216, hl c hcN]
    refine T_call (stands_m (by omega) hc1 (by omega) hsp) ?_
    rintro μ2 ⟨d1, d2, d3⟩
    rw [e205] at d2
    refine T_lp (fun i s => ∃ μ', s = (a, nI N, nI c, nI i, μ') ∧ AgK (fun a _ => decide (a ≠ 215)) μ2 μ' ∧ (∀ c' i, c' < c → i < C 0 2 → μ'.1 215 (9 * c' + i) = hasV C P (μ.1 205) c' i) ∧ ∀ i', i' < i → μ'.1 215 (9 * c + i') = μ2.1 211 i') 9 (by omega) ⟨μ2, rfl, AgK.rf μ2, fun c' i h1 h2 => by rw [d3 215 (by decide) (by decide) (by decide)]; exact hs c' i h1 h2, fun i' h => absurd h (Nat.not_lt_zero _)⟩ ?_ ?_
    · rintro i hi _ ⟨μ3, rfl, ag3, g1, g2⟩ k' hk'
      have e9 : (9 : Int32) * nI c + nI i = nI (9 * c + i) := by simp (disch := omega) only [pI_lit, nI_add, nI_clamp, nI_leI, nI_ltI, nI_eq, pk_mul]
      show T (f_X11_rests_88 F 203 k' k a (nI N) (nI c) (nI i) μ3) _
      unfold f_X11_rests_88
      rw [if_neg (show ¬ ((9 : Int32) ≤ nI i) from (show ¬ (nI 9 ≤ nI i) from nI_ge hi (by decide))), e9, pI_in_t (by omega) (by decide), pg_t, pI_in_t (by omega) (by decide), pg_t, plet, r28, r23, nI_clamp (by omega), nI_clamp (by omega), (ag3 211 i rfl).1, nI_1]
      refine hk' _ ⟨_, rfl, ag3.wI rfl, fun c' i' h1 h2 => ?_, fun i' h => ?_⟩
      · rw [rI_k (by omega)]
        exact g1 c' i' h1 h2
      · by_cases e : i' = i
        · rw [e, rI_s]
        · rw [rI_k (by omega)]
          exact g2 i' (by omega)
    · rintro _ ⟨μ3, rfl, ag3, g1, g2⟩ k'
      show T (f_X11_rests_88 F 203 k' k a (nI N) (nI c) (nI 9) μ3) _
      unfold f_X11_rests_88 f_X11_rests_121
      rw [if_pos (show (9 : Int32) ≤ nI 9 by decide), nI_1]
      refine hk _ ⟨μ3, rfl, (ag.tr d1).tr (ag3.sub fun a k h => decide_eq_true ?_), ?_, fun c' i h1 h2 => ?_⟩
      · rintro rfl
        rw [kScr_s rfl] at h
        cases h
      · rw [ag3.a fun k => rfl, d3 216 (by decide) (by decide) (by decide), h216]
      · by_cases e : c' = c
        · rw [e, g2 i (by omega), d2 i h2]
          rfl
        · exact g1 c' i (by omega) h2
  · rintro _ ⟨μ1, rfl, ag, h216, hs⟩ k
    show T (f_X11_rests_68 F 203 k a (nI N) (nI N) μ1) _
    unfold f_X11_rests_68
    rw [if_pos (nI_le (Nat.le_refl _) (by omega))]
    exact hgo μ1 ag h216 hs
