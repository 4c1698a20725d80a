theorem rests_m {F : Nat} {a : Int32} {C P : Nat → Nat → Nat} {μ : aw_M} (hF : 3000 ≤ F) (hc : ctx C P μ) : T (f_X11_rests F 203 a μ) fun r => AgK kScr μ r.2 ∧ ((a < -1 ∨ 6 < nN (bC C) (C 0 2)) → r.1 = -1) ∧ (¬ (a < -1 ∨ 6 < nN (bC C) (C 0 2)) → RV C P (μ.1 205) (nN (bC C) (C 0 2)) a r.1) := by
  have hwf := hc.1
  have hnq := hwf.1.2.2.1
  have r29 : aw_rf 203 29 = 216 := by simp only [rf203, rf203b]
  have ag0 : AgK kScr μ (aw_wI μ 203 0 0) := (AgK.rf μ).wI kScr_3
  have hc0 := hc.sc ag0
  have s216 : ∀ {μ1 μ2}, AgK (fun a _ => decide (a ≠ 216)) μ1 μ2 → AgK kScr μ1 μ2 := fun h => h.sub fun a k h => decide_eq_true (by
    rintro rfl
    rw [kScr_s rfl] at h
    cases h)
  unfold f_X11_rests
  rw [plet, spotters_m (by omega) hc0, Option.bind_some]
  by_cases k1 : a < -1
  · rw [if_neg (show ¬ ((-1 : Int32) ≤ a) by grind), T_some]
    exact ⟨ag0, fun _ => rfl, fun h => absurd (.inl k1) h⟩
  rw [if_pos (show (-1 : Int32) ≤ a by grind)]
  refine enum_m (by omega) hc0 (fun μ' g h => ⟨ag0.tr (s216 g), fun _ => rfl, fun h2 => absurd (.inr h) h2⟩) ?_
  intro μ1 g1 h6 hl
  have hno : ¬ (a < -1 ∨ 6 < nN (bC C) (C 0 2)) := by
    rintro (h | h)
    · exact k1 h
    · omega
  have ag1 : AgK kScr μ μ1 := ag0.tr (s216 g1)
  have hc1 := hc.sc ag1
  have e205 : μ1.1 205 = μ.1 205 := ag1.a fun k => rfl
  refine allm_m hF hc1 h6 rfl hl ?_
  intro μ2 g2 h216 hv
  rw [e205] at hv
  have ag2 := ag1.tr g2
  have hl2 : ∀ c, c < 2 ^ nN (bC C) (C 0 2) → μ2.1 216 c = nI (pd (bC C) (C 0 2) c) := fun c hc => by rw [h216]; exact hl c hc
  have h64 : 2 ^ nN (bC C) (C 0 2) ≤ 2 ^ 6 := Nat.pow_le_pow_right (by decide) h6
  generalize μ.1 205 = S at hv
  unfold f_X11_rests_127
  refine T_lp (fun c s => s = (a, nI (2 ^ nN (bC C) (C 0 2)), nI (rsN C P S c), nI c, μ2) ∧ ∀ c', c' < c → restP C P S c' → a ≠ nI (rsN C P S c')) (2 ^ nN (bC C) (C 0 2)) (by omega) ⟨rfl, fun c' h => absurd h (Nat.not_lt_zero _)⟩ ?_ ?_
  · rintro c hcm _ ⟨rfl, h⟩ k hk
    show T (f_X11_rests_133 F 203 k a (nI (2 ^ nN (bC C) (C 0 2))) (nI (rsN C P S c)) (nI c) μ2) _
    unfold f_X11_rests_133
    rw [if_neg (nI_ge hcm (by omega))]
    refine check_m (by omega) hnq h6 rfl hcm hl2 hv ?_
    intro b hb
    have es : rsN C P S (c + 1) = rsN C P S c + if decide (restP C P S c) = true then 1 else 0 := rfl
    unfold f_X11_rests_251 f_X11_rests_276
    by_cases q : restP C P S c
    · rw [if_pos (decide_eq_true q)] at es
      rw [if_pos (hb.2 q)]
      by_cases e : nI (rsN C P S c) = a
      · rw [if_pos e, pI_in_t (by omega) (by decide), pg_t, r29, nI_clamp (by omega), hl2 c hcm, T_some]
        exact ⟨ag2, fun h => absurd h hno, fun _ => .inl ⟨c, hcm, q, e.symm, rfl⟩⟩
      · rw [if_neg e, nI_1, nI_1, ← es]
        refine hk _ ⟨rfl, fun c' h1 h2 => ?_⟩
        by_cases e2 : c' = c
        · subst e2; exact fun h => e h.symm
        · exact h c' (by omega) h2
    · rw [if_neg (fun h => q (of_decide_eq_true h))] at es
      rw [if_neg (fun h => q (hb.1 h)), nI_1]
      refine hk _ ⟨by rw [es]; rfl, fun c' h1 h2 => ?_⟩
      by_cases e2 : c' = c
      · subst e2; exact absurd h2 q
      · exact h c' (by omega) h2
  · rintro _ ⟨rfl, h⟩ k
    show T (f_X11_rests_133 F 203 k a (nI (2 ^ nN (bC C) (C 0 2))) (nI (rsN C P S (2 ^ nN (bC C) (C 0 2)))) (nI (2 ^ nN (bC C) (C 0 2))) μ2) _
    unfold f_X11_rests_133 f_X11_rests_282
    rw [if_pos (nI_le (Nat.le_refl _) (by omega))]
    by_cases e : a = -1
    · rw [if_pos e, T_some]
      exact ⟨ag2, fun h => absurd h hno, fun _ => .inr ⟨h, by rw [if_pos e]⟩⟩
    · rw [if_neg e, T_some]
      exact ⟨ag2, fun h => absurd h hno, fun _ => .inr ⟨h, by rw [if_neg e]⟩⟩
theorem p_rests : op_rests R := by
  intro F hF a0 μ hR
  obtain ⟨C, P, hc⟩ := ctx_of hR
  have r8 : aw_rf 0 8 = 88 := by simp only [rf0, rf1, rf4, rf5, rf19, rf23, rf28, rf39, rf53, rf67, rf71, rf76, rf88, rf97, rf101, rf109, rf110, rf124, rf128, rf133, rf144, rf156, rf157, rf171, rf175, rf180, rf191, rf51]
  obtain ⟨⟨v1, μ1⟩, e1, a1, a2, a3⟩ := resting_x (F := F) (a := a0) (by omega) hc
  have a1 : AgK kScr μ μ1 := a1
  have hc1 := hc.sc a1
  have e205 : μ1.1 205 = μ.1 205 := a1.a fun k => rfl
  refine ⟨(v1, μ1), ?_, ?_⟩
  · unfold f_X10_rests
    rw [r8, e1]
    rfl
  refine T_mono (rests_m (F := F) (a := a0) (by omega) hc1) ?_
  rintro ⟨v2, μ2⟩ ⟨b1, b2, b3⟩
  rw [e205] at b3
  refine ⟨?_, R_scr (a1.tr b1) hR⟩
  by_cases h : a0 < -1 ∨ 6 < nN (bC C) (C 0 2)
  · exact (a2 h).trans (b2 h).symm
  · exact RV_uniq (Nat.le_of_not_lt fun h6 => h (.inr h6)) (a3 h) (b3 h)
