def rsN (C P : Nat → Nat → Nat) (S : Nat → Int32) (k : Nat) : Nat := cN (fun c => decide (restP C P S c)) k
/-- what is answered -/
def RV (C P : Nat → Nat → Nat) (S : Nat → Int32) (m : Nat) (a v : Int32) : Prop := (∃ c, c < 2 ^ m ∧ restP C P S c ∧ a = nI (rsN C P S c) ∧ v = nI (pd (bC C) (C 0 2) c)) ∨ ((∀ c, c < 2 ^ m → restP C P S c → a ≠ nI (rsN C P S c)) ∧ v = if a = -1 then nI (rsN C P S (2 ^ m)) else -1)
theorem cN_le {p : Nat → Bool} : ∀ k, cN p k ≤ k
  | 0 => Nat.le_refl _
  | k + 1 => by
    have := cN_le (p := p) k
    show cN p k + (if p k = true then 1 else 0) ≤ k + 1
    split <;> omega
theorem RV_uniq {C P : Nat → Nat → Nat} {S : Nat → Int32} {m : Nat} {a v v' : Int32} (h6 : m ≤ 6) (h : RV C P S m a v) (h' : RV C P S m a v') : v = v' := by
  have h64 : 2 ^ m ≤ 64 := Nat.pow_le_pow_right (n := 2) (by decide) h6
  rcases h with ⟨c, c1, c2, c3, c4⟩ | ⟨h1, h2⟩ <;> rcases h' with ⟨d, d1, d2, d3, d4⟩ | ⟨h3, h4⟩
  · have e : rsN C P S c = rsN C P S d := by
      have l1 := cN_le (p := fun c => decide (restP C P S c)) c
      have l2 := cN_le (p := fun c => decide (restP C P S c)) d
      unfold rsN at c3 d3 ⊢
      rw [c3] at d3
      exact (nI_eq (by omega) (by omega)).1 d3
    have : c = d := by
      by_cases e2 : c = d
      · exact e2
      · exfalso
        rcases Nat.lt_or_gt_of_ne e2 with h | h
        · have := cN_lt (p := fun c => decide (restP C P S c)) h (decide_eq_true c2)
          unfold rsN at e; omega
        · have := cN_lt (p := fun c => decide (restP C P S c)) h (decide_eq_true d2)
          unfold rsN at e; omega
    rw [c4, d4, this]
  · exact absurd c3 (h3 c c1 c2)
  · exact absurd d3 (h1 d d1 d2)
  · rw [h2, h4]
theorem resting_x {F : Nat} {a : Int32} {C P : Nat → Nat → Nat} {μ : aw_M} (hF : 2000 ≤ F) (hc : ctx C P μ) : T (f_X5_restingSpots F 88 a μ) fun r => AgK kScr μ r.2 ∧ ((a < -1 ∨ 6 < nN (bC C) (C 0 2)) → r.1 = -1) ∧ (¬ (a < -1 ∨ 6 < nN (bC C) (C 0 2)) → RV C P (μ.1 205) (nN (bC C) (C 0 2)) a r.1) := by
  have hwf := hc.1
  have hnq := hwf.1.2.2.1
  have hmq := nN_q (b := bC C) (C 0 2)
  unfold f_X5_restingSpots
  refine T_call (listSpotted_x (by omega) hc) ?_
  rintro ⟨v, μ1⟩ ⟨e1, ag1, hl⟩
  have e1 : v = nI (nN (bC C) (C 0 2)) := e1
  subst e1
  have ag1 : AgK (fun a _ => decide (a ≠ 94)) μ μ1 := ag1
  have hl : slI C (C 0 2) (μ1.1 94) := hl
  generalize hm : nN (bC C) (C 0 2) = m at *
  have sc1 : AgK kScr μ μ1 := ag1.sub fun a k h => decide_eq_true (by
    rintro rfl
    cases h)
  by_cases k1 : a < -1
  · rw [if_pos k1, T_some]
    exact ⟨sc1, fun _ => rfl, fun h => absurd (.inl k1) h⟩
  rw [if_neg k1]
  by_cases k2 : m ≤ 6
  · rw [if_pos (show nI m ≤ (6 : Int32) from (show nI m ≤ nI 6 from nI_le k2 (by omega)))]
    have hno : ¬ (a < -1 ∨ 6 < m) := by
      rintro (h | h)
      · exact k1 h
      · omega
    have h64 : 2 ^ m ≤ 64 := Nat.pow_le_pow_right (n := 2) (by decide) k2
    have hc1 : ctx C P μ1 := hc.sc sc1
    have e205 : μ1.1 205 = μ.1 205 := ag1.a fun k => rfl
    refine T_call (fillHas_x hF hc1 hm.symm k2 hl) ?_
    rintro μ2 ⟨ag2, hs⟩
    rw [e205] at hs
    have hl2 : slI C (C 0 2) (μ2.1 94) := by
      rw [ag2.a fun k => rfl]
      exact hl
    have sc2 : AgK kScr μ μ2 := sc1.tr (ag2.sub fun a k h => by
      refine decide_eq_true ?_
      by_cases e : 89 ≤ a ∧ a ≤ 95
      · rw [kScr_s (by unfold scr; exact decide_eq_true (by omega))] at h
        cases h
      · omega)
    generalize μ.1 205 = S at hs
    refine T_lp (fun c s => s = (a, nI m, nI (rsN C P S c), nI c, μ2) ∧ ∀ c', c' < c → restP C P S c' → a ≠ nI (rsN C P S c')) (2 ^ m) (by omega) ⟨rfl, fun c' h => absurd h (Nat.not_lt_zero _)⟩ ?_ ?_
    · rintro c hcm _ ⟨rfl, h⟩ k hk
      show T (f_X5_restingSpots_28 F 88 k a (nI m) (nI (rsN C P S c)) (nI c) μ2) _
      unfold f_X5_restingSpots_28 f_X5_restingSpots_51 f_X5_restingSpots_62
      rw [shl6 m (by omega), if_neg (nI_ge hcm (by omega))]
      refine T_call (isAtRest_x (by omega) hm.symm k2 hcm hs) ?_
      rintro ⟨b, μ3⟩ ⟨e3, e4⟩
      have e3 : μ3 = μ2 := e3
      subst e3
      have e4 : b = true ↔ restP C P S c := e4
      have es : rsN C P S (c + 1) = rsN C P S c + if decide (restP C P S c) = true then 1 else 0 := rfl
      by_cases q : restP C P S c
      · rw [if_pos (decide_eq_true q)] at es
        rw [if_pos (e4.2 q)]
        by_cases e : nI (rsN C P S c) = a
        · rw [if_pos e]
          dsimp only
          rw [spotsOf_x (by omega) (by omega) hm.symm k2 hcm hl2, Option.bind_some, T_some]
          exact ⟨sc2, fun h => absurd h hno, fun _ => .inl ⟨c, hcm, q, e.symm, rfl⟩⟩
        · rw [if_neg e, nI_1, nI_1, ← es]
          refine hk _ ⟨rfl, fun c' h1 h2 => ?_⟩
          by_cases e2 : c' = c
          · subst e2; exact fun h => e h.symm
          · exact h c' (by omega) h2
      · rw [if_neg (fun h => q (of_decide_eq_true h))] at es
        rw [if_neg (fun h => q (e4.1 h)), nI_1]
        refine hk _ ⟨by rw [es]; rfl, fun c' h1 h2 => ?_⟩
        by_cases e2 : c' = c
        · subst e2; exact absurd h2 q
        · exact h c' (by omega) h2
    · rintro _ ⟨rfl, h⟩ k
      show T (f_X5_restingSpots_28 F 88 k a (nI m) (nI (rsN C P S (2 ^ m))) (nI (2 ^ m)) μ2) _
      unfold f_X5_restingSpots_28 f_X5_restingSpots_68
      rw [shl6 m (by omega), if_pos (nI_le (Nat.le_refl _) (by omega))]
      by_cases e : a = -1
      · rw [if_pos e, T_some]
        exact ⟨sc2, fun h => absurd h hno, fun _ => .inr ⟨h, by rw [if_pos e]⟩⟩
      · rw [if_neg e, T_some]
        exact ⟨sc2, fun h => absurd h hno, fun _ => .inr ⟨h, by rw [if_neg e]⟩⟩
  · rw [if_neg (show ¬ (nI m ≤ (6 : Int32)) from (show ¬ (nI m ≤ nI 6) from nI_ge (by omega) (by omega))), T_some]
    exact ⟨sc1, fun _ => rfl, fun h => absurd (.inr (by omega)) h⟩
