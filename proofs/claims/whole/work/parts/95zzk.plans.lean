/-! reading: steps of both sides together -/
theorem rstep {F n lim p : Nat} {B : Nat → Nat} {μ ν : aw_M} (hF : 2000 ≤ F) (px : PXk B n lim p μ) (pm : PMk B n lim p ν) (hK : tK B n lim p ≠ 4 ∧ tK B n lim p ≠ 5) : RT (f_X6_step F 1 μ) (f_X11_next F 203 ν) fun μ' ν' => AgK kXs μ μ' ∧ AgK kXm ν ν' ∧ p < tN B n lim p ∧ PXk B n lim (tN B n lim p) μ' ∧ PMk B n lim (tN B n lim p) ν' := by
  refine T_mono (pstep_x hF px hK) ?_
  rintro μ' ⟨a1, a2⟩
  refine T_mono (pstep_m hF pm hK) ?_
  rintro ν' ⟨b1, b2⟩
  exact ⟨a1, b1, (tN_p px.1 hK).1, a2, b2⟩
theorem kXs_p {μ μ' : aw_M} (h : AgK kXs μ μ') : AgK kXp μ μ' := h.sub fun a k h => decide_eq_true (by have := of_decide_eq_true h; omega)
theorem kXm_p {μ μ' : aw_M} (h : AgK kXm μ μ') : AgK kMp μ μ' := h.sub fun a k h => decide_eq_true (by have := of_decide_eq_true h; omega)
/-- both fail alike -/
theorem rfail {F n lim p v : Nat} {B : Nat → Nat} {μ ν : aw_M} (hv : 1 ≤ v ∧ v ≤ 4) (px : PXk B n lim p μ) (pm : PMk B n lim p ν) : RT (f_X6_fail F 1 (nI v) μ) (f_X11_bad F 203 (nI v) ν) fun r1 r2 => AgK kXp μ r1.2 ∧ AgK kMp ν r2.2 ∧ r1.1 = false ∧ r2.1 = false ∧ FF n r1.2 r2.2 := by
  refine T_mono (fail_x px) ?_
  rintro ⟨r1, μ'⟩ ⟨a1, a2, a3, a4⟩
  refine T_mono (bad_m pm) ?_
  rintro ⟨r2, ν'⟩ ⟨b1, b2, b3, b4⟩
  exact ⟨a2, b2, a1, b1, v, _, hv.1, hv.2, tS_le px.1, a3, a4, b3, b4⟩
theorem rsign {F n lim p c : Nat} {B : Nat → Nat} {μ ν : aw_M} (hF : 2000 ≤ F) (hc : c < 256) (px : PXk B n lim p μ) (pm : PMk B n lim p ν) : RT (f_X6_passSign F 1 (nI c) μ) (f_X11_sign F 203 (nI c) ν) fun r1 r2 => AgK kXp μ r1.2 ∧ AgK kMp ν r2.2 ∧ ((r1.1 = true ∧ r2.1 = true ∧ ∃ p', p < p' ∧ PXk B n lim p' r1.2 ∧ PMk B n lim p' r2.2 ∧ r2.2.1 203 15 = ν.1 203 15) ∨ (r1.1 = false ∧ r2.1 = false ∧ FF n r1.2 r2.2)) := by
  unfold f_X6_passSign f_X11_sign
  rw [atSign_x px hc, isSign_m pm hc, Option.bind_some, Option.bind_some]
  dsimp only
  by_cases h : isSg B n lim p c = true
  · rw [if_pos h, if_pos h]
    have hK : tK B n lim p = 3 := (of_decide_eq_true h).1
    refine RT_call (rstep hF px pm (by rw [hK]; decide)) ?_
    rintro μ' ν' ⟨a1, a2, a3, a4, a5⟩
    rw [RT_some]
    exact ⟨kXs_p a1, kXm_p a2, .inl ⟨rfl, rfl, _, a3, a4, a5, (a2 203 15 (decide_eq_true (by omega))).1⟩⟩
  · rw [if_neg h, if_neg h]
    refine RT_call (rfail (v := 1) (by decide) px pm) ?_
    rintro ⟨r1, μ'⟩ ⟨r2, ν'⟩ ⟨a1, a2, a3, a4, a5⟩
    rw [RT_some]
    exact ⟨a1, a2, .inr ⟨a3, a4, a5⟩⟩
def kXa (x i : Nat) (a k : Nat) : Bool := decide (¬ (a = 1 ∧ 4 ≤ k ∧ k ≤ 12) ∧ ¬ (a = x ∧ k = i))
theorem passNum_x {F n lim p lo hi x i z : Nat} {B : Nat → Nat} {μ : aw_M} (hF : 2000 ≤ F) (px : PXk B n lim p μ) (hlo : lo < 1000) (hhi : hi < 1001) (hx : 3 < x) (hz : (aw_sh x).2 = z) (hz2 : z < 2000) (hi2 : i < z) : T (f_X6_passNumber F 1 x (nI lo) (nI hi - 1) (nI i) μ) fun r => AgK (kXa x i) μ r.2 ∧ ((nu B n lim p lo hi = 0 ∧ r.1 = true ∧ PXk B n lim (tN B n lim p) r.2 ∧ r.2.1 x i = nI (tVl B n p)) ∨ (nu B n lim p lo hi ≠ 0 ∧ r.1 = false ∧ r.2.1 1 11 = nI (nu B n lim p lo hi) ∧ r.2.1 1 12 = nI (tSt B n lim p))) := by
  unfold f_X6_passNumber
  refine T_call (see_x px hlo hhi) ?_
  rintro ⟨r1, μ1⟩ h
  rcases h with ⟨h0, h⟩ | ⟨h0, h1, h2, h3, h4⟩
  · cases h
    dsimp only
    have hK : tK B n lim p = 2 := by
      unfold nu at h0
      by_cases c : tK B n lim p = 2
      · exact c
      · rw [if_neg c] at h0; cases h0
    rw [if_pos rfl, hz, if_neg (nI_pos (by omega)), if_neg (show ¬ Int32.ofNat z ≤ nI i from (show ¬ nI z ≤ nI i from nI_ge hi2 (by omega))), pI_in_t hi2 (by omega), pg_t, plet, nI_clamp (by omega), px.2.2.2.2.2.2.2.1 hK]
    unfold f_X6_passNumber_31
    have ag1 : AgK (kXa x i) μ (aw_wI μ x i (nI (tVl B n p))) := (AgK.rf μ).wI (decide_eq_false (by omega))
    have px1 : PXk B n lim p (aw_wI μ x i (nI (tVl B n p))) := PXk_ag (K := fun a k => decide (¬ (a = x ∧ k = i))) ((AgK.rf μ).wI (decide_eq_false (by omega))) (fun a k h => decide_eq_true (by omega)) px
    have e1 : (aw_wI μ x i (nI (tVl B n p))).1 x i = nI (tVl B n p) := rI_s
    generalize aw_wI μ x i (nI (tVl B n p)) = μ2 at ag1 px1 e1 ⊢
    refine T_call (pstep_x hF px1 (by rw [hK]; decide)) ?_
    rintro μ3 ⟨ag3, px3⟩
    rw [T_some]
    refine ⟨ag1.tr (ag3.sub fun a k h => decide_eq_true (by have := of_decide_eq_true h; omega)), .inl ⟨h0, rfl, px3, ?_⟩⟩
    show μ3.1 x i = _
    rw [(ag3 x i (decide_eq_true (by omega))).1]
    exact e1
  · dsimp only at h1 h2 h3 h4 ⊢
    subst h1
    rw [if_neg Bool.false_ne_true, T_some]
    exact ⟨h2.sub fun a k h => decide_eq_true (by have := of_decide_eq_true h; omega), .inr ⟨h0, rfl, h3, h4⟩⟩
theorem nu_le (B : Nat → Nat) (n lim p lo hi : Nat) : nu B n lim p lo hi ≤ 2 := by
  unfold nu
  split
  · split <;> omega
  · omega
theorem nu_0 {B : Nat → Nat} {n lim p lo hi : Nat} (h : nu B n lim p lo hi = 0) : tK B n lim p = 2 ∧ lo ≤ tVl B n p ∧ tVl B n p < hi := by
  unfold nu at h
  by_cases c : tK B n lim p = 2
  · rw [if_pos c] at h
    by_cases d : lo ≤ tVl B n p ∧ tVl B n p < hi
    · exact ⟨c, d⟩
    · rw [if_neg d] at h; cases h
  · rw [if_neg c] at h; cases h
/-- a number, read into a row by the class and taken by the reference -/
theorem rnum {F n lim p lo hi x i z : Nat} {B : Nat → Nat} {μ ν : aw_M} {lo' hi' i' : Int32} (hF : 2000 ≤ F) (px : PXk B n lim p μ) (pm : PMk B n lim p ν) (elo : lo' = nI lo) (ehi : hi' = nI hi - 1) (ei : i' = nI i) (hlo : lo < 1000) (hhi : hi < 1001) (hx : 3 < x) (hz : (aw_sh x).2 = z) (hz2 : z < 2000) (hi2 : i < z) : RT (f_X6_passNumber F 1 x lo' hi' i' μ) (f_X11_takes F 203 lo' hi' ν) fun r1 r2 => AgK (kXa x i) μ r1.2 ∧ AgK kMp ν r2.2 ∧ ((r1.1 = true ∧ r2.1 = true ∧ ∃ p' v, lo ≤ v ∧ v < hi ∧ p < p' ∧ PXk B n lim p' r1.2 ∧ PMk B n lim p' r2.2 ∧ r1.2.1 x i = nI v ∧ r2.2.1 203 18 = nI v ∧ r2.2.1 203 15 = ν.1 203 15) ∨ (r1.1 = false ∧ r2.1 = false ∧ FF n r1.2 r2.2)) := by
  subst elo ehi ei
  refine T_mono (passNum_x hF px hlo hhi hx hz hz2 hi2) ?_
  rintro ⟨r1, μ'⟩ ⟨a1, a2⟩
  refine T_mono (takes_m hF pm hlo hhi) ?_
  rintro ⟨r2, ν'⟩ b
  dsimp only at a1 a2 b ⊢
  have hn := nu_le B n lim p lo hi
  rcases a2 with ⟨h0, h1, h2, h3⟩ | ⟨h0, h1, h2, h3⟩
  · rcases b with ⟨-, b1, b2, b3, b4, b5⟩ | ⟨b0, -⟩
    · obtain ⟨n1, n2, n3⟩ := nu_0 h0
      exact ⟨a1, b2, .inl ⟨h1, b1, _, _, n2, n3, (tN_p px.1 (by rw [n1]; decide)).1, h2, b3, h3, b4, b5⟩⟩
    · exact absurd h0 b0
  · rcases b with ⟨b0, -⟩ | ⟨-, b1, b2, b3, b4⟩
    · exact absurd b0 h0
    · exact ⟨a1, b2, .inr ⟨h1, b1, _, _, by omega, by omega, tS_le px.1, h2, h3, b3, b4⟩⟩
