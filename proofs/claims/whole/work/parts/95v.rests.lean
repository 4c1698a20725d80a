theorem sb_sp {C : Nat → Nat → Nat} {x : Nat} : sb (bC C) (C 0 2) x = true ↔ spOK C x := by
  rw [sb_bit]
  exact ⟨fun h i hi => ⟨(h i hi).1, bC_t.1 (h i hi).2⟩, fun h i hi => ⟨(h i hi).1, bC_t.2 (h i hi).2⟩⟩
theorem sp_le {C : Nat → Nat → Nat} {x : Nat} (h : spOK C x) : x ≤ spM C (C 0 2) := by
  have : x &&& spM C (C 0 2) = x := Nat.eq_of_testBit_eq fun i => by
    rw [Nat.testBit_and, spM_tb]
    cases e : x.testBit i with
    | false => rfl
    | true => rw [decide_eq_true (h i ((bit_tb x i).1 e))]; rfl
  rw [← this]
  exact Nat.and_le_right
theorem cN_M {C : Nat → Nat → Nat} : cN (sb (bC C) (C 0 2)) (spM C (C 0 2) + 1) = 2 ^ nN (bC C) (C 0 2) := by
  have h := (spM_lt C (C 0 2))
  rw [← cN_sb]
  obtain ⟨d, hd⟩ : ∃ d, 2 ^ (C 0 2) = (spM C (C 0 2) + 1) + d := ⟨2 ^ (C 0 2) - (spM C (C 0 2) + 1), by omega⟩
  rw [hd, cN_add _ (spM C (C 0 2) + 1) d]
  have : cN (fun y => sb (bC C) (C 0 2) (spM C (C 0 2) + 1 + y)) d = cN (fun _ => false) d := cN_ext _ fun y hy => by
    cases e : sb (bC C) (C 0 2) (spM C (C 0 2) + 1 + y) with
    | false => rfl
    | true => have := sp_le (sb_sp.1 e); omega
  rw [this]
  have h0 : ∀ d, cN (fun _ => false) d = 0 := fun d => by
    induction d with
    | zero => rfl
    | succ k ih => show cN _ k + 0 = 0; rw [ih]
  rw [h0]
  rfl
theorem enum_m {F : Nat} {a : Int32} {C P : Nat → Nat → Nat} {μ : aw_M} {Q : Int32 × aw_M → Prop} (hF : 2000 ≤ F) (hc : ctx C P μ) (hbad : ∀ μ', AgK (fun a _ => decide (a ≠ 216)) μ μ' → 6 < nN (bC C) (C 0 2) → Q (-1, μ')) (hgo : ∀ μ', AgK (fun a _ => decide (a ≠ 216)) μ μ' → nN (bC C) (C 0 2) ≤ 6 → (∀ c, c < 2 ^ nN (bC C) (C 0 2) → μ'.1 216 c = nI (pd (bC C) (C 0 2) c)) → T (f_X11_rests_65 F 203 a (nI (2 ^ nN (bC C) (C 0 2))) μ') Q) : T (aw_loop (fun k s => f_X11_rests_22 F 203 k s.1 s.2.1 s.2.2.1 s.2.2.2.1 s.2.2.2.2) F (a, nI (spM C (C 0 2)), 0, 0, μ)) Q := by
  have hwf := hc.1
  have hnq := hwf.1.2.2.1
  have r29 : aw_rf 203 29 = 216 := by simp only [rf203, rf203b]
  have hM := (spM_lt C (C 0 2))
  have h512 : 2 ^ (C 0 2) ≤ 2 ^ 9 := Nat.pow_le_pow_right (by decide) hnq
  have hcM := cN_M (C := C)
  have mono : ∀ x, x ≤ spM C (C 0 2) + 1 → cN (sb (bC C) (C 0 2)) x ≤ cN (sb (bC C) (C 0 2)) (spM C (C 0 2) + 1) := fun x hx => by
    obtain ⟨d, hd⟩ : ∃ d, spM C (C 0 2) + 1 = x + d := ⟨_, (Nat.add_sub_cancel' hx).symm⟩
    rw [hd, cN_add]
    omega
  refine T_lp (fun x s => ∃ μ', s = (a, nI (spM C (C 0 2)), nI (cN (sb (bC C) (C 0 2)) x), nI x, μ') ∧ AgK (fun a _ => decide (a ≠ 216)) μ μ' ∧ cN (sb (bC C) (C 0 2)) x ≤ 64 ∧ ∀ c, c < cN (sb (bC C) (C 0 2)) x → μ'.1 216 c = nI (pd (bC C) (C 0 2) c)) (spM C (C 0 2) + 1) (by omega) ⟨μ, rfl, AgK.rf μ, Nat.zero_le _, fun c h => absurd h (Nat.not_lt_zero _)⟩ ?_ ?_
  · rintro x hx _ ⟨μ1, rfl, ag, h64, h⟩ k hk
    show T (f_X11_rests_22 F 203 k a (nI (spM C (C 0 2))) (nI (cN (sb (bC C) (C 0 2)) x)) (nI x) μ1) _
    unfold f_X11_rests_22 f_X11_rests_59
    rw [if_neg (nI_nlt (by omega) (by omega))]
    have es : cN (sb (bC C) (C 0 2)) (x + 1) = cN (sb (bC C) (C 0 2)) x + if sb (bC C) (C 0 2) x = true then 1 else 0 := rfl
    by_cases q : spOK C x
    · rw [if_pos (sb_sp.2 q)] at es
      have hp := pd_cN (sb_sp.2 q)
      have hm := mono (x + 1) (by omega)
      rw [if_pos ((spOK_m (by omega)).2 q)]
      by_cases e : cN (sb (bC C) (C 0 2)) x = 64
      · rw [if_pos (show nI (cN (sb (bC C) (C 0 2)) x) = 64 by rw [e]; rfl), T_some]
        refine hbad μ1 ag ?_
        refine Nat.lt_of_not_le fun h6 => ?_
        have : 2 ^ nN (bC C) (C 0 2) ≤ 2 ^ 6 := Nat.pow_le_pow_right (by decide) h6
        omega
      · rw [if_neg (show ¬ (nI (cN (sb (bC C) (C 0 2)) x) = 64) from (show ¬ (nI (cN (sb (bC C) (C 0 2)) x) = nI 64) from fun h => e ((nI_eq (by omega) (by decide)).1 h))), pI_in_t (by omega) (by decide), pg_t, plet, r29, nI_clamp (by omega), nI_1, nI_1, ← es]
        refine hk _ ⟨_, rfl, ag.wI rfl, by omega, fun c hc => ?_⟩
        by_cases e2 : c = cN (sb (bC C) (C 0 2)) x
        · rw [e2, rI_s, hp]
        · rw [rI_k e2]
          exact h c (by omega)
    · rw [if_neg (fun h => q (sb_sp.1 h))] at es
      rw [if_neg (fun h => q ((spOK_m (by omega)).1 h)), nI_1]
      refine hk _ ⟨μ1, by rw [es]; rfl, ag, by omega, fun c hc => h c (by omega)⟩
  · rintro _ ⟨μ1, rfl, ag, h64, h⟩ k
    show T (f_X11_rests_22 F 203 k a (nI (spM C (C 0 2))) (nI (cN (sb (bC C) (C 0 2)) (spM C (C 0 2) + 1))) (nI (spM C (C 0 2) + 1)) μ1) _
    unfold f_X11_rests_22
    rw [if_pos (nI_lt (by omega) (by omega))]
    rw [hcM] at h h64 ⊢
    refine hgo μ1 ag (Nat.le_of_not_lt fun h6 => ?_) h
    have : 2 ^ 7 ≤ 2 ^ nN (bC C) (C 0 2) := Nat.pow_le_pow_right (by decide) h6
    omega
