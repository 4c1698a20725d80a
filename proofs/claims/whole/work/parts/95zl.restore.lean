/-- what restoring changes -/
def kRe (a kk : Nat) : Bool := decide (¬ (5 ≤ a ∧ a ≤ 50) ∧ ¬ (a = 203 ∧ kk = 0) ∧ a ≠ 205 ∧ a ≠ 208)
theorem restore_k {F k b : Nat} {μ : aw_M} (hF : 100000 ≤ F) (hk : k < 2) (hb : b = 109 + 47 * k) (rb : aw_rf 51 k = b) (ob : sOb b) (hR : R μ) (hq : qKept μ k b) : okZ R (f_X10_restore F 0 (nI k) μ) (fun μ1 => f_X11_restore F 203 (nI k) μ1) := by
  obtain ⟨hsc, htp, hfa, hkp, hpz, hK⟩ := R_iff.1 hR
  obtain ⟨x, hx1, e52, e229, hx⟩ := hq
  have hin : decide (0 ≤ nI k ∧ nI k ≤ 1) = true := decide_eq_true ⟨(show nI 0 ≤ nI k from nI_le (by omega) (by omega)), (show nI k ≤ nI 1 from nI_le (by omega) (by omega))⟩
  unfold okZ f_X10_restore
  rw [if_neg (nI_pos (by omega)), if_neg (show ¬ (2 : Int32) ≤ nI k from (show ¬ nI 2 ≤ nI k from nI_ge hk (by decide))), pI_in_t hk (by decide), pg_t, rf0.2.2.2.1, nI_clamp (by omega), e52]
  by_cases hx0 : x = 0
  · subst hx0
    rw [if_pos (show nI 0 = 0 from rfl), T_some]
    dsimp only
    unfold f_X11_restore
    rw [plet, isIn_eq, Option.bind_some, hin, if_pos rfl]
    dsimp only
    rw [pI_in_t hk (by decide), pg_t, rf203b.2.2.2.2.2.2.2.2.2.2, nI_clamp (by omega), rI_a (by decide), e229, if_pos (show nI 0 = 0 from rfl), T_some]
    exact ⟨rfl, R_th hR⟩
  · have hx1 : x = 1 := by omega
    subst hx1
    obtain ⟨C, W, P, Y, G, hS⟩ := hx rfl
    rw [if_neg (show ¬ nI 1 = 0 by decide), pg_t, rf0.2.2.1, rf0.2.1, rb]
    refine T_call (take_x (by omega) (by omega) ob sOb_4 hS) ?_
    rintro m1 ⟨s1, gx1, ag1⟩
    rw [T_some]
    dsimp only
    have a1 : AgK kRe μ (aw_wI m1 203 0 0) := (ag1.sub (fun a k h => decide_eq_true (by have := of_decide_eq_true h; omega))).wI (decide_eq_false (by omega))
    have s2 : qSC C W P Y G (aw_wI m1 203 0 0) 4 (fun i => μ.1 227 (1155 * k + i)) (fun i => μ.2 228 (9 * k + i)) := qSC_ag (μ := m1) (μ' := aw_wI m1 203 0 0) (fun a h1 h2 h3 h4 => by rw [rI_a (by omega)]) rfl s1
    have gx2 : qGX C (aw_wI m1 203 0 0) 28 := qGX_ag (fun a h1 h2 => by rw [rI_a (by omega)]) gx1
    unfold f_X11_restore
    rw [plet]
    generalize aw_wI m1 203 0 0 = m2 at a1 s2 gx2 ⊢
    have f227 : m2.1 227 = μ.1 227 := a1.a fun k => decide_eq_true (by omega)
    have f228 : m2.2 228 = μ.2 228 := a1.b fun k => decide_eq_true (by omega)
    rw [isIn_eq, Option.bind_some, hin, if_pos rfl]
    dsimp only
    rw [pI_in_t hk (by decide), pg_t, rf203b.2.2.2.2.2.2.2.2.2.2, nI_clamp (by omega), (a1 229 k (decide_eq_true (by omega))).1, e229, if_neg (show ¬ nI 1 = 0 by decide)]
    have e1155 : ∀ i, (1155 : Int32) * nI k + nI i = nI (1155 * k + i) := fun i => by rw [show (1155 : Int32) = nI 1155 from rfl]; rw [pk_mul, nI_add]
    have e9 : ∀ i, (9 : Int32) * nI k + nI i = nI (9 * k + i) := fun i => by rw [show (9 : Int32) = nI 9 from rfl]; rw [pk_mul, nI_add]
    refine T_lp (fun i s => ∃ μ', s = (nI k, nI i, μ') ∧ AgK kRe μ μ' ∧ (∀ j, j < i → μ'.1 205 j = μ.1 227 (1155 * k + j)) ∧ (∀ a, a ≠ 205 → μ'.1 a = m2.1 a) ∧ μ'.2 = m2.2) 1155 (by omega) ⟨m2, rfl, a1, fun j hj => absurd hj (Nat.not_lt_zero _), fun _ _ => rfl, rfl⟩ ?_ ?_
    · rintro i hi _ ⟨μ', rfl, ag, g1, g2, g3⟩ k2 hk2
      show T (f_X11_restore_27 F 203 k2 (nI k) (nI i) μ') _
      unfold f_X11_restore_27
      rw [if_neg (show ¬ (1155 : Int32) ≤ nI i from (show ¬ nI 1155 ≤ nI i from nI_ge hi (by decide))), e1155, pI_in_t (by omega) (by decide), pg_t, pI_in_t hi (by decide), pg_t, plet, rf203b.2.2.2.2.2.2.2.2.1, rf203.2.1, nI_clamp (by omega), nI_clamp (by omega), nI_1]
      refine hk2 _ ⟨_, rfl, ag.wI (decide_eq_false (by omega)), fun j hj => ?_, fun a ha => by rw [rI_a ha]; exact g2 a ha, g3⟩
      by_cases e : j = i
      · subst e
        rw [rI_s, g2 227 (by decide), f227]
      · rw [rI_k (by omega)]
        exact g1 j (by omega)
    · rintro _ ⟨m3, rfl, ag3, g1, g2, g3⟩ k2
      show T (f_X11_restore_27 F 203 k2 (nI k) (nI 1155) m3) _
      unfold f_X11_restore_27 f_X11_restore_58
      rw [if_pos (show (1155 : Int32) ≤ nI 1155 by decide)]
      refine T_lp (fun i s => ∃ μ', s = (nI k, nI i, μ') ∧ AgK kRe μ μ' ∧ (∀ j, j < i → μ'.2 208 j = μ.2 228 (9 * k + j)) ∧ (∀ a, a ≠ 208 → μ'.2 a = m2.2 a) ∧ μ'.1 = m3.1) 9 (by omega) ⟨m3, rfl, ag3, fun j hj => absurd hj (Nat.not_lt_zero _), fun a _ => by rw [g3], rfl⟩ ?_ ?_
      · rintro i hi _ ⟨μ', rfl, ag, q1, q2, q3⟩ k3 hk3
        show T (f_X11_restore_60 F 203 k3 (nI k) (nI i) μ') _
        unfold f_X11_restore_60
        rw [if_neg (show ¬ (9 : Int32) ≤ nI i from (show ¬ nI 9 ≤ nI i from nI_ge hi (by decide))), e9, pI_in_t (by omega) (by decide), pg_t, pI_in_t (by omega) (by decide), pg_t, plet, rf203b.2.2.2.2.2.2.2.2.2.1, rf203.2.2.2.2.1, nI_clamp (by omega), nI_clamp (by omega), nI_1]
        refine hk3 _ ⟨_, rfl, ag.wL (decide_eq_false (by omega)), fun j hj => ?_, fun a ha => by rw [rL_a ha]; exact q2 a ha, q3⟩
        by_cases e : j = i
        · subst e
          rw [rL_s, q2 228 (by decide), f228]
        · rw [rL_k (by omega)]
          exact q1 j (by omega)
      · rintro _ ⟨m4, rfl, ag4, q1, q2, q3⟩ k3
        show T (f_X11_restore_60 F 203 k3 (nI k) (nI 9) m4) _
        unfold f_X11_restore_60
        rw [if_pos (show (9 : Int32) ≤ nI 9 by decide), T_some]
        have o1 : ∀ a, a ≠ 205 → m4.1 a = m2.1 a := fun a h1 => by rw [q3]; exact g2 a h1
        have s5 : qSC C W P Y G m4 4 (fun i => μ.1 227 (1155 * k + i)) (fun i => μ.2 228 (9 * k + i)) := qSC_ag (fun a h1 h2 h3 h4 => o1 a (by omega)) (q2 _ (by decide)) s2
        have gx5 : qGX C m4 28 := qGX_ag (fun a h1 h2 => o1 a (by omega)) gx2
        refine ⟨rfl, R_iff.2 ⟨⟨C, W, P, Y, G, qSC_sn (fun i hi => ?_) (fun i hi => ?_) s5, gx5⟩, ?_, ?_, ?_, ?_, ?_⟩⟩
        · show m4.1 205 i = _
          rw [q3]; exact g1 i hi
        · exact q1 i hi
        · exact Rtp_ag (ag4.sub fun a kk h => decide_eq_true (by have := of_decide_eq_true h; omega)) htp
        · exact Rfa_ag (ag4.sub fun a kk h => decide_eq_true (by have := of_decide_eq_true h; omega)) hfa
        · exact Rkp_ag (ag4.sub fun a kk h => decide_eq_true (by have := of_decide_eq_true h; omega)) hkp
        · exact qPz_ag (ag4.sub fun a kk h => decide_eq_true (by have := of_decide_eq_true h; omega)) hpz
        · exact qK_ag (ag4.sub fun a kk h => decide_eq_true (by have := of_decide_eq_true h; omega)) hK
theorem p_restore : op_restore R := by
  intro F hF a0 μ hR
  by_cases h0 : a0 < 0
  · unfold okZ f_X10_restore f_X11_restore
    rw [if_pos h0, T_some]
    dsimp only
    rw [plet, isIn_eq, Option.bind_some, decide_eq_false (fun h => by have := h.1; grind), if_neg Bool.false_ne_true, T_some]
    exact ⟨rfl, R_th hR⟩
  · by_cases h2 : a0 < 2
    · obtain ⟨k, hk, rfl⟩ := nI_of2 (x := a0) (M := 1) (n := 1) (by decide) (by grind) (show a0 ≤ nI 1 from (show a0 ≤ 1 by grind))
      have hk2 : k = 0 ∨ k = 1 := by omega
      rcases hk2 with rfl | rfl
      · exact restore_k hF (by decide) rfl rf51.1 sOb_109 hR (R_iff.1 hR).2.2.2.1.1
      · exact restore_k hF (by decide) rfl rf51.2 sOb_156 hR (R_iff.1 hR).2.2.2.1.2
    · unfold okZ f_X10_restore f_X11_restore
      rw [if_neg h0, if_pos (show 2 ≤ a0 by grind), T_some]
      dsimp only
      rw [plet, isIn_eq, Option.bind_some, decide_eq_false (fun h => by have := h.2; grind), if_neg Bool.false_ne_true, T_some]
      exact ⟨rfl, R_th hR⟩
