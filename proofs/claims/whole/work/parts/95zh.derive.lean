def kG (g a k : Nat) : Bool := decide (a < g ∨ g + 10 < a ∨ (a = g ∧ k ≠ 4 ∧ k ≠ 7))
theorem nar_b (b : Bool) : vp_nar .boolean (aw_b b) = nI (bN b) := by cases b <;> rfl
theorem pl_ltT {C : Nat → Nat → Nat} {p : Nat} (hw : qTWF C) (hq : p % 9 < C 0 2) (hp : p < 18) : pl C p < 100 := by
  have h := hw.2.1 (p % 9) hq
  have w := hw.1
  unfold pl
  by_cases e : p < 9
  · rw [if_pos e]
    rw [Nat.mod_eq_of_lt e] at h
    unfold cellok at h
    omega
  · have e2 : p % 9 = p - 9 := by omega
    rw [e2] at h
    rw [if_neg e]
    unfold cellok at h
    split <;> omega
theorem derive_x {F t g : Nat} {C : Nat → Nat → Nat} {μ : aw_M} (hF : 300 ≤ F) (hwf : qTWF C) (rt : tRf t) (rg : gRf g) (hg : g = t + 23) (tx : qTX C μ t) : T (f_X1_derive F g t μ) fun μ' => qGX C μ' g ∧ AgK (kG g) μ μ' := by
  have n9 : C 0 2 ≤ 9 := hwf.1.2.2.1
  have n20 : C 0 3 ≤ 20 := hwf.1.2.2.2
  have c6 : ∀ c, c < C 0 3 → C 6 c < 100 := fun c hc => by have := (hwf.2.2.2.1 c hc).2.1; have := hwf.1; unfold cellok at *; omega
  have c1 : ∀ q, q < C 0 2 → C 1 q < 100 := fun q hq => by have := (hwf.2.1 q hq).1; have := hwf.1; unfold cellok at *; omega
  unfold f_X1_derive
  refine T_lp (fun q s => ∃ μ', s = (nI q, μ') ∧ AgK (kO (g + 1) (g + 2)) μ μ' ∧ ∀ p, p < 18 → p % 9 < q → (∀ c, c < C 0 3 → μ'.1 (g + 1) (20 * p + c) = nI (dst (pl C p) (C 6 c))) ∧ μ'.1 (g + 2) p = nI (jsee C (pl C p))) (C 0 2) (by omega) ⟨μ, rfl, AgK.rf μ, fun p _ h => absurd h (Nat.not_lt_zero _)⟩ ?_ ?_
  · rintro q hq _ ⟨μ1, rfl, ag1, d1⟩ k hk
    have tx1 := kO_qTX ag1 (by omega) tx
    have q1 : μ1.1 (t + 2) q = nI (C 1 q) := (tx1.2.1 q hq).1
    have p9 : pl C q = C 1 q := if_pos (by omega)
    have hq9 := hwf.2.1 q hq
    show T (f_X1_derive_2 F g t k (nI q) μ1) _
    unfold f_X1_derive_2 f_X1_derive_53
    rw [tx1.1.2.2.1, if_neg (nI_ge hq (by omega)), pI_in_t (by omega) (by decide), pg_t, rt.2.1, nI_clamp (by omega), q1]
    refine T_call (measure_x (by omega) hwf rt rg hg tx1 (p := q) (by omega) (c1 q hq)) ?_
    rintro μ2 ⟨a1, a2, a3, a4, a5⟩
    have tx2 := kO_qTX a1 (by omega) tx1
    have q2 : μ2.1 (t + 2) q = nI (C 1 q) := (tx2.2.1 q hq).1
    have q5 : μ2.1 (t + 5) q = nI (C 4 q) - 1 := tx2.2.2.1 q (by omega)
    have pl9 : pl C (9 + q) = if C 4 q = 0 then C 1 q else C 4 q - 1 := by
      unfold pl
      rw [if_neg (by omega), show 9 + q - 9 = q by omega]
    have hc100 := pl_ltT (p := 9 + q) hwf (by omega) (by omega)
    have fin : T ((f_X1_measureFrom F g t (9 + nI q) (nI (pl C (9 + q))) μ2).bind fun r24 => k (nI q + 1, r24)) fun μ' => qGX C μ' g ∧ AgK (kG g) μ μ' := by
      rw [show (9 : Int32) + nI q = nI (9 + q) from nI_add 9 q]
      refine T_call (measure_x (by omega) hwf rt rg hg tx2 (p := 9 + q) (by omega) hc100) ?_
      rintro μ3 ⟨b1, b2, b3, b4, b5⟩
      rw [nI_1]
      refine hk _ ⟨μ3, rfl, (ag1.tr a1).tr b1, fun p hp hpq => ?_⟩
      by_cases e : p = 9 + q
      · subst e
        exact ⟨b2, b4⟩
      · rw [b5 p e]
        have hb3 : ∀ c, c < C 0 3 → μ3.1 (g + 1) (20 * p + c) = μ2.1 (g + 1) (20 * p + c) := fun c hc => b3 _ (by omega)
        by_cases e2 : p = q
        · subst e2
          refine ⟨fun c hc => ?_, ?_⟩
          · rw [hb3 c hc, p9]
            exact a2 c hc
          · rw [p9]
            exact a4
        · have old := d1 p hp (by omega)
          refine ⟨fun c hc => ?_, ?_⟩
          · rw [hb3 c hc, a3 _ (by omega)]
            exact old.1 c hc
          · rw [a5 p e2]
            exact old.2
    rw [pg_t, pg_t, pg_t, rt.2.2.2.2.1, q2, q5]
    by_cases e0 : C 4 q = 0
    · rw [if_pos (by rw [e0]; decide)]
      rw [pl9, if_pos e0] at fin
      exact fin
    · have hm : nI (C 4 q) - 1 = nI (C 4 q - 1) := nI_sub (b := 1) (by omega)
      have hlt : C 4 q - 1 < 100 := by
        rw [pl9, if_neg e0] at hc100
        exact hc100
      rw [hm, if_neg (fun h => by have := nI_pos' (n := C 4 q - 1) (by omega); rw [h] at this; exact absurd this (by decide))]
      rw [pl9, if_neg e0] at fin
      exact fin
  · rintro _ ⟨μ1, rfl, ag1, d1⟩ k
    have tx1 := kO_qTX ag1 (by omega) tx
    show T (f_X1_derive_2 F g t k (nI (C 0 2)) μ1) _
    unfold f_X1_derive_2 f_X1_derive_62
    rw [tx1.1.2.2.1, if_pos (nI_le (Nat.le_refl _) (by omega))]
    refine T_lp (fun c s => ∃ μ', s = (nI c, μ') ∧ AgK (kO (g + 1) (g + 4)) μ μ' ∧ μ'.1 (g + 1) = μ1.1 (g + 1) ∧ μ'.1 (g + 2) = μ1.1 (g + 2) ∧ ∀ c', c' < c → μ'.1 (g + 3) c' = nI (bN (decide (0 < nbr C 9 (C 6 c')))) ∧ μ'.1 (g + 4) c' = oI (prey C c')) (C 0 3) (by omega) ⟨μ1, rfl, ag1.sub (kO_sub (Nat.le_refl _) (by omega)), rfl, rfl, fun c h => absurd h (Nat.not_lt_zero _)⟩ ?_ ?_
    · rintro c hc _ ⟨μ', rfl, ag, g1, g2, g3⟩ k2 hk2
      have tx' := kO_qTX ag (by omega) tx
      have e6 : μ'.1 (t + 7) c = nI (C 6 c) := (tx'.2.2.2.1 c hc).2.1
      show T (f_X1_derive_64 F g t k2 (nI c) μ') _
      unfold f_X1_derive_64
      rw [tx'.1.2.2.2, if_neg (nI_ge hc (by omega)), pI_in_t (by omega) (by decide), pg_t, rt.2.2.2.2.2.2.1, nI_clamp (by omega), e6, nearCap_x (by omega) hwf rt tx' (c6 c hc), Option.bind_some]
      dsimp only
      rw [pg_t, rg.2.2.1, plet, nar_b]
      have ag4 : AgK (kO (g + 1) (g + 4)) μ (aw_wI μ' (g + 3) c (nI (bN (decide (0 < nbr C 9 (C 6 c)))))) := ag.wI (kO_i (by omega))
      have tx4 := kO_qTX ag4 (by omega) tx
      have hd : ∀ q, q < C 0 2 → (aw_wI μ' (g + 3) c (nI (bN (decide (0 < nbr C 9 (C 6 c)))))).1 (g + 1) (20 * q + c) = nI (dst (C 1 q) (C 6 c)) := fun q hq => by
        rw [rI_a (by omega), g1, (d1 q (by omega) (by omega)).1 c hc, show pl C q = C 1 q from if_pos (by omega)]
      rw [prey_x (by omega) hwf rg tx4 (by omega) hd (fun q hq => dst_le (c1 q hq) (c6 c hc)), Option.bind_some]
      dsimp only
      rw [pg_t, rg.2.2.2.1, plet, nI_1]
      refine hk2 _ ⟨_, rfl, ag4.wI (kO_i (by omega)), by rw [rI_a (by omega), rI_a (by omega)]; exact g1, by rw [rI_a (by omega), rI_a (by omega)]; exact g2, fun c' hc' => ?_⟩
      by_cases e : c' = c
      · subst e
        exact ⟨by rw [rI_a (by omega), rI_s], by rw [rI_s]⟩
      · rw [rI_a (show g + 3 ≠ g + 4 by omega), rI_k e, rI_k e, rI_a (show g + 4 ≠ g + 3 by omega)]
        exact g3 c' (by omega)
    · rintro _ ⟨μ2, rfl, ag, g1, g2, g3⟩ k2
      have tx2 := kO_qTX ag (by omega) tx
      show T (f_X1_derive_64 F g t k2 (nI (C 0 3)) μ2) _
      unfold f_X1_derive_64 f_X1_derive_106
      rw [tx2.1.2.2.2, if_pos (nI_le (Nat.le_refl _) (by omega))]
      refine T_call (drains_x (by omega) hwf rt rg hg tx2) ?_
      rintro μ3 ⟨ag3, d3⟩
      have tx3 := kD_qTX ag3 (by omega) tx2
      refine T_call (visits_x (by omega) hwf rt rg hg tx3) ?_
      rintro μ4 ⟨ag4, v1, v2⟩
      rw [T_some]
      have o3 : ∀ a, g + 1 ≤ a → a ≤ g + 4 → μ4.1 a = μ2.1 a := fun a h1 h2 => (ag4.a fun k => decide_eq_true (by omega)).trans (ag3.a fun k => decide_eq_true (by omega))
      have o4 : ∀ a, g + 5 ≤ a → a ≤ g + 6 → μ4.1 a = μ3.1 a := fun a h1 h2 => ag4.a fun k => decide_eq_true (by omega)
      have og : μ4.1 g 4 = μ3.1 g 4 := (ag4 g 4 (decide_eq_true (by omega))).1
      refine ⟨⟨fun p hp hpq => ?_, fun c hc => ?_, ?_, v1, v2.1⟩, ?_⟩
      · rw [o3 _ (by omega) (by omega), o3 _ (by omega) (by omega), g1, g2]
        exact d1 p hp hpq
      · rw [o3 _ (by omega) (by omega), o3 _ (by omega) (by omega)]
        exact g3 c hc
      · rw [og, o4 _ (by omega) (by omega), o4 _ (by omega) (by omega)]
        exact d3
      · intro a k h
        have h := of_decide_eq_true h
        have h1 := ag a k
        have h2 := ag3 a k
        have h3 := ag4 a k
        have e1 : kO (g + 1) (g + 4) a k = true := decide_eq_true (by omega)
        have e2 : kD g a k = true := decide_eq_true (by omega)
        have e3 : kV g a k = true := decide_eq_true (by omega)
        exact ⟨((h3 e3).1.trans (h2 e2).1).trans (h1 e1).1, ((h3 e3).2.trans (h2 e2).2).trans (h1 e1).2⟩
