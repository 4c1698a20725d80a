def kSd (a kk : Nat) : Bool := decide (a ≠ 27 ∧ a ≠ 226 ∧ (a ≠ 203 ∨ kk ≠ 0))
theorem holds_x {F q : Nat} {C P Y G : Nat → Nat → Nat} {S : Nat → Int32} {μ0 μ : aw_M} (hF : 300 ≤ F) (w : SdW C P Y G) (x : SdX C P Y G S μ0) (ag : AgK kSd μ0 μ) (hq : q < C 0 2) (h0 : 0 < Y 0 0) : T (f_X3_holds F 23 39 (nI q) μ) fun r => AgK kSd μ0 r.2 ∧ r.1 = stf Y (lf C P Y G S q) (Y 0 0) 0 := by
  obtain ⟨hwf, pw, fw, yw⟩ := w
  have y40 := yw.1
  have hone : yh Y (Y 0 0) = 1 := by rcases yw.2.1 with h | h <;> omega
  have r5 : aw_rf 23 5 = 27 ∧ aw_rf 23 2 = 24 := by simp only [rf0, rf1, rf4, rf5, rf19, rf23, rf28, rf39, rf53, rf67, rf71, rf76, rf88, rf97, rf101, rf109, rf110, rf124, rf128, rf133, rf144, rf156, rf157, rf171, rf175, rf180, rf191, rf51, and_self]
  have hag : ∀ μ', AgK kSd μ0 μ' → SdX C P Y G S μ' := fun μ' h => SdX_ag (fun a h1 h2 h3 => h.a fun k => decide_eq_true (by omega)) x
  have hyh : ∀ i, i ≤ Y 0 0 → yh Y i ≤ 20 := fun i hi => by
    cases i with
    | zero => exact Nat.zero_le _
    | succ i => exact (yw.2.2 i (by omega)).2.2.2.2.1
  have ne : ∀ a b, a < 1000 → b < 1000 → a ≠ b → ¬ nI a = nI b := fun a b ha hb hab h => hab ((nI_eq (by omega) (by omega)).1 h)
  unfold f_X3_holds
  refine T_lp (fun i s => ∃ μ', s = (nI q, nI (yh Y i), nI i, μ') ∧ AgK kSd μ0 μ' ∧ stk Y (lf C P Y G S q) i (μ'.1 27)) (Y 0 0) (by omega) ⟨μ, rfl, ag, fun k hk => absurd hk (Nat.not_lt_zero _)⟩ ?_ ?_
  · rintro i hi _ ⟨μ', rfl, ag', hst⟩ k hk
    obtain ⟨k9, k19, k11, k10, k20, kj, kn⟩ := yw.2.2 i hi
    have x' := hag μ' ag'
    obtain ⟨e1, -, -⟩ := x'.2.2.2.2.1.2 i hi
    have e1 : μ'.1 24 i = nI (Y 1 i) := e1
    have en : μ'.1 23 1 = nI (Y 0 0) := x'.2.2.2.2.1.1
    have h20 := hyh i (by omega)
    have m1 : 1 ≤ yh Y i → nI (yh Y i) - 1 = nI (yh Y i - 1) := fun h => nI_sub (b := 1) h
    have m1' : 1 ≤ yh Y i → nI (yh Y i) + -1 = nI (yh Y i - 1) := fun h => by
      rw [← m1 h]
      grind
    have m2 : 2 ≤ yh Y i → nI (yh Y i - 1) - 1 = nI (yh Y i - 2) := fun h => nI_sub (b := 1) (a := yh Y i - 1) (by omega)
    have b0 : ∀ b : Bool, nI (bN b) = 0 ↔ b = false := by decide
    have step : ∀ (j : Nat) (z : Bool), (yh Y (i + 1) = yh Y (i + 1)) → stk Y (lf C P Y G S q) (i + 1) ((aw_wI μ' 27 j (vp_nar .boolean (aw_b z))).1 27) → T (k (nI q, nI (yh Y (i + 1)), nI i + 1, aw_wI μ' 27 j (vp_nar .boolean (aw_b z)))) fun r => AgK kSd μ0 r.2 ∧ r.1 = stf Y (lf C P Y G S q) (Y 0 0) 0 := fun j z _ hs => by
      rw [nI_1]
      exact hk _ ⟨_, rfl, ag'.wI (decide_eq_false (by omega)), hs⟩
    show T (f_X3_holds_5 F 23 39 k (nI q) (nI (yh Y i)) (nI i) μ') _
    unfold f_X3_holds_5 f_X3_holds_188
    rw [en, if_neg (nI_ge hi (by omega)), pI_in_t (by omega) (by decide), pg_t, r5.2, nI_clamp (by omega), e1]
    by_cases c11 : Y 1 i = 11
    · have h1 := k11 c11
      have hs := hst (yh Y i - 1) (by omega)
      rw [c11, if_pos (show nI 11 = 11 from rfl), if_neg (show ¬ nI (yh Y i) ≤ 0 from (show ¬ nI (yh Y i) ≤ nI 0 from nI_ge h1 (by omega))), m1 h1, pI_in_t (by omega) (by decide), pg_t, r5.1, nI_clamp (by omega), hs]
      have fin : T (f_X3_holds_53 F 23 39 k (nI q) (nI (yh Y i)) (nI i) (!(stf Y (lf C P Y G S q) i (yh Y i - 1))) (nI (yh Y i - 1)) μ') fun r => AgK kSd μ0 r.2 ∧ r.1 = stf Y (lf C P Y G S q) (Y 0 0) 0 := by
        unfold f_X3_holds_53 f_X3_holds_188
        rw [pI_in_t (by omega) (by decide), pg_t, plet, r5.1, nI_clamp (by omega)]
        obtain ⟨eh, hs2⟩ := stk_11 (f' := (aw_wI μ' 27 (yh Y i - 1) (vp_nar .boolean (aw_b (!(stf Y (lf C P Y G S q) i (yh Y i - 1)))))).1 27) hst c11 (by rw [rI_s, nar_b]) (fun k hk => rI_k hk)
        have := step _ _ rfl hs2
        rw [eh] at this
        exact this
      cases hb : stf Y (lf C P Y G S q) i (yh Y i - 1) with
      | false =>
        rw [hb] at fin
        rw [if_pos (show nI (bN false) = 0 from rfl)]
        exact fin
      | true =>
        rw [hb] at fin
        rw [if_neg (show ¬ nI (bN true) = 0 by decide)]
        exact fin
    · rw [if_neg (show ¬ nI (Y 1 i) = 11 from ne _ 11 (by omega) (by decide) c11), pg_t]
      by_cases c10 : Y 1 i ≤ 10
      · have h2 := k10 c10
        have s1 := hst (yh Y i - 1) (by omega)
        have s2 := hst (yh Y i - 2) (by omega)
        have go : T (f_X3_holds_81 F 23 39 k (nI q) (nI (yh Y i)) (nI i) μ') fun r => AgK kSd μ0 r.2 ∧ r.1 = stf Y (lf C P Y G S q) (Y 0 0) 0 := by
          unfold f_X3_holds_81 f_X3_holds_132 f_X3_holds_156
          rw [if_neg (show ¬ nI (yh Y i) ≤ 1 from (show ¬ nI (yh Y i) ≤ nI 1 from nI_ge h2 (by omega))), pI_in_t (by omega) (by decide), pg_t, r5.2, nI_clamp (by omega), e1, m1' (by omega), m2 h2, pI_in_t (show yh Y i - 2 < 20 by omega) (by decide), pg_t, r5.1, nI_clamp (by omega), s2, pI_in_t (show yh Y i - 1 < 20 by omega) (by decide), pg_t, nI_clamp (by omega), s1]
          by_cases c : Y 1 i = 10
          · have fin : T (f_X3_holds_161 F 23 39 k (nI q) (nI (yh Y i - 1)) (nI i) (stf Y (lf C P Y G S q) i (yh Y i - 2) && stf Y (lf C P Y G S q) i (yh Y i - 1)) (nI (yh Y i - 2)) μ') fun r => AgK kSd μ0 r.2 ∧ r.1 = stf Y (lf C P Y G S q) (Y 0 0) 0 := by
              unfold f_X3_holds_161 f_X3_holds_188
              rw [pI_in_t (by omega) (by decide), pg_t, plet, r5.1, nI_clamp (by omega)]
              obtain ⟨eh, hs2⟩ := stk_10 (f' := (aw_wI μ' 27 (yh Y i - 2) (vp_nar .boolean (aw_b (stf Y (lf C P Y G S q) i (yh Y i - 2) && stf Y (lf C P Y G S q) i (yh Y i - 1))))).1 27) hst c h2 (by rw [rI_s, nar_b]) (fun k hk => rI_k hk)
              have := step _ _ rfl hs2
              rw [eh] at this
              exact this
            rw [c, if_pos (show nI 10 = 10 from rfl)]
            generalize stf Y (lf C P Y G S q) i (yh Y i - 2) = b1 at fin ⊢
            generalize stf Y (lf C P Y G S q) i (yh Y i - 1) = b2 at fin ⊢
            cases b1 <;> cases b2 <;> exact fin
          · have c9 : Y 1 i = 9 := by omega
            have fin : T (f_X3_holds_161 F 23 39 k (nI q) (nI (yh Y i - 1)) (nI i) (stf Y (lf C P Y G S q) i (yh Y i - 2) || stf Y (lf C P Y G S q) i (yh Y i - 1)) (nI (yh Y i - 2)) μ') fun r => AgK kSd μ0 r.2 ∧ r.1 = stf Y (lf C P Y G S q) (Y 0 0) 0 := by
              unfold f_X3_holds_161 f_X3_holds_188
              rw [pI_in_t (by omega) (by decide), pg_t, plet, r5.1, nI_clamp (by omega)]
              obtain ⟨eh, hs2⟩ := stk_9 (f' := (aw_wI μ' 27 (yh Y i - 2) (vp_nar .boolean (aw_b (stf Y (lf C P Y G S q) i (yh Y i - 2) || stf Y (lf C P Y G S q) i (yh Y i - 1))))).1 27) hst c9 h2 (by rw [rI_s, nar_b]) (fun k hk => rI_k hk)
              have := step _ _ rfl hs2
              rw [eh] at this
              exact this
            rw [c9, if_neg (show ¬ nI 9 = 10 by decide)]
            generalize stf Y (lf C P Y G S q) i (yh Y i - 2) = b1 at fin ⊢
            generalize stf Y (lf C P Y G S q) i (yh Y i - 1) = b2 at fin ⊢
            cases b1 <;> cases b2 <;> exact fin
        by_cases c : Y 1 i = 10
        · rw [c, if_pos (show nI 10 = 10 from rfl)]
          exact go
        · rw [if_neg (show ¬ nI (Y 1 i) = 10 from ne _ 10 (by omega) (by decide) c), pg_t, show Y 1 i = 9 by omega, if_pos (show nI 9 = 9 from rfl)]
          exact go
      · have hl := leaf_x hF ⟨hwf, pw, fw, yw⟩ x' hq hi (by omega)
        have eh2 : yh Y (i + 1) = yh Y i + 1 := by rw [yh_s, if_neg c11, if_neg c10]
        have h21 := hyh (i + 1) (by omega)
        rw [if_neg (show ¬ nI (Y 1 i) = 10 from ne _ 10 (by omega) (by decide) (by omega)), pg_t, if_neg (show ¬ nI (Y 1 i) = 9 from ne _ 9 (by omega) (by decide) (by omega)), if_neg (show ¬ (20 : Int32) ≤ nI (yh Y i) from (show ¬ nI 20 ≤ nI (yh Y i) from nI_ge (by omega) (by decide))), hl, Option.bind_some]
        dsimp only
        rw [pI_in_t (by omega) (by decide), pg_t, plet, r5.1, nI_clamp (by omega)]
        obtain ⟨eh, hs2⟩ := stk_l (f' := (aw_wI μ' 27 (yh Y i) (vp_nar .boolean (aw_b (lf C P Y G S q i)))).1 27) hst (by omega) (by rw [rI_s, nar_b]) (fun k hk => rI_k hk)
        have := step _ _ rfl hs2
        rw [eh, ← nI_1] at this
        exact this
  · rintro _ ⟨μ', rfl, ag', hst⟩ k
    have en : μ'.1 23 1 = nI (Y 0 0) := (hag μ' ag').2.2.2.2.1.1
    have hs := hst 0 (by omega)
    show T (f_X3_holds_5 F 23 39 k (nI q) (nI (yh Y (Y 0 0))) (nI (Y 0 0)) μ') _
    unfold f_X3_holds_5 f_X3_holds_194
    rw [en, if_pos (nI_le (Nat.le_refl _) (by omega)), hone, if_neg (show ¬ nI 1 ≤ 0 by decide), show aw_in 0 20 = true by decide, pg_t, r5.1, show (0 : Int32).toNatClampNeg = 0 by decide, hs]
    cases stf Y (lf C P Y G S q) (Y 0 0) 0 with
    | false =>
      rw [if_pos (show nI (bN false) = 0 from rfl), T_some]
      exact ⟨ag', rfl⟩
    | true =>
      rw [if_neg (show ¬ nI (bN true) = 0 by decide), T_some]
      exact ⟨ag', rfl⟩
theorem isSaid_m {F q : Nat} {C P Y G : Nat → Nat → Nat} {S : Nat → Int32} {μ0 μ : aw_M} (hF : 300 ≤ F) (w : SdW C P Y G) (m : SdM C P Y G S) (e5 : μ0.1 205 = S) (ag : AgK kSd μ0 μ) (hq : q < C 0 2) (h0 : 0 < Y 0 0) : T (f_X11_isSaid F 203 (nI q) μ) fun r => AgK kSd μ0 r.2 ∧ r.1 = stf Y (lf C P Y G S q) (Y 0 0) 0 := by
  obtain ⟨hwf, pw, fw, yw⟩ := w
  have y40 := yw.1
  have hone : yh Y (Y 0 0) = 1 := by rcases yw.2.1 with h | h <;> omega
  have r6 : aw_rf 203 6 = 205 := rf203.2.1
  have r48 : aw_rf 203 48 = 226 := rf203b.2.2.2.2.2.2.2.1
  have hyh : ∀ i, i ≤ Y 0 0 → yh Y i ≤ 20 := fun i hi => by
    cases i with
    | zero => exact Nat.zero_le _
    | succ i => exact (yw.2.2 i (by omega)).2.2.2.2.1
  have h205 : ∀ μ', AgK kSd μ0 μ' → μ'.1 205 = S := fun μ' h => (h.a fun k => decide_eq_true (by omega)).trans e5
  have ne : ∀ a b, a < 1000 → b < 1000 → a ≠ b → ¬ nI a = nI b := fun a b ha hb hab h => hab ((nI_eq (by omega) (by omega)).1 h)
  have y974 : S 974 = nI (Y 0 0) := m.2.2.2.1
  unfold f_X11_isSaid
  refine T_lp (fun i s => ∃ μ', s = (nI q, nI (yh Y i), nI i, μ') ∧ AgK kSd μ0 μ' ∧ stk Y (lf C P Y G S q) i (μ'.1 226)) (Y 0 0) (by omega) ⟨μ, rfl, ag, fun k hk => absurd hk (Nat.not_lt_zero _)⟩ ?_ ?_
  · rintro i hi _ ⟨μ', rfl, ag', hst⟩ k hk
    obtain ⟨k9, k19, k11, k10, k20, kj, kn⟩ := yw.2.2 i hi
    have e5' := h205 μ' ag'
    obtain ⟨f1, f2, f3⟩ := m.2.2.2.2 i hi
    have h20 := hyh i (by omega)
    have m1 : 1 ≤ yh Y i → nI (yh Y i) - 1 = nI (yh Y i - 1) := fun h => nI_sub (b := 1) h
    have m1' : 1 ≤ yh Y i → nI (yh Y i) + -1 = nI (yh Y i - 1) := fun h => by
      rw [← m1 h]
      grind
    have m2 : 2 ≤ yh Y i → nI (yh Y i - 1) - 1 = nI (yh Y i - 2) := fun h => nI_sub (b := 1) (a := yh Y i - 1) (by omega)
    have step : ∀ (j : Nat) (z : Bool), stk Y (lf C P Y G S q) (i + 1) ((aw_wI μ' 226 j (vp_nar .boolean (aw_b z))).1 226) → T (k (nI q, nI (yh Y (i + 1)), nI i + 1, aw_wI μ' 226 j (vp_nar .boolean (aw_b z)))) fun r => AgK kSd μ0 r.2 ∧ r.1 = stf Y (lf C P Y G S q) (Y 0 0) 0 := fun j z hs => by
      rw [nI_1]
      exact hk _ ⟨_, rfl, ag'.wI (decide_eq_false (by omega)), hs⟩
    have c975 : (975 : Int32) + 3 * nI i = nI (975 + 3 * i) := by
      rw [show (975 : Int32) = nI 975 from rfl, show (3 : Int32) = nI 3 from rfl, pk_mul, nI_add]
    have c976 : nI (975 + 3 * i) + 1 = nI (976 + 3 * i) := by rw [show (1 : Int32) = nI 1 from rfl, nI_add]; exact congrArg nI (by omega)
    have c977 : nI (975 + 3 * i) + 2 = nI (977 + 3 * i) := by rw [show (2 : Int32) = nI 2 from rfl, nI_add]; exact congrArg nI (by omega)
    show T (f_X11_isSaid_4 F 203 k (nI q) (nI (yh Y i)) (nI i) μ') _
    unfold f_X11_isSaid_4 f_X11_isSaid_206
    rw [show aw_in 974 1155 = true by decide, pg_t, r6, e5', show (974 : Int32).toNatClampNeg = 974 by decide, y974, if_neg (nI_ge hi (by omega)), plet, c975, pI_in_t (by omega) (by decide), pg_t, nI_clamp (by omega), f1]
    by_cases c11 : Y 1 i = 11
    · have h1 := k11 c11
      have hs := hst (yh Y i - 1) (by omega)
      rw [c11, if_pos (show nI (ycode 11) = 10 from rfl), m1 h1, pI_in_t (by omega) (by decide), pg_t, r48, nI_clamp (by omega), hs]
      have fin : T (f_X11_isSaid_60 F 203 k (nI q) (nI (yh Y i)) (nI i) (!(stf Y (lf C P Y G S q) i (yh Y i - 1))) (nI (yh Y i - 1)) μ') fun r => AgK kSd μ0 r.2 ∧ r.1 = stf Y (lf C P Y G S q) (Y 0 0) 0 := by
        unfold f_X11_isSaid_60 f_X11_isSaid_206
        rw [pI_in_t (by omega) (by decide), pg_t, plet, r48, nI_clamp (by omega)]
        obtain ⟨eh, hs2⟩ := stk_11 (f' := (aw_wI μ' 226 (yh Y i - 1) (vp_nar .boolean (aw_b (!(stf Y (lf C P Y G S q) i (yh Y i - 1)))))).1 226) hst c11 (by rw [rI_s, nar_b]) (fun k hk => rI_k hk)
        have := step _ _ hs2
        rw [eh] at this
        exact this
      cases hb : stf Y (lf C P Y G S q) i (yh Y i - 1) with
      | false =>
        rw [hb] at fin
        rw [if_pos (show nI (bN false) = 0 from rfl)]
        exact fin
      | true =>
        rw [hb] at fin
        rw [if_neg (show ¬ nI (bN true) = 0 by decide)]
        exact fin
    · have yc : ycode (Y 1 i) < 20 := by unfold ycode; split <;> (try split) <;> (try split) <;> omega
      have yc10 : ycode (Y 1 i) ≠ 10 := by unfold ycode; split <;> (try split) <;> (try split) <;> omega
      rw [if_neg (show ¬ nI (ycode (Y 1 i)) = 10 from ne _ 10 (by omega) (by decide) yc10), pg_t]
      by_cases c10 : Y 1 i ≤ 10
      · have h2 := k10 c10
        have s1 := hst (yh Y i - 1) (by omega)
        have s2 := hst (yh Y i - 2) (by omega)
        have go : T (f_X11_isSaid_88 F 203 k (nI q) (nI (yh Y i)) (nI i) (nI (975 + 3 * i)) μ') fun r => AgK kSd μ0 r.2 ∧ r.1 = stf Y (lf C P Y G S q) (Y 0 0) 0 := by
          unfold f_X11_isSaid_88 f_X11_isSaid_134 f_X11_isSaid_158
          rw [pI_in_t (by omega) (by decide), pg_t, r6, e5', nI_clamp (by omega), f1, m1' (by omega), m2 h2, pI_in_t (show yh Y i - 2 < 45 by omega) (by decide), pg_t, r48, nI_clamp (by omega), s2, pI_in_t (show yh Y i - 1 < 45 by omega) (by decide), pg_t, nI_clamp (by omega), s1]
          by_cases c : Y 1 i = 10
          · have fin : T (f_X11_isSaid_163 F 203 k (nI q) (nI (yh Y i - 1)) (nI i) (stf Y (lf C P Y G S q) i (yh Y i - 2) && stf Y (lf C P Y G S q) i (yh Y i - 1)) (nI (yh Y i - 2)) μ') fun r => AgK kSd μ0 r.2 ∧ r.1 = stf Y (lf C P Y G S q) (Y 0 0) 0 := by
              unfold f_X11_isSaid_163 f_X11_isSaid_206
              rw [pI_in_t (by omega) (by decide), pg_t, plet, r48, nI_clamp (by omega)]
              obtain ⟨eh, hs2⟩ := stk_10 (f' := (aw_wI μ' 226 (yh Y i - 2) (vp_nar .boolean (aw_b (stf Y (lf C P Y G S q) i (yh Y i - 2) && stf Y (lf C P Y G S q) i (yh Y i - 1))))).1 226) hst c h2 (by rw [rI_s, nar_b]) (fun k hk => rI_k hk)
              have := step _ _ hs2
              rw [eh] at this
              exact this
            rw [c, if_pos (show nI (ycode 10) = 11 from rfl)]
            generalize stf Y (lf C P Y G S q) i (yh Y i - 2) = b1 at fin ⊢
            generalize stf Y (lf C P Y G S q) i (yh Y i - 1) = b2 at fin ⊢
            cases b1 <;> cases b2 <;> exact fin
          · have c9 : Y 1 i = 9 := by omega
            have fin : T (f_X11_isSaid_163 F 203 k (nI q) (nI (yh Y i - 1)) (nI i) (stf Y (lf C P Y G S q) i (yh Y i - 2) || stf Y (lf C P Y G S q) i (yh Y i - 1)) (nI (yh Y i - 2)) μ') fun r => AgK kSd μ0 r.2 ∧ r.1 = stf Y (lf C P Y G S q) (Y 0 0) 0 := by
              unfold f_X11_isSaid_163 f_X11_isSaid_206
              rw [pI_in_t (by omega) (by decide), pg_t, plet, r48, nI_clamp (by omega)]
              obtain ⟨eh, hs2⟩ := stk_9 (f' := (aw_wI μ' 226 (yh Y i - 2) (vp_nar .boolean (aw_b (stf Y (lf C P Y G S q) i (yh Y i - 2) || stf Y (lf C P Y G S q) i (yh Y i - 1))))).1 226) hst c9 h2 (by rw [rI_s, nar_b]) (fun k hk => rI_k hk)
              have := step _ _ hs2
              rw [eh] at this
              exact this
            rw [c9, if_neg (show ¬ nI (ycode 9) = 11 by decide)]
            generalize stf Y (lf C P Y G S q) i (yh Y i - 2) = b1 at fin ⊢
            generalize stf Y (lf C P Y G S q) i (yh Y i - 1) = b2 at fin ⊢
            cases b1 <;> cases b2 <;> exact fin
        by_cases c : Y 1 i = 10
        · rw [c, if_pos (show nI (ycode 10) = 11 from rfl)]
          exact go
        · rw [show Y 1 i = 9 by omega, if_neg (show ¬ nI (ycode 9) = 11 by decide), pg_t, if_pos (show nI (ycode 9) = 12 from rfl)]
          exact go
      · have hl := leaf_m hF ⟨hwf, pw, fw, yw⟩ m e5' hq hi (by omega)
        have ec : ycode (Y 1 i) = Y 1 i - 12 := by
          unfold ycode
          rw [if_neg (by omega), if_neg (by omega), if_neg (by omega)]
        have eh2 : yh Y (i + 1) = yh Y i + 1 := by rw [yh_s, if_neg c11, if_neg c10]
        have h21 := hyh (i + 1) (by omega)
        rw [if_neg (show ¬ nI (ycode (Y 1 i)) = 11 from ne _ 11 (by omega) (by decide) (by omega)), pg_t, if_neg (show ¬ nI (ycode (Y 1 i)) = 12 from ne _ 12 (by omega) (by decide) (by omega)), c976, c977, pI_in_t (by omega) (by decide), pg_t, pI_in_t (by omega) (by decide), pg_t, nI_clamp (by omega), nI_clamp (by omega), f2, f3, pg_t, hl, Option.bind_some]
        dsimp only
        rw [pI_in_t (by omega) (by decide), pg_t, plet, r48, nI_clamp (by omega)]
        obtain ⟨eh, hs2⟩ := stk_l (f' := (aw_wI μ' 226 (yh Y i) (vp_nar .boolean (aw_b (lf C P Y G S q i)))).1 226) hst (by omega) (by rw [rI_s, nar_b]) (fun k hk => rI_k hk)
        have := step _ _ hs2
        rw [eh, ← nI_1] at this
        exact this
  · rintro _ ⟨μ', rfl, ag', hst⟩ k
    have hs := hst 0 (by omega)
    show T (f_X11_isSaid_4 F 203 k (nI q) (nI (yh Y (Y 0 0))) (nI (Y 0 0)) μ') _
    unfold f_X11_isSaid_4
    rw [show aw_in 974 1155 = true by decide, pg_t, r6, h205 μ' ag', show (974 : Int32).toNatClampNeg = 974 by decide, y974, if_pos (nI_le (Nat.le_refl _) (by omega)), show aw_in 0 45 = true by decide, pg_t, r48, show (0 : Int32).toNatClampNeg = 0 by decide, hs]
    cases stf Y (lf C P Y G S q) (Y 0 0) 0 with
    | false =>
      rw [show aw_isB (nI (bN false)) = true by decide, pg_t, T_some]
      exact ⟨ag', rfl⟩
    | true =>
      rw [show aw_isB (nI (bN true)) = true by decide, pg_t, T_some]
      exact ⟨ag', rfl⟩
