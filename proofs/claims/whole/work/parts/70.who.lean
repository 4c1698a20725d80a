theorem who_x {F c : Nat} {h : Int32} {T G : Nat → Nat → Nat} {μ : aw_M} (hF : 100 ≤ F) (hwf : qTWF T) (fw : qFWF T G) (tx : qTX T μ 5) (fx : qFX T G μ 39) (hG : qGX T μ 28) (hc : c < T 0 3) : f_X0_throwersOf F 39 (nI c) h μ = some (wm T G c h (T 0 2), μ) := by
  have hnq := hwf.1.2.2.1
  have hnc := hwf.1.2.2.2
  have hcell : ∀ a, cellok T a → a < 100 := fun a h => by
    have := hwf.1
    unfold cellok at h
    omega
  have h6 := hcell _ (hwf.2.2.2.1 c hc).2.1
  have r0 : aw_rf 39 0 = 5 := by simp only [rf0, rf1, rf4, rf5, rf19, rf23, rf28, rf39, rf53, rf67, rf71, rf76, rf88, rf97, rf101, rf109, rf110, rf124, rf128, rf133, rf144, rf156, rf157, rf171, rf175, rf180, rf191, rf51]
  have r2 : aw_rf 39 2 = 28 := by simp only [rf0, rf1, rf4, rf5, rf19, rf23, rf28, rf39, rf53, rf67, rf71, rf76, rf88, rf97, rf101, rf109, rf110, rf124, rf128, rf133, rf144, rf156, rf157, rf171, rf175, rf180, rf191, rf51]
  have r9 : aw_rf 39 9 = 41 := by simp only [rf0, rf1, rf4, rf5, rf19, rf23, rf28, rf39, rf53, rf67, rf71, rf76, rf88, rf97, rf101, rf109, rf110, rf124, rf128, rf133, rf144, rf156, rf157, rf171, rf175, rf180, rf191, rf51]
  have r12 : aw_rf 39 12 = 44 := by simp only [rf0, rf1, rf4, rf5, rf19, rf23, rf28, rf39, rf53, rf67, rf71, rf76, rf88, rf97, rf101, rf109, rf110, rf124, rf128, rf133, rf144, rf156, rf157, rf171, rf175, rf180, rf191, rf51]
  have s0 : aw_rf 28 0 = 29 := by simp only [rf0, rf1, rf4, rf5, rf19, rf23, rf28, rf39, rf53, rf67, rf71, rf76, rf88, rf97, rf101, rf109, rf110, rf124, rf128, rf133, rf144, rf156, rf157, rf171, rf175, rf180, rf191, rf51]
  unfold f_X0_throwersOf
  refine lp_up (fun q => (nI c, h, wm T G c h q, nI q, μ)) (T 0 2) _ ?_ ?_ (by omega)
  · intro q hq g
    have h1 := hcell _ (hwf.2.1 q hq).1
    have hd := dst_le h1 h6
    have hpl : pl T q = T 1 q := by unfold pl; rw [if_pos (by omega)]
    have x3 : μ.1 5 3 = nI (T 0 2) := tx.1.2.2.1
    have ea : μ.1 29 (20 * q + c) = nI (dst (T 1 q) (T 6 c)) := by
      have := (hG.1 q (by omega) (by rw [Nat.mod_eq_of_lt (by omega)]; exact hq)).1 c hc
      rw [hpl] at this
      exact this
    have eb : μ.1 41 q = nI (G 0 q) := (fx.2.1 q hq).1
    have em : μ.1 44 q = nI (G 6 q) := (fx.2.1 q hq).2.1
    have hb := fw.2.1 q
    have e20 : nI q * 20 + nI c = nI (20 * q + c) := by
      have : nI q * 20 + nI c = 20 * nI q + nI c := by grind
      rw [this]
      simp (disch := omega) only [pI_lit, nI_add, nI_clamp, nI_leI, nI_ltI, nI_eq, pk_mul]
    show f_X0_throwersOf_5 F 39 g (nI c) h (wm T G c h q) (nI q) μ = g (nI c, h, (if whoc T G c h q = true then wm T G c h q ||| (1 <<< (nI q &&& 31)) else wm T G c h q), nI (q + 1), μ)
    unfold f_X0_throwersOf_5 f_X0_throwersOf_87 whoc
    have hh : f_X8_hitOf F 5 (nI q) (nI c) (nI (dst (T 1 q) (T 6 c))) (nI (G 6 q)) μ = some (nI (hitN T G q c (dst (T 1 q) (T 6 c))), μ) := hitOf_x hwf tx hq hc (by omega) (by omega)
    rw [r0, x3, if_neg (nI_ge hq (by omega)), e20, pI_in_t (by omega) (by decide), pg_t, r2, s0, nI_clamp (by omega), ea, plet, pI_in_t (by omega) (by decide), pg_t, r9, nI_clamp (by omega), eb, nI_1]
    by_cases k0 : G 0 q = 0
    · rw [if_pos (by rw [k0, nI_0]; decide), decide_eq_false (fun z => z k0), Bool.false_and, if_neg Bool.false_ne_true]
    · rw [if_neg (nI_nle (by omega) (by omega)), decide_eq_true k0, Bool.true_and, bars_x hwf hG hc (by omega), Option.bind_some]
      cases hbr : (decide (3 ≤ dst (T 1 q) (T 6 c)) && decide (0 < nbr T 9 (T 6 c))) with
      | true => rw [if_pos rfl, Bool.not_true, Bool.false_and, if_neg Bool.false_ne_true]
      | false =>
        rw [if_neg Bool.false_ne_true, Bool.not_false, Bool.true_and, pg_t, r12, show (false, μ).2.1 44 q = nI (G 6 q) from em, hh, Option.bind_some]
        by_cases k2 : nI (hitN T G q c (dst (T 1 q) (T 6 c))) = h
        · rw [if_pos k2, decide_eq_true k2, if_pos rfl, plet]
        · rw [if_neg k2, decide_eq_false k2, if_neg Bool.false_ne_true]
  · intro g
    show f_X0_throwersOf_5 F 39 g (nI c) h _ (nI (T 0 2)) μ = _
    unfold f_X0_throwersOf_5
    have x3 : μ.1 5 3 = nI (T 0 2) := tx.1.2.2.1
    rw [r0, x3, if_pos (nI_le (Nat.le_refl _) (by omega))]
