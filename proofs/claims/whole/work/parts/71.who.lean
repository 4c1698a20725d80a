theorem who_m {F c : Nat} {h : Int32} {T G : Nat → Nat → Nat} {μ : aw_M} (hF : 100 ≤ F) (hwf : qTWF T) (fw : qFWF T G) (tm : qTM T (μ.1 205)) (fm : qFM T G (μ.1 205)) (hc : c < T 0 3) : aw_loop (fun k s => f_X11_who_20 F 203 k s.1 s.2.1 s.2.2.1 s.2.2.2.1 s.2.2.2.2) F (nI c, h, 0, 0, μ) = some (wm T G c h (T 0 2), μ) := by
  have hnq := hwf.1.2.2.1
  have i2 : aw_in 2 1155 = true := by decide
  have c2 : (2 : Int32).toNatClampNeg = 2 := by decide
  have y3 := tm.1.2.2.1
  refine lp_up (fun q => (nI c, h, wm T G c h q, nI q, μ)) (T 0 2) _ ?_ ?_ (by omega)
  · intro q hq g
    have eb := (fm.2.1 q hq).1
    have hb := fw.2.1 q
    have ezz : ∀ x : Int32, x ||| 0 = x := fun x => by
      apply Int32.toBitVec_inj.1
      show x.toBitVec ||| 0#32 = x.toBitVec
      exact BitVec.or_zero
    show f_X11_who_20 F 203 g (nI c) h (wm T G c h q) (nI q) μ = g (nI c, h, (if whoc T G c h q = true then wm T G c h q ||| (1 <<< (nI q &&& 31)) else wm T G c h q), nI (q + 1), μ)
    unfold f_X11_who_20 f_X11_who_74 f_X11_who_75 whoc
    rw [i2, pg_t, c2, rf203.2.1, y3, if_neg (nI_ge hq (by omega)), show (458 : Int32) + nI q = nI (458 + q) from nI_add 458 q, pI_in_t (by omega) (by decide), pg_t, nI_clamp (by omega), eb, nI_1, plet, ezz]
    by_cases k0 : G 0 q = 0
    · rw [if_pos (by rw [k0, nI_0]; decide), decide_eq_false (fun z => z k0), Bool.false_and, if_neg Bool.false_ne_true]
    · rw [if_neg (nI_nle (by omega) (by omega)), decide_eq_true k0, Bool.true_and, isBarred_m hF hwf tm hq hc, Option.bind_some]
      cases hbr : (decide (3 ≤ dst (T 1 q) (T 6 c)) && decide (0 < nbr T 9 (T 6 c))) with
      | true => rw [if_pos rfl, Bool.not_true, Bool.false_and, if_neg Bool.false_ne_true, plet]
      | false =>
        rw [if_neg Bool.false_ne_true, Bool.not_false, Bool.true_and, hitOf_m hwf fw tm fm hq hc, Option.bind_some]
        by_cases k2 : nI (hitN T G q c (dst (T 1 q) (T 6 c))) = h
        · rw [if_pos k2, decide_eq_true k2, if_pos rfl, plet]
        · rw [if_neg k2, decide_eq_false k2, if_neg Bool.false_ne_true, plet]
  · intro g
    show f_X11_who_20 F 203 g (nI c) h _ (nI (T 0 2)) μ = _
    unfold f_X11_who_20
    rw [i2, pg_t, c2, rf203.2.1, y3, if_pos (nI_le (Nat.le_refl _) (by omega))]
theorem p_who : op_who R := by
  intro F hF a0 a1 μ hR
  have hR' := R_th (v := 0) hR
  obtain ⟨⟨C, W, P, Y, G, hS, hG⟩, hr⟩ := R_iff.1 hR
  obtain ⟨⟨hwf, tx, tm⟩, -, -, -, fw, fx, fm, -⟩ := hS
  have hnc := hwf.1.2.2.2
  unfold okI f_X10_who f_X11_who
  have r : aw_rf (aw_rf 0 1) 4 = 39 := by simp only [rf0, rf1, rf4, rf5, rf19, rf23, rf28, rf39, rf53, rf67, rf71, rf76, rf88, rf97, rf101, rf109, rf110, rf124, rf128, rf133, rf144, rf156, rf157, rf171, rf175, rf180, rf191, rf51]
  have e205 : (aw_wI μ 203 0 0).1 205 = μ.1 205 := by rw [rI_a (by decide)]
  have y4 : (aw_wI μ 203 0 0).1 205 3 = nI (C 0 3) := by rw [e205]; exact tm.1.2.2.2
  rw [xC hnc tx.1.2.2.2, Option.bind_some]
  by_cases h0 : 0 ≤ a0 ∧ a0 ≤ nI (C 0 3) - 1
  · obtain ⟨c, hc, rfl⟩ := ix_of (by omega) h0
    rw [decide_eq_true h0, if_pos rfl, r, who_x (by omega) hwf fw tx fx hG hc, Option.bind_some]
    refine ⟨_, rfl, ?_⟩
    show T (aw_let (aw_wI μ 203 0 0) _) _
    rw [plet, mC y4, Option.bind_some, decide_eq_true h0, if_pos rfl, who_m (by omega) hwf fw (by rw [e205]; exact tm) (by rw [e205]; exact fm) hc]
    exact ⟨_, rfl, rfl, hR'⟩
  · rw [decide_eq_false h0, if_neg Bool.false_ne_true]
    refine ⟨_, rfl, ?_⟩
    show T (aw_let (aw_wI μ 203 0 0) _) _
    rw [plet, mC y4, Option.bind_some, decide_eq_false h0, if_neg Bool.false_ne_true]
    exact ⟨_, rfl, rfl, hR'⟩
